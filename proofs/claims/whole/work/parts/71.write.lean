/-! writeLaying on both sides -/
noncomputable def mdl (m : Mm) (x : Int64) : Option Mm := (x_X7_isSetOf x).bind fun v => if zw v = 0 then x_X7_sayRun m x else x_X7_sayAscending m x
theorem meld_both {x : Int64} (hm : mld x) : ∃ L : List Nat, L.length = cnt (bs x) 64 ∧ (∀ (ρ : Mm) (B : List Int), HB 1 1 ρ B → B.length + 3 * L.length ≤ 64 → ∃ ρ', x_X4_writeMeld ρ x = some ρ' ∧ HB 1 1 ρ' (B ++ bl true L)) ∧ ∀ (m : Mm) (B : List Int), HB 19 10 m B → B.length + 3 * L.length ≤ 200 → ∃ m', mdl m x = some m' ∧ HB 19 10 m' (B ++ bl true L) ∧ MF m m' := by
  have hcw := mld_cw hm
  rcases hm with hm | hm
  · have hl := lo_low (.inl hm)
    have hl52 := cw_lt hcw hl.1
    refine ⟨asc x 52 0, asc_cnt hcw, fun ρ B h hb => ?_, fun m B h hb => ?_⟩
    · have e := cl_low hl hl52
      obtain ⟨ρ', a1, a2⟩ := X4_cards (x := x) hl52 52 0 ρ B true 0 (by omega) h (by rw [e]; exact hb) (by decide)
      rw [e] at a2
      refine ⟨ρ', ?_, a2⟩
      unfold x_X4_writeMeld
      rw [X6_kindOf hcw, (so_set hm).2, Option.bind_some, if_pos (by decide), X6_lowestOf hl, Option.bind_some]
      unfold x_X4_writeCards
      have a1 : lup (fun (s12 : Mm × Int × Int) => x_X4_writeCards_b6 x ((lo x : Nat) : Int) s12.1 s12.2.1 s12.2.2) (ρ, (0 : Int), (0 : Int)) = some ρ' := a1
      rw [a1]; rfl
    · obtain ⟨m', a1, a2, a3⟩ := X7_asc (x := x) 52 0 m B 0 (by omega) (Nat.le_refl 0) h hb
      refine ⟨m', ?_, a2, a3⟩
      unfold mdl
      rw [(so_set hm).1, Option.bind_some, if_neg d10]
      unfold x_X7_sayAscending
      have a1 : lup (fun (s11 : Mm × Int × Int) => x_X7_sayAscending_b5 x s11.1 s11.2.1 s11.2.2) (m, (0 : Int), (0 : Int)) = some m' := a1
      rw [a1]; rfl
  · have h1 := so_run hm
    have h2 := firstOf_eq (mld_cw (.inr hm)) (meld_nz (.inr hm))
    obtain ⟨s, f, n, b1, b2, b3, b4, b5⟩ := hm
    subst b5
    have hfi := (first_run b1 b2 b3 (show n ≤ 13 by omega)).1
    rw [if_neg (by omega)] at hfi
    have e : cl (run s f n) (13 * s + f) 52 0 = rnl s f n 0 := by rw [cl_R b1, clR_tab s b1 f b2 n (by omega)]
    refine ⟨rnl s f n 0, by rw [rnl_len, cnt_run b1 (by omega)], fun ρ B h hb => ?_, fun m B h hb => ?_⟩
    · obtain ⟨ρ', a1, a2⟩ := X4_cards (x := run s f n) (f := 13 * s + f) (by omega) 52 0 ρ B true 0 (by omega) h (by rw [e]; exact hb) (by decide)
      rw [e] at a2
      refine ⟨ρ', ?_, a2⟩
      unfold x_X4_writeMeld
      rw [X6_kindOf hcw, h1.2, Option.bind_some, if_neg (by decide), h2, hfi, Option.bind_some]
      unfold x_X4_writeCards
      have a1 : lup (fun (s12 : Mm × Int × Int) => x_X4_writeCards_b6 (run s f n) ((13 * s + f : Nat) : Int) s12.1 s12.2.1 s12.2.2) (ρ, (0 : Int), (0 : Int)) = some ρ' := a1
      rw [a1]; rfl
    · rw [rnl_len] at hb
      obtain ⟨m', a1, a2, a3⟩ := X7_rnl b1 b2 (show n ≤ 13 by omega) n 0 m B (by omega) h hb
      refine ⟨m', ?_, a2, a3⟩
      unfold mdl
      rw [h1.1, Option.bind_some, if_pos d00]
      unfold x_X7_sayRun
      rw [hfi, Option.bind_some, bnd_eq, zdiv13 (by omega), show (13 * s + f) / 13 = s by omega, show (s : Int) * 13 = ((13 * s : Nat) : Int) by omega]
      have a1 : lup (fun (s10 : Mm × Int) => x_X7_sayRun_b17 (run s f n) ((13 * s + f : Nat) : Int) ((13 * s : Nat) : Int) s10.1 s10.2) (m, (0 : Int)) = some m' := a1
      rw [a1]; rfl
def cost : List Int64 → Nat
  | [] => 0
  | x :: l => 3 * cnt (bs x) 64 + 1 + cost l
theorem dl_cost : ∀ {F : List Int64} {h u : Int64}, fam F u → (∀ m ∈ F, sb m h) → 3 * cnt (bs (dl (dif h u) F)) 64 + cost F = 3 * cnt (bs (dif h u)) 64 + F.length
  | [], h, u, _, _ => rfl
  | m :: F, h, u, hf, hs => by
    have ih := dl_cost (h := h) hf.2 (fun x hx => hs x (List.mem_cons_of_mem _ hx))
    have hm := hs m List.mem_cons_self
    have e1 : dif (dif h u) m = dif h (u ||| m) := by
      apply bs_ext
      intro c _
      rw [bs_dif2, bs_dif2, bs_dif2, bs_or]
      cases bs h c <;> cases bs u c <;> cases bs m c <;> rfl
    have h9 : sb m (dif h u) := (sb_iff _ _).mpr (fun c hc => by rw [bs_dif2, (sb_iff _ _).mp hm c hc, (dj_iff _ _).mp hf.1 c hc]; rfl)
    have h8 := cnt_dif h9
    rw [e1] at h8
    show 3 * cnt (bs (dl (dif (dif h u) m) F)) 64 + (3 * cnt (bs m) 64 + 1 + cost F) = 3 * cnt (bs (dif h u)) 64 + (F.length + 1)
    rw [e1]
    omega
/-- the melds, both sides in step -/
theorem melds_both {F : List Int64} (h3 : F.length ≤ 3) (hw : ∀ x ∈ F, mld x) (z : Nat) : ∀ (l : List Int64) (i : Nat) (σ m : Mm) (B : List Int), i ≤ F.length → F.drop i = l → σ 2 7 = (F.length : Int) → (∀ j x, F[j]? = some x → zL (σ 8 j) = x) → m 0 17 = (F.length : Int) → (∀ j x, F[j]? = some x → zL (m 23 j) = x) → HB 1 1 (zb zl_27 σ) B → HB 19 10 m B → B.length + cost l + z ≤ 64 → ∃ (σ' m' : Mm) (B' : List Int), lup (fun (s14 : Mm × Int) => x_X4_write_b7 s14.1 s14.2) (σ, (i : Int)) = some σ' ∧ lup (fun (s18 : Mm × Int) => x_X7_writeLaying_b27 s18.1 s18.2) (m, (i : Int)) = some m' ∧ HB 1 1 (zb zl_27 σ') B' ∧ HB 19 10 m' B' ∧ B'.length + z ≤ 64 ∧ MF m m' ∧ ∀ c, 2 ≤ c → σ' c = σ c := by
  intro l
  induction l with
  | nil =>
    intro i σ m B hi hd f7 f8 g17 g23 hB hm hz
    have : F.length ≤ i := List.drop_eq_nil_iff.mp hd
    have : i = F.length := by omega
    subst this
    refine ⟨σ, m, B, lup_inr ?_, lup_inr ?_, hB, hm, hz, MF_r m, fun _ _ => rfl⟩
    · show x_X4_write_b7 σ _ = _
      unfold x_X4_write_b7
      rw [f7, if_pos (Int.le_refl _)]
    · show x_X7_writeLaying_b27 m _ = _
      unfold x_X7_writeLaying_b27
      rw [g17, if_pos (Int.le_refl _)]
  | cons x l ih =>
    intro i σ m B hi hd f7 f8 g17 g23 hB hm hz
    obtain ⟨h1, h2, h4⟩ := drop_at hd
    have hx := hw x (List.mem_of_getElem? h1)
    obtain ⟨L, q1, q2, q3⟩ := meld_both hx
    have hz : B.length + (3 * cnt (bs x) 64 + 1 + cost l) + z ≤ 64 := hz
    have ei : (i : Int) + 1 = ((i + 1 : Nat) : Int) := by omega
    have hbl := bl_len true L
    -- with the blank or without
    have hmdl : ∀ (υ υ' : Mm), υ 23 = m 23 → mdl υ x = some υ' → x_X7_writeLaying_j45_27 υ (i : Int) = some (.inl (υ', (i : Int) + 1)) := fun υ υ' hυ hmd => by
      unfold x_X7_writeLaying_j45_27
      rw [if_pos (zin_i (by omega) (by omega) (by omega)), zix_nat (n := i) (by omega), hυ, g23 i x h1]
      unfold mdl at hmd
      rcases hx with hx | hx
      · rw [(so_set hx).1, Option.bind_some, if_neg d10] at hmd
        rw [(so_set hx).1, Option.bind_some, if_neg d10, if_pos (zin_i (by omega) (by omega) (by omega)), hmd, Option.bind_some]; rfl
      · rw [(so_run hx).1, Option.bind_some, if_pos d00] at hmd
        rw [(so_run hx).1, Option.bind_some, if_pos d00, if_pos (zin_i (by omega) (by omega) (by omega)), hmd, Option.bind_some]; rfl
    have key : ∃ (σ1 m1 : Mm) (B1 : List Int), x_X4_write_b7 σ (i : Int) = some (.inl (σ1, (i : Int) + 1)) ∧ x_X7_writeLaying_b27 m (i : Int) = some (.inl (m1, (i : Int) + 1)) ∧ HB 1 1 (zb zl_27 σ1) B1 ∧ HB 19 10 m1 B1 ∧ B1.length ≤ B.length + 3 * cnt (bs x) 64 + 1 ∧ MF m m1 ∧ ∀ c, 2 ≤ c → σ1 c = σ c := by
      by_cases e : i = 0
      · subst e
        obtain ⟨ρ', a1, a2⟩ := q2 (zb zl_27 σ) B hB (by omega)
        obtain ⟨m', b1, b2, b3⟩ := q3 m B hm (by omega)
        refine ⟨zj zl_27 σ ρ', m', B ++ bl true L, ?_, ?_, a2, b2, by rw [List.length_append]; omega, b3, fun c hc => by rw [zj_none _ _ (by unfold zq zqi zqi zqi; rw [if_neg (by omega), if_neg (by omega)])]⟩
        · unfold x_X4_write_b7
          have hfa : x_X1_foundAt (zb zl_26 σ) ((0 : Nat) : Int) = some x := X1_foundAt (σ := zb zl_26 σ) f7 f8 (by omega) h1
          rw [f7, if_neg (nle_n (by omega) (by omega)), if_pos (by decide), hfa, Option.bind_some, a1, Option.bind_some]; rfl
        · unfold x_X7_writeLaying_b27
          rw [g17, if_neg (nle_n (by omega) (by omega)), if_pos (by decide)]
          exact hmdl m m' rfl b1
      · obtain ⟨ρ1, c1, c2⟩ := X4_sign hB (by omega) 32
        obtain ⟨m1, d1, d2, d3⟩ := X7_say hm (by omega) 32
        have hl1 : (B ++ [sg 32]).length = B.length + 1 := by rw [List.length_append]; rfl
        obtain ⟨ρ', a1, a2⟩ := q2 (zb zl_27 (zj zl_27 σ ρ1)) (B ++ [sg 32]) c2 (by omega)
        obtain ⟨m', b1, b2, b3⟩ := q3 m1 (B ++ [sg 32]) d2 (by omega)
        have fr : ∀ (τ ρ : Mm) (c : Nat), 2 ≤ c → zj zl_27 τ ρ c = τ c := fun τ ρ c hc => by rw [zj_none _ _ (by unfold zq zqi zqi zqi; rw [if_neg (by omega), if_neg (by omega)])]
        refine ⟨zj zl_27 (zj zl_27 σ ρ1) ρ', m', (B ++ [sg 32]) ++ bl true L, ?_, ?_, a2, b2, by rw [List.length_append]; omega, MF_t d3 b3, fun c hc => by rw [fr _ _ c hc, fr _ _ c hc]⟩
        · unfold x_X4_write_b7
          have hfa : x_X1_foundAt (zb zl_26 (zj zl_27 σ ρ1)) (i : Int) = some x := X1_foundAt (σ := zb zl_26 (zj zl_27 σ ρ1)) f7 f8 (by omega) h1
          rw [f7, if_neg (nle_n (by omega) (by omega)), if_neg (by rw [zwn (by omega)]; omega), c1, Option.bind_some, bnd_eq, hfa, Option.bind_some, a1, Option.bind_some]; rfl
        · unfold x_X7_writeLaying_b27
          rw [g17, if_neg (nle_n (by omega) (by omega)), if_neg (by rw [zwn (by omega)]; omega), d1, Option.bind_some]
          exact hmdl m1 m' (d3.2 23 (by omega) (by omega)) b1
    obtain ⟨σ1, m1, B1, k1, k2, k3, k4, k5, k6, k7⟩ := key
    rw [lup_inl (f := fun (s14 : Mm × Int) => x_X4_write_b7 s14.1 s14.2) (s := (σ, (i : Int))) k1, lup_inl (f := fun (s18 : Mm × Int) => x_X7_writeLaying_b27 s18.1 s18.2) (s := (m, (i : Int))) k2, ei]
    obtain ⟨σ', m', B', r1, r2, r3, r4, r5, r6, r7⟩ := ih (i + 1) σ1 m1 B1 (by omega) h2 (by rw [k7 2 (by omega)]; exact f7) (by rw [k7 8 (by omega)]; exact f8) (by rw [k6.1 17 (by omega)]; exact g17) (by rw [k6.2 23 (by omega) (by omega)]; exact g23) k3 k4 (by omega)
    exact ⟨σ', m', B', r1, r2, r3, r4, r5, MF_t k6 r6, fun c hc => (r7 c hc).trans (k7 c hc)⟩
theorem R_report {N : Nat} {c m σ' m' : Mm} {B : List Int} (h : REL N c m) (hc : HB 1 1 σ' B) (hm : HB 19 10 m' B) (hl : B.length ≤ 64) (hF : MF m m') : REL N (zj zl_55 c σ') m' := by
  have e1 : ∀ i, i < 99 → (i < 77 ∨ 84 ≤ i) → zj zl_55 c σ' i = c i := fun i h1 h2 => by
    rw [zj_q _ _ _ _ (q_55 i (by omega)), if_neg (by omega), if_neg (by omega)]; rfl
  have e99 : zj zl_55 c σ' 99 = σ' 0 := rfl
  have e100 : zj zl_55 c σ' 100 = σ' 1 := rfl
  obtain ⟨r1, r2, r3, r4, ⟨L, t1, t2, t3, t4⟩, -⟩ := h
  obtain ⟨f3, f4⟩ := hF
  refine ⟨by rw [f4 1 (by omega) (by omega)]; exact r1, by rw [f4 1 (by omega) (by omega)]; exact MR_cells (fun i hi => e1 _ (by omega) (by omega)) r2, HRel_eq (fun i hi => e1 _ (by omega) (by omega)) (f3 3 (by omega)) (fun i i1 i2 => f4 i (by omega) (by omega)) r3, SRel_eq (fun i i1 i2 => e1 i (by omega) (by omega)) (fun i i1 i2 => f4 i (by omega) (by omega)) r4, ⟨L, t1, by rw [e1 74 (by omega) (by omega)]; exact t2, by rw [f3 8 (by omega)]; exact t3, fun i hi => by rw [f4 18 (by omega) (by omega), e1 75 (by omega) (by omega)]; exact t4 i hi⟩, ⟨B.length, hl, by rw [e99]; exact hc.1, hm.1, fun i hi => ?_⟩⟩
  have hi2 : B[i]? = some B[i] := List.getElem?_eq_getElem hi
  rw [e100, hc.2 i _ hi2, hm.2 i _ hi2]
theorem c_writeLaying {N : Nat} {c m : Mm} (h : REL N c m) {a : Int} (ha : zw a = a) : OK2 N [(0, 1)] c (x_X6_writeLaying c a) (x_X7_writeLaying m a) := by
  have h0 := REL_eq h (CE_r c) (ME_0 m 0)
  unfold x_X6_writeLaying x_X7_writeLaying
  rw [bnd_eq]
  by_cases e : 0 ≤ a ∧ a ≤ 1
  · rw [pl_ok ha e, Option.bind_some, req_1, Option.bind_some, np_ok ha e, Option.bind_some, un2_mk, if_pos d00]
    show OK2 N _ c (inlO _) _
    obtain ⟨p, hp, hap⟩ := pl_nat e
    subst hap
    obtain ⟨P, p1, p2, p3, -⟩ := R_hand h0 hp
    obtain ⟨σ1, s1, ⟨y1, y2, y3, y4⟩, s3⟩ := R_lay h0 p2.1 p3
    obtain ⟨l1, l2, l3, l4⟩ := Lay_ok p2.1 p3
    obtain ⟨m4, H, t1, ⟨u1, u2, u3, u4⟩, t3, t4⟩ := X7_layOutOf p2 p3
    have hm : ∀ x ∈ Lay P, mld x := fun x hx => (l2 x hx).2
    have hcost := dl_cost (h := P) (u := 0) l1 (fun y hy => (l2 y hy).1)
    rw [dif_0] at hcost
    have hR4 : REL N (zj zl_54 c σ1) m4 := REL_eq s3 (CE_r _) (ME_SK (SK_of t4))
    generalize hc4 : zj zl_54 c σ1 = c4 at s3 hR4
    generalize hσ0 : zu (zb zl_55 c4) 0 1 0 = σ0
    generalize hm5 : zu m4 0 10 0 = m5
    have w27 : σ0 2 7 = ((Lay P).length : Int) := by rw [← hσ0, ← hc4]; exact y1
    have w8 : ∀ j x, (Lay P)[j]? = some x → zL (σ0 8 j) = x := fun j x hj => by rw [← hσ0, ← hc4]; exact y2 j x hj
    have w29 : zL (σ0 2 9) = dl P (Lay P) := by rw [← hσ0, ← hc4]; exact y3
    have v17 : m5 0 17 = ((Lay P).length : Int) := by rw [← hm5, zu_miss _ _ _ _ (fun _ => by decide)]; exact u1
    have v23 : ∀ j x, (Lay P)[j]? = some x → zL (m5 23 j) = x := fun j x hj => by rw [← hm5]; exact u2 j x hj
    have v18 : zL (m5 0 18) = dl P (Lay P) := by rw [← hm5, zu_miss _ _ _ _ (fun _ => by decide)]; exact u3
    have hMF5 : MF m4 m5 := by
      rw [← hm5]
      exact ⟨fun j hj => zu_miss _ _ _ _ (fun _ => hj), fun k k1 k2 => by unfold zu; rw [if_neg k1]⟩
    have B0 : HB 1 1 (zb zl_27 σ0) [] := ⟨by rw [← hσ0]; show zu (zb zl_55 c4) 0 1 0 0 1 = 0; rw [zu_hit], fun i v hi => by simp at hi⟩
    have B0m : HB 19 10 m5 [] := ⟨by rw [← hm5, zu_hit]; rfl, fun i v hi => by simp at hi⟩
    have hcl := cnt_sb (dl_sb2 P (Lay P))
    obtain ⟨σ', m', B', r1, r2, r3, r4, r5, r6, r7⟩ := melds_both l4 hm (2 + 3 * cnt (bs (dl P (Lay P))) 64) (Lay P) 0 σ0 m5 [] (by omega) rfl w27 w8 v17 v23 B0 B0m (by show 0 + cost (Lay P) + (2 + 3 * cnt (bs (dl P (Lay P))) 64) ≤ 64; omega)
    have r1 : lup (fun (s14 : Mm × Int) => x_X4_write_b7 s14.1 s14.2) (σ0, (0 : Int)) = some σ' := r1
    have r2 : lup (fun (s18 : Mm × Int) => x_X7_writeLaying_b27 s18.1 s18.2) (m5, (0 : Int)) = some m' := r2
    have hc29 : zL (σ' 2 9) = dl P (Lay P) := by rw [r7 2 (by omega)]; exact w29
    have hm18 : zL (m' 0 18) = dl P (Lay P) := by rw [r6.1 18 (by omega)]; exact v18
    have hcw9 := dl_sb P (Lay P) p2.1
    rw [p1, Option.bind_some, s1, Option.bind_some, bnd_eq, hc4, t1, Option.bind_some, bnd_eq, hm5, r2, Option.bind_some, hm18]
    -- the class's write, to its end
    have fin : ∀ (σ9 m9 : Mm) (B9 : List Int), x_X4_write (zb zl_55 c4) = some σ9 → HB 1 1 σ9 B9 → HB 19 10 m9 B9 → B9.length ≤ 64 → MF m4 m9 → OK2 N [(0, 1)] c (inlO ((x_X4_write (zb zl_55 c4)).bind fun σ5 => bnd (zj zl_55 c4 σ5) fun σ6 => some (σ6, (σ6 99 1)))) (some (m9, m9 0 10)) := fun σ9 m9 B9 hw hb9 hm9 hl9 hf9 => by
      rw [hw, Option.bind_some, bnd_eq]
      refine .inl ⟨zj zl_55 c4 σ9, m9, (B9.length : Int), ?_, by rw [hm9.1], by rw [hf9.1 0 (by omega), t4.2 0 (by omega)]; rfl, R_report hR4 hb9 hm9 hl9 hf9⟩
      have : zj zl_55 c4 σ9 99 1 = (B9.length : Int) := hb9.1
      rw [this]; rfl
    by_cases w : dl P (Lay P) = 0
    · rw [if_pos (by rw [zcmp_e]; exact w)]
      refine fin σ' m' B' ?_ r3 r4 (by omega) (MF_t hMF5 r6)
      unfold x_X4_write
      rw [bnd_eq, hσ0, r1, Option.bind_some, hc29, if_pos (by rw [zcmp_e]; exact w)]
    · have hwz : ¬ zw (zcmp (dl P (Lay P)) 0) = 0 := by rw [zcmp_e]; exact w
      have hl := lo_spec w
      have hl52 := cw_lt hcw9 hl.1
      have ecl := cl_low hl hl52
      have elen := asc_cnt hcw9
      have b01 : σ' 0 1 = (B'.length : Int) := r3.1
      have b10 : m' 0 10 = (B'.length : Int) := r4.1
      rw [if_neg hwz, b10]
      by_cases q : B'.length = 0
      · have qz : zw (B'.length : Int) ≤ 0 := by rw [q]; decide
        rw [if_pos qz]
        obtain ⟨ρ1, c1, c2⟩ := X4_sign r3 (by omega) 45
        obtain ⟨m1, d1, d2, d3⟩ := X7_say r4 (by omega) 45
        have hl1 : (B' ++ [sg 45]).length = B'.length + 1 := by rw [List.length_append]; rfl
        have hbl := bl_len true (asc (dl P (Lay P)) 52 0)
        obtain ⟨ρ2, f1, f2⟩ := X4_cards (x := dl P (Lay P)) hl52 52 0 (zb zl_27 (zj zl_27 σ' ρ1)) (B' ++ [sg 45]) true 0 (by omega) c2 (by rw [ecl, elen]; omega) (by decide)
        obtain ⟨m2, g1, g2, g3⟩ := X7_asc (x := dl P (Lay P)) 52 0 m1 (B' ++ [sg 45]) 0 (by omega) (Nat.le_refl 0) d2 (by rw [elen]; omega)
        rw [ecl] at f2
        have hsa : x_X7_sayAscending m1 (dl P (Lay P)) = some m2 := by
          unfold x_X7_sayAscending
          have g1 : lup (fun (s11 : Mm × Int × Int) => x_X7_sayAscending_b5 (dl P (Lay P)) s11.1 s11.2.1 s11.2.2) (m1, (0 : Int), (0 : Int)) = some m2 := g1
          rw [g1]; rfl
        have hwc : x_X4_writeCards (zb zl_27 (zj zl_27 σ' ρ1)) (dl P (Lay P)) ((lo (dl P (Lay P)) : Nat) : Int) = some ρ2 := by
          unfold x_X4_writeCards
          have f1 : lup (fun (s12 : Mm × Int × Int) => x_X4_writeCards_b6 (dl P (Lay P)) ((lo (dl P (Lay P)) : Nat) : Int) s12.1 s12.2.1 s12.2.2) (zb zl_27 (zj zl_27 σ' ρ1), (0 : Int), (0 : Int)) = some ρ2 := f1
          rw [f1]; rfl
        have h18 : zL (m1 0 18) = dl P (Lay P) := by rw [d3.1 18 (by omega)]; exact hm18
        have h29 : zL (zj zl_27 σ' ρ1 2 9) = dl P (Lay P) := hc29
        rw [d1, Option.bind_some, h18, hsa, Option.bind_some]
        refine fin (zj zl_27 (zj zl_27 σ' ρ1) ρ2) m2 _ ?_ f2 g2 (by rw [List.length_append]; omega) (MF_t hMF5 (MF_t r6 (MF_t d3 g3)))
        unfold x_X4_write
        rw [bnd_eq, hσ0, r1, Option.bind_some, hc29, if_neg hwz, b01, if_pos qz, c1, Option.bind_some, bnd_eq, h29, X6_lowestOf hl, Option.bind_some, hwc, Option.bind_some]; rfl
      · have qz : ¬ zw (B'.length : Int) ≤ 0 := by rw [zwn (by omega)]; omega
        rw [if_neg qz]
        obtain ⟨ρ0, a1, a2⟩ := X4_sign r3 (by omega) 32
        obtain ⟨m0, a3, a4, a5⟩ := X7_say r4 (by omega) 32
        have hl0 : (B' ++ [sg 32]).length = B'.length + 1 := by rw [List.length_append]; rfl
        obtain ⟨ρ1, c1, c2⟩ := X4_sign (ρ := zb zl_27 (zj zl_27 σ' ρ0)) a2 (by omega) 45
        obtain ⟨m1, d1, d2, d3⟩ := X7_say a4 (by omega) 45
        have hl1 : (B' ++ [sg 32] ++ [sg 45]).length = B'.length + 2 := by rw [List.length_append, hl0]; rfl
        have hbl := bl_len true (asc (dl P (Lay P)) 52 0)
        obtain ⟨ρ2, f1, f2⟩ := X4_cards (x := dl P (Lay P)) hl52 52 0 (zb zl_27 (zj zl_27 (zj zl_27 σ' ρ0) ρ1)) (B' ++ [sg 32] ++ [sg 45]) true 0 (by omega) c2 (by rw [ecl, elen]; omega) (by decide)
        obtain ⟨m2, g1, g2, g3⟩ := X7_asc (x := dl P (Lay P)) 52 0 m1 (B' ++ [sg 32] ++ [sg 45]) 0 (by omega) (Nat.le_refl 0) d2 (by rw [elen]; omega)
        rw [ecl] at f2
        have hsa : x_X7_sayAscending m1 (dl P (Lay P)) = some m2 := by
          unfold x_X7_sayAscending
          have g1 : lup (fun (s11 : Mm × Int × Int) => x_X7_sayAscending_b5 (dl P (Lay P)) s11.1 s11.2.1 s11.2.2) (m1, (0 : Int), (0 : Int)) = some m2 := g1
          rw [g1]; rfl
        have hwc : x_X4_writeCards (zb zl_27 (zj zl_27 (zj zl_27 σ' ρ0) ρ1)) (dl P (Lay P)) ((lo (dl P (Lay P)) : Nat) : Int) = some ρ2 := by
          unfold x_X4_writeCards
          have f1 : lup (fun (s12 : Mm × Int × Int) => x_X4_writeCards_b6 (dl P (Lay P)) ((lo (dl P (Lay P)) : Nat) : Int) s12.1 s12.2.1 s12.2.2) (zb zl_27 (zj zl_27 (zj zl_27 σ' ρ0) ρ1), (0 : Int), (0 : Int)) = some ρ2 := f1
          rw [f1]; rfl
        have h18 : zL (m1 0 18) = dl P (Lay P) := by rw [d3.1 18 (by omega), a5.1 18 (by omega)]; exact hm18
        have h29 : zL (zj zl_27 (zj zl_27 σ' ρ0) ρ1 2 9) = dl P (Lay P) := hc29
        rw [a3, Option.bind_some, d1, Option.bind_some, h18, hsa, Option.bind_some]
        refine fin (zj zl_27 (zj zl_27 (zj zl_27 σ' ρ0) ρ1) ρ2) m2 _ ?_ f2 g2 (by rw [List.length_append]; omega) (MF_t hMF5 (MF_t r6 (MF_t a5 (MF_t d3 g3))))
        unfold x_X4_write
        rw [bnd_eq, hσ0, r1, Option.bind_some, hc29, if_neg hwz, b01, if_neg qz, a1, Option.bind_some, bnd_eq, c1, Option.bind_some, bnd_eq, h29, X6_lowestOf hl, Option.bind_some, hwc, Option.bind_some]; rfl
  · rw [pl_no ha e, Option.bind_some, req_0, Option.bind_some, np_no ha e, Option.bind_some, un2_mk, if_neg d10]
    exact .inr ⟨0, 1, _, _, .head _, rfl, rfl, rfl, REL_eq h0 (CE_r c) (ME_0 _ 1)⟩
