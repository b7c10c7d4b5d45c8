/-! THE LAYING and its rest, whatever row of melds it is found by -/
theorem mfr_mem2 {A : Nat → Int64 × Int} : ∀ {k i j : Nat}, i ≤ j → j < i + k → (A j).1 ∈ mfr A k i
  | 0, i, j, h1, h2 => by omega
  | k + 1, i, j, h1, h2 => by
    by_cases e : j = i
    · subst e; exact List.mem_cons_self
    · exact List.mem_cons_of_mem _ (mfr_mem2 (by omega) (by omega))
theorem mfr_pw {A : Nat → Int64 × Int} {R : Int64 → Int64 → Prop} : ∀ {k i : Nat}, (∀ a b, i ≤ a → a < b → b < i + k → R (A a).1 (A b).1) → (mfr A k i).Pairwise R
  | 0, i, _ => List.Pairwise.nil
  | k + 1, i, h => by
    refine List.pairwise_cons.mpr ⟨fun x hx => ?_, mfr_pw (fun a b h1 h2 h3 => h a b (by omega) h2 (by omega))⟩
    obtain ⟨j, j1, j2, j3⟩ := mfr_mem hx
    rw [← j3]
    exact h i j (Nat.le_refl _) (by omega) (by omega)
theorem X1_groups {p : Int64} (hp : cw p) (h11 : cnt (bs p) 64 ≤ 11) {A : Nat → Int64 × Int} (hs : srt A (cAll p).length) (hm : ∀ q, (∃ j, j < (cAll p).length ∧ A j = q) ↔ q ∈ cAll p) : GG (gC (mfr A (cAll p).length 0)) p ∧ lL (gC (mfr A (cAll p).length 0)) 52 = mfr A (cAll p).length 0 := by
  generalize hn : (cAll p).length = n at *
  have hq : ∀ j, j < n → okM (A j) ∧ (A j).2 = (kd (A j).1 : Int) ∧ cnt (bs (A j).1) 64 ≤ 11 ∧ sb (A j).1 p ∧ (isSet (A j).1 ∨ isRun (A j).1) := fun j hj => by
    have h1 := (hm (A j)).mp ⟨j, hj, rfl⟩
    obtain ⟨a1, a2, a3⟩ := cAll_ok hp h11 _ h1
    obtain ⟨b1, b2⟩ := (cAll_mem hp h11).mp h1
    have := cnt_sb a2
    rcases b2 with ⟨c1, c2⟩ | ⟨c1, c2⟩
    · exact ⟨a1, by rw [c1, kd_1 c2]; rfl, by omega, a2, .inl c2⟩
    · exact ⟨a1, by rw [c1, kd_2 c2]; rfl, by omega, a2, .inr c2⟩
  have hrel : ∀ a b, a < b → b < n → lo (A a).1 ≤ lo (A b).1 ∧ (lo (A a).1 = lo (A b).1 → mR (A a).1 ≤ mR (A b).1) := fun a b h1 h2 => by
    obtain ⟨a1, a2, a3, -⟩ := hq a (by omega)
    obtain ⟨b1, b2, b3, -⟩ := hq b h2
    exact rk_mR a1 b1 a2 b2 a3 b3 (hs a b h1 h2)
  have hL : ∀ m, m ∈ mfr A n 0 ↔ sb m p ∧ (isSet m ∨ isRun m) := fun m => by
    constructor
    · intro h
      obtain ⟨j, -, j2, j3⟩ := mfr_mem h
      obtain ⟨-, -, -, c1, c2⟩ := hq j (by omega)
      rw [j3] at c1 c2
      exact ⟨c1, c2⟩
    · rintro ⟨h1, h2⟩
      have h3 : ∃ k : Int, (m, k) ∈ cAll p := by
        rcases h2 with h | h
        · exact ⟨1, (cAll_mem hp h11).mpr ⟨h1, .inl ⟨rfl, h⟩⟩⟩
        · exact ⟨2, (cAll_mem hp h11).mpr ⟨h1, .inr ⟨rfl, h⟩⟩⟩
      obtain ⟨k, hk⟩ := h3
      obtain ⟨j, j1, j2⟩ := (hm _).mpr hk
      have : (A j).1 = m := by rw [j2]
      rw [← this]
      exact mfr_mem2 (Nat.zero_le _) (by omega)
  have hp1 : (mfr A n 0).Pairwise (fun a b => lo a ≤ lo b) := mfr_pw (fun a b _ h1 h2 => (hrel a b h1 (by omega)).1)
  have hp2 : (mfr A n 0).Pairwise (fun a b => lo a = lo b → mR a ≤ mR b) := mfr_pw (fun a b _ h1 h2 => (hrel a b h1 (by omega)).2)
  refine ⟨⟨fun k m => ?_, fun k => ?_⟩, gC_L hp1 (fun m hm9 => ?_)⟩
  · unfold gC
    rw [List.mem_filter, hL, decide_eq_true_eq]
    exact ⟨fun ⟨⟨a, b⟩, c⟩ => ⟨a, b, c⟩, fun ⟨a, b, c⟩ => ⟨⟨a, b⟩, c⟩⟩
  · unfold gC
    have h3 := hp2.filter (fun m => decide (lo m = k))
    refine h3.imp_of_mem (fun ha hb hab => hab ?_)
    have e1 := (List.mem_filter.mp ha).2
    have e2 := (List.mem_filter.mp hb).2
    simp only [decide_eq_true_eq] at e1 e2
    omega
  · obtain ⟨h1, h2⟩ := (hL m).mp hm9
    exact cw_lt (cw_sb h1 hp) (lo_spec (meld_nz h2)).1
theorem GG_ex {p : Int64} (hp : cw p) (h11 : cnt (bs p) 64 ≤ 11) : ∃ g, GG g p := by
  obtain ⟨σ', A, -, h2, h3, -⟩ := X1_lay (fun _ _ => 0) hp h11 (cAll_len hp h11) (cAll_ok hp h11)
  exact ⟨_, (X1_groups hp h11 h2 h3).1⟩
noncomputable def Lay (p : Int64) : List Int64 := @dite _ (∃ g, GG g p) (Classical.propDecidable _) (fun h => lG h.choose 52 p) (fun _ => [])
noncomputable def RR (p S : Int64) : Nat := @dite _ (∃ g, GG g p) (Classical.propDecidable _) (fun h => lR h.choose 52 S) (fun _ => 0)
theorem Lay_eq {g : Nat → List Int64} {p : Int64} (h : GG g p) : Lay p = lG g 52 p := by
  unfold Lay
  have hx : ∃ g, GG g p := ⟨g, h⟩
  rw [dif_pos hx]
  exact (GG_eq hx.choose_spec h).2 52 p
theorem RR_eq {g : Nat → List Int64} {p : Int64} (h : GG g p) (S : Int64) : RR p S = lR g 52 S := by
  unfold RR
  have hx : ∃ g, GG g p := ⟨g, h⟩
  rw [dif_pos hx]
  exact (GG_eq hx.choose_spec h).1 52 S
theorem open_S {h u : Int64} (hh : cw h) (c : Nat) : bs (dif h u) c = (decide (52 - 52 ≤ c) && (bs h c && !bs u c)) := by
  rw [bs_dif2]; simp
theorem X1_lay2 (σ : Mm) {p : Int64} (hp : cw p) (h11 : cnt (bs p) 64 ≤ 11) : ∃ σ', x_X1_lay σ p = some σ' ∧ LYS σ' p (Lay p) := by
  obtain ⟨σ', A, h1, h2, h3, h4⟩ := X1_lay σ hp h11 (cAll_len hp h11) (cAll_ok hp h11)
  obtain ⟨g1, g2⟩ := X1_groups hp h11 h2 h3
  refine ⟨σ', h1, ?_⟩
  have h5 := (lay_main (GG_ok g1) hp 52 (Nat.le_refl _) 0 p (fun c => by rw [bs_0]; simp)).2
  rw [g2] at h5
  rw [Lay_eq g1, ← h5]
  exact h4
/-! Families of melds apart from one another -/
def fam : List Int64 → Int64 → Prop
  | [], _ => True
  | m :: F, u => m &&& u = 0 ∧ fam F (u ||| m)
def sW : List Int64 → Nat
  | [] => 0
  | m :: F => lW m + sW F
theorem or_comm3 (u a b : Int64) : u ||| a ||| b = u ||| b ||| a := by
  apply bs_ext
  intro c _
  rw [bs_or, bs_or, bs_or, bs_or]
  cases bs u c <;> cases bs a c <;> cases bs b c <;> rfl
theorem fam_dj : ∀ {F : List Int64} {u y : Int64}, fam F u → y ∈ F → y &&& u = 0
  | m :: F, u, y, h, hy => by
    rcases List.mem_cons.mp hy with e | e
    · rw [e]; exact h.1
    · have := fam_dj h.2 e
      rw [dj_iff] at this ⊢
      intro c hc
      have := this c hc
      rw [bs_or] at this
      simp only [Bool.or_eq_false_iff] at this
      exact this.1
theorem fam_er : ∀ {F : List Int64} {u m : Int64}, fam F u → m ∈ F → fam (F.erase m) (u ||| m) ∧ sW F = lW m + sW (F.erase m)
  | x :: F, u, m, h, hm => by
    by_cases e : x = m
    · subst e
      rw [List.erase_cons_head]
      exact ⟨h.2, rfl⟩
    · have hm2 : m ∈ F := by
        rcases List.mem_cons.mp hm with z | z
        · exact absurd z.symm e
        · exact z
      obtain ⟨a, b⟩ := fam_er h.2 hm2
      have hd := fam_dj h.2 hm2
      rw [List.erase_cons_tail (by simpa using e)]
      refine ⟨⟨?_, by rw [or_comm3]; exact a⟩, ?_⟩
      · rw [dj_iff]
        intro c hc
        rw [bs_or, (dj_iff _ _).mp h.1 c hc]
        cases z : bs m c
        · rfl
        · have := (dj_iff _ _).mp hd c z
          rw [bs_or, hc] at this
          simp at this
      · show lW x + sW F = lW m + (lW x + sW (F.erase m))
        omega
theorem lB_fam : ∀ {L : List Int64} {u : Int64} {F : List Int64}, (∀ m ∈ L, m ≠ 0) → fam F u → (∀ y ∈ F, y ∈ L) → sW F ≤ lB L u
  | [], u, F, _, _, hF => by
    cases F with
    | nil => exact Nat.le_refl _
    | cons y F => exact absurd (hF y List.mem_cons_self) List.not_mem_nil
  | m :: r, u, F, hn, hf, hF => by
    have hn2 : ∀ x ∈ r, x ≠ 0 := fun x hx => hn x (List.mem_cons_of_mem _ hx)
    rw [lB_cons]
    by_cases e : m ∈ F
    · obtain ⟨a, b⟩ := fam_er hf e
      have hsub : ∀ y ∈ F.erase m, y ∈ r := fun y hy => by
        rcases List.mem_cons.mp (hF y (List.mem_of_mem_erase hy)) with z | z
        · exfalso
          have h1 := fam_dj a hy
          rw [z] at h1
          apply hn m List.mem_cons_self
          rw [bs_nz]
          intro c
          cases w : bs m c
          · rfl
          · have := (dj_iff _ _).mp h1 c w
            rw [bs_or, w] at this
            simp at this
        · exact z
      have := lB_fam hn2 a hsub
      rw [if_pos (fam_dj hf e)]
      omega
    · have hsub : ∀ y ∈ F, y ∈ r := fun y hy => by
        rcases List.mem_cons.mp (hF y hy) with z | z
        · rw [z] at hy; exact absurd hy e
        · exact z
      have := lB_fam hn2 hf hsub
      split <;> omega
theorem lF_fam : ∀ (L : List Int64) (u : Int64), fam (lF L u) u ∧ (∀ y ∈ lF L u, y ∈ L) ∧ sW (lF L u) = lB L u
  | [], u => ⟨trivial, fun y hy => hy, rfl⟩
  | m :: r, u => by
    rw [lF_cons, lB_cons]
    by_cases e : m &&& u = 0 ∧ lB r u ≤ lW m + lB r (u ||| m)
    · obtain ⟨a, b, c⟩ := lF_fam r (u ||| m)
      rw [if_pos e, if_pos e.1]
      refine ⟨⟨e.1, a⟩, fun y hy => ?_, ?_⟩
      · rcases List.mem_cons.mp hy with z | z
        · rw [z]; exact List.mem_cons_self
        · exact List.mem_cons_of_mem _ (b y z)
      · show lW m + sW (lF r (u ||| m)) = _
        have := e.2
        omega
    · obtain ⟨a, b, c⟩ := lF_fam r u
      rw [if_neg e]
      refine ⟨a, fun y hy => List.mem_cons_of_mem _ (b y hy), ?_⟩
      rw [c]
      by_cases e2 : m &&& u = 0
      · rw [if_pos e2]
        have : ¬ lB r u ≤ lW m + lB r (u ||| m) := fun z => e ⟨e2, z⟩
        omega
      · rw [if_neg e2]
theorem lB_mem {L L' : List Int64} (hn : ∀ m ∈ L', m ≠ 0) (h : ∀ m ∈ L, m ∈ L') (u : Int64) : lB L u ≤ lB L' u := by
  obtain ⟨a, b, c⟩ := lF_fam L u
  rw [← c]
  exact lB_fam hn a (fun y hy => h y (b y hy))
theorem dl_fam : ∀ {F : List Int64} {h u : Int64}, fam F u → (∀ m ∈ F, sb m h) → lW (dl (dif h u) F) + sW F = lW (dif h u)
  | [], h, u, _, _ => rfl
  | m :: F, h, u, hf, hs => by
    have ih := dl_fam (h := h) hf.2 (fun x hx => hs x (List.mem_cons_of_mem _ hx))
    have hm := hs m List.mem_cons_self
    have e1 : dif (dif h u) m = dif h (u ||| m) := by
      apply bs_ext
      intro c _
      rw [bs_dif2, bs_dif2, bs_dif2, bs_or]
      cases bs h c <;> cases bs u c <;> cases bs m c <;> rfl
    have h9 : sb m (dif h u) := (sb_iff _ _).mpr (fun c hc => by rw [bs_dif2, (sb_iff _ _).mp hm c hc, (dj_iff _ _).mp hf.1 c hc]; rfl)
    have h8 := lW_dif h9
    rw [e1] at h8
    show lW (dl (dif (dif h u) m) F) + (lW m + sW F) = _
    rw [e1]
    omega
theorem dif_0 (h : Int64) : dif h 0 = h := by
  apply bs_ext
  intro c _
  rw [bs_dif2, bs_0]; simp
theorem Lay_ok {p : Int64} (hp : cw p) (h11 : cnt (bs p) 64 ≤ 11) : fam (Lay p) 0 ∧ (∀ m ∈ Lay p, sb m p ∧ (isSet m ∨ isRun m)) ∧ lW (dl p (Lay p)) = RR p p ∧ (Lay p).length ≤ 3 := by
  obtain ⟨g, hg⟩ := GG_ex hp h11
  obtain ⟨h1, h2⟩ := lay_main (GG_ok hg) hp 52 (Nat.le_refl _) 0 p (fun c => by rw [bs_0]; simp)
  obtain ⟨a, b, c⟩ := lF_fam (lL g 52) 0
  have hmem : ∀ d m, m ∈ lL g d → sb m p ∧ (isSet m ∨ isRun m) := fun d => by
    induction d with
    | zero => intro m hm; cases hm
    | succ d ih =>
      intro m hm
      rcases List.mem_append.mp hm with z | z
      · obtain ⟨c1, c2, -⟩ := (hg.1 _ _).mp z
        exact ⟨c1, c2⟩
      · exact ih m z
  rw [Lay_eq hg, RR_eq hg, ← h2]
  have h3 := dl_fam (h := p) a (fun m hm => (hmem 52 m (b m hm)).1)
  rw [dif_0] at h3
  have h4 := lF_3 (h := p) (lL g 52) 0 (fun m hm => ⟨(hmem 52 m hm).1, meld_3 (hmem 52 m hm).2⟩) ((sb_iff _ _).mpr (fun c hc => by rw [bs_0] at hc; cases hc))
  exact ⟨a, fun m hm => hmem 52 m (b m hm), by omega, by omega⟩
/-! The rest behind a drop -/
theorem RR_B {g : Nat → List Int64} {p : Int64} (hp : cw p) (hg : GG g p) (u : Int64) : lB (lL g 52) u + RR p (dif p u) = lW (dif p u) := by
  rw [RR_eq hg]
  exact (lay_main (GG_ok hg) hp 52 (Nat.le_refl _) u (dif p u) (fun c => open_S hp c)).1
theorem lL_mem {g : Nat → List Int64} {p : Int64} (hp : cw p) (hg : GG g p) (m : Int64) : m ∈ lL g 52 ↔ sb m p ∧ (isSet m ∨ isRun m) := by
  have h1 : ∀ d, d ≤ 52 → (m ∈ lL g d ↔ ∃ k, 52 - d ≤ k ∧ k < 52 ∧ m ∈ g k) := fun d => by
    induction d with
    | zero =>
      intro _
      constructor
      · intro h; cases h
      · rintro ⟨k, h1, h2, -⟩; omega
    | succ d ih =>
      intro hd
      show m ∈ g (51 - d) ++ lL g d ↔ _
      rw [List.mem_append, ih (by omega)]
      constructor
      · rintro (h | ⟨k, a, b, c⟩)
        · exact ⟨51 - d, by omega, by omega, h⟩
        · exact ⟨k, by omega, b, c⟩
      · rintro ⟨k, a, b, c⟩
        by_cases e : k = 51 - d
        · subst e; exact .inl c
        · exact .inr ⟨k, by omega, b, c⟩
  rw [h1 52 (Nat.le_refl _)]
  constructor
  · rintro ⟨k, -, -, h⟩
    obtain ⟨a, b, -⟩ := (hg.1 k m).mp h
    exact ⟨a, b⟩
  · rintro ⟨a, b⟩
    exact ⟨lo m, by omega, cw_lt (cw_sb a hp) (lo_spec (meld_nz b)).1, (hg.1 _ _).mpr ⟨a, b, rfl⟩⟩
theorem X1_rbd (σ : Mm) {p : Int64} {x : Int} {b : Int64} (hb : x_X6_bitOf x = some b) (hp : cw p) (h11 : cnt (bs p) 64 ≤ 11) (hc : ∃ c, bs (dif p b) c = true) : ∃ (σ' : Mm) (v : Nat), x_X1_restBehindDrop σ p x = some (σ', (v : Int)) ∧ (∃ c, bs (dif p b) c = true ∧ v = RR p (dif p (one c))) ∧ ∀ c, bs (dif p b) c = true → v ≤ RR p (dif p (one c)) := by
  obtain ⟨σ', h1⟩ := X1_restBehindDrop σ hb hp h11 (cAll_len hp h11) (cAll_ok hp h11)
  obtain ⟨g, hg⟩ := GG_ex hp h11
  have hz : sb 0 p := (sb_iff _ _).mpr (fun c hc => by rw [bs_0] at hc; cases hc)
  have hd : sb (dif p b) p := (sb_iff _ _).mpr (fun c hc => by
    rw [bs_dif2] at hc
    simp only [Bool.and_eq_true] at hc
    exact hc.1)
  obtain ⟨a, bb⟩ := lD_main hp hd ((cAll p).map (fun q => q.1)) 0 (fun m hm => by
    obtain ⟨q, q1, q2⟩ := List.mem_map.mp hm
    rw [← q2]; exact (cAll_ok hp h11 q q1).2.1) hz
  have hmm : ∀ m, m ∈ (cAll p).map (fun q => q.1) ↔ m ∈ lL g 52 := fun m => by
    rw [lL_mem hp hg]
    constructor
    · intro hm
      obtain ⟨q, q1, q2⟩ := List.mem_map.mp hm
      rw [← q2]
      obtain ⟨c1, c2⟩ := (cAll_mem hp h11).mp q1
      exact ⟨c1, c2.elim (fun z => .inl z.2) (fun z => .inr z.2)⟩
    · rintro ⟨c1, c2⟩
      rcases c2 with h | h
      · exact List.mem_map.mpr ⟨(m, 1), (cAll_mem hp h11).mpr ⟨c1, .inl ⟨rfl, h⟩⟩, rfl⟩
      · exact List.mem_map.mpr ⟨(m, 2), (cAll_mem hp h11).mpr ⟨c1, .inr ⟨rfl, h⟩⟩, rfl⟩
  have hn : ∀ m ∈ lL g 52, m ≠ 0 := fun m hm => meld_nz ((lL_mem hp hg m).mp hm).2
  have hB : ∀ u, lB ((cAll p).map (fun q => q.1)) u = lB (lL g 52) u := fun u => Nat.le_antisymm (lB_mem hn (fun m hm => (hmm m).mp hm) u) (lB_mem (fun m hm => hn m ((hmm m).mp hm)) (fun m hm => (hmm m).mpr hm) u)
  have e0 : ∀ c, (0 : Int64) ||| one c = one c := fun c => by apply bs_ext; intro j _; rw [bs_or, bs_0]; rfl
  have hval : ∀ c, bs (dif p b) c = true → lW p = lB ((cAll p).map (fun q => q.1)) (0 ||| one c) + RR p (dif p (one c)) + pts c := fun c h2 => by
    have h3 := RR_B hp hg (one c)
    have hpc := (sb_iff _ _).mp hd c h2
    have h4 := lW_one hpc (cw_lt hp hpc)
    rw [hB, e0]
    omega
  rw [dif_0] at a bb
  obtain ⟨c0, hc0⟩ := hc
  obtain ⟨v, v1, v2⟩ := bb c0 hc0 (bs_0 _)
  rw [v1] at h1
  refine ⟨σ', v, h1, ?_, ?_⟩
  · obtain ⟨c, c1, -, c3⟩ := a v v1
    have h5 := hval c c1
    obtain ⟨v', v1', v2'⟩ := bb c c1 (bs_0 _)
    rw [v1] at v1'
    have : v = v' := Option.some.inj v1'
    exact ⟨c, c1, by omega⟩
  · intro c c1
    have h5 := hval c c1
    obtain ⟨v', v1', v2'⟩ := bb c c1 (bs_0 _)
    rw [v1] at v1'
    have : v = v' := Option.some.inj v1'
    omega
/-- a part of a hand has the same rest by its own melds -/
theorem lM_le2 {b b' : Nat} {f f' : Int64 → Nat} {S : Int64} {l l' : List Int64} (hb : b ≤ b') (h : ∀ m ∈ l', sb m S → m ∈ l ∧ f (dif S m) ≤ f' (dif S m)) : lM b f S l ≤ lM b' f' S l' := by
  have h0 : ∀ l : List Int64, lM b f S l ≤ b := fun l => by
    induction l with
    | nil => exact Nat.le_refl _
    | cons m l ih => rw [lM_cons]; split <;> omega
  have h1 : ∀ (l : List Int64) (m : Int64), m ∈ l → sb m S → lM b f S l ≤ f (dif S m) := fun l m => by
    induction l with
    | nil => intro h; cases h
    | cons x l ih =>
      intro hx hs
      rw [lM_cons]
      rcases List.mem_cons.mp hx with e | e
      · subst e
        rw [if_pos hs]; omega
      · have := ih e hs
        split <;> omega
  induction l' with
  | nil => exact Nat.le_trans (h0 l) hb
  | cons m l' ih =>
    have ih := ih (fun x hx => h x (List.mem_cons_of_mem _ hx))
    rw [lM_cons b']
    by_cases e : sb m S
    · rw [if_pos e]
      have h2 := h m List.mem_cons_self e
      have := h1 l m h2.1 e
      omega
    · rw [if_neg e]; exact ih
theorem sb_tr {x y z : Int64} (h : sb x y) (h2 : sb y z) : sb x z := (sb_iff _ _).mpr (fun c hc => (sb_iff _ _).mp h2 c ((sb_iff _ _).mp h c hc))
theorem sb_dif (x y : Int64) : sb (dif x y) x := (sb_iff _ _).mpr (fun c hc => by
  rw [bs_dif2] at hc
  simp only [Bool.and_eq_true] at hc
  exact hc.1)
theorem lR_sub {g g' : Nat → List Int64} {p q : Int64} (hg : GG g p) (hg' : GG g' q) (hq : sb q p) : ∀ d S, sb S q → lR g d S = lR g' d S
  | 0, _, _ => rfl
  | d + 1, S, hS => by
    unfold lR
    have ih := lR_sub hg hg' hq d
    by_cases e : bs S (51 - d) = true
    · rw [if_pos e, if_pos e]
      refine Nat.le_antisymm (lM_le2 (by rw [ih _ (sb_tr (sb_dif _ _) hS)]; exact Nat.le_refl _) (fun m hm hs => ⟨(hg.1 _ _).mpr ?_, by rw [ih _ (sb_tr (sb_dif _ _) hS)]; exact Nat.le_refl _⟩)) (lM_le2 (by rw [ih _ (sb_tr (sb_dif _ _) hS)]; exact Nat.le_refl _) (fun m hm hs => ⟨(hg'.1 _ _).mpr ?_, by rw [ih _ (sb_tr (sb_dif _ _) hS)]; exact Nat.le_refl _⟩))
      · obtain ⟨a, b, c⟩ := (hg'.1 _ _).mp hm
        exact ⟨sb_tr a hq, b, c⟩
      · obtain ⟨a, b, c⟩ := (hg.1 _ _).mp hm
        exact ⟨sb_tr hs hS, b, c⟩
    · rw [if_neg e, if_neg e]; exact ih S hS
theorem RR_sub {p q : Int64} (hp : cw p) (h11 : cnt (bs p) 64 ≤ 11) (hq : sb q p) : RR p q = RR q q := by
  obtain ⟨g, hg⟩ := GG_ex hp h11
  obtain ⟨g', hg'⟩ := GG_ex (cw_sb hq hp) (Nat.le_trans (cnt_sb hq) h11)
  rw [RR_eq hg, RR_eq hg']
  exact lR_sub hg hg' hq 52 q ((sb_iff _ _).mpr (fun c hc => hc))
