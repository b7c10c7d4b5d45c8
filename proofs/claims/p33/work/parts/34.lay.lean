/-! Layings: what the class's search finds, and what the model's row of rests and its choice find, over the same melds -/
def lW (m : Int64) : Nat := psum pts (bs m) 52
def lB : List Int64 → Int64 → Nat
  | [], _ => 0
  | m :: r, u => if m &&& u = 0 then max (lW m + lB r (u ||| m)) (lB r u) else lB r u
def lF : List Int64 → Int64 → List Int64
  | [], _ => []
  | m :: r, u => if m &&& u = 0 ∧ lB r u ≤ lW m + lB r (u ||| m) then m :: lF r (u ||| m) else lF r u
/-- x lies in y -/
abbrev sb (x y : Int64) : Prop := x &&& (y ^^^ (-1)) = 0
def one (k : Nat) : Int64 := zlshl 1 (k : Int)
def dif (x y : Int64) : Int64 := x &&& (y ^^^ (-1))
/-- the least rest of S, its cards from 52 - d on, by the melds g k that begin with the card k -/
def lM (b : Nat) (f : Int64 → Nat) (S : Int64) : List Int64 → Nat
  | [] => b
  | m :: l => if sb m S then min (f (dif S m)) (lM b f S l) else lM b f S l
def lR (g : Nat → List Int64) : Nat → Int64 → Nat
  | 0, _ => 0
  | d + 1, S => if bs S (51 - d) = true then lM (pts (51 - d) + lR g d (dif S (one (51 - d)))) (lR g d) S (g (51 - d)) else lR g d S
def lG (g : Nat → List Int64) : Nat → Int64 → List Int64
  | 0, _ => []
  | d + 1, S => if bs S (51 - d) = true then (match (g (51 - d)).find? (fun m => decide (sb m S ∧ lR g d (dif S m) ≤ lR g (d + 1) S)) with
    | some m => m :: lG g d (dif S m)
    | none => lG g d (dif S (one (51 - d)))) else lG g d S
def lL (g : Nat → List Int64) : Nat → List Int64
  | 0 => []
  | d + 1 => g (51 - d) ++ lL g d
theorem bs_dif2 (x y : Int64) (c : Nat) : bs (dif x y) c = (bs x c && !bs y c) := bs_dif x y c
theorem bs_one2 {k : Nat} (h : k < 64) (c : Nat) : bs (one k) c = decide (c = k) := bs_one k h c
theorem sb_iff (x y : Int64) : sb x y ↔ ∀ c, bs x c = true → bs y c = true := by
  unfold sb
  rw [bs_nz]
  constructor
  · intro h c hc
    have := h c
    rw [bs_dif, hc] at this
    simpa using this
  · intro h c
    rw [bs_dif]
    cases e : bs x c
    · rfl
    · rw [h c e]; rfl
theorem dj_iff (x y : Int64) : x &&& y = 0 ↔ ∀ c, bs x c = true → bs y c = false := by
  rw [bs_nz]
  constructor
  · intro h c hc
    have := h c
    rw [bs_and, hc] at this
    simpa using this
  · intro h c
    rw [bs_and]
    cases e : bs x c
    · rfl
    · rw [h c e]; rfl
theorem lW_dif {S m : Int64} (h : sb m S) : lW S = lW m + lW (dif S m) := by
  unfold lW
  rw [← psum_add (fun c _ hc => by rw [bs_dif2, hc]; simp)]
  refine psum_congr (fun c _ => ?_)
  rw [bs_dif2]
  have := (sb_iff m S).mp h c
  cases e : bs m c
  · simp
  · rw [this e]; rfl
theorem lW_or {u m : Int64} (h : m &&& u = 0) : lW (u ||| m) = lW u + lW m := by
  unfold lW
  rw [← psum_add (fun c _ hc => by
    cases e : bs m c
    · rfl
    · have := (dj_iff m u).mp h c e
      rw [hc] at this; cases this)]
  exact psum_congr (fun c _ => bs_or u m c)
theorem lB_cons (m : Int64) (r : List Int64) (u : Int64) : lB (m :: r) u = if m &&& u = 0 then max (lW m + lB r (u ||| m)) (lB r u) else lB r u := rfl
theorem lF_cons (m : Int64) (r : List Int64) (u : Int64) : lF (m :: r) u = if m &&& u = 0 ∧ lB r u ≤ lW m + lB r (u ||| m) then m :: lF r (u ||| m) else lF r u := rfl
theorem lM_cons (b : Nat) (f : Int64 → Nat) (S m : Int64) (l : List Int64) : lM b f S (m :: l) = if sb m S then min (f (dif S m)) (lM b f S l) else lM b f S l := rfl
theorem lB_skip {l r : List Int64} {u : Int64} (h : ∀ m ∈ l, ¬ m &&& u = 0) : lB (l ++ r) u = lB r u := by
  induction l with
  | nil => rfl
  | cons m l ih =>
    show lB (m :: (l ++ r)) u = _
    rw [lB_cons]
    rw [if_neg (h m List.mem_cons_self)]
    exact ih (fun x hx => h x (List.mem_cons_of_mem _ hx))
theorem lF_skip {l r : List Int64} {u : Int64} (h : ∀ m ∈ l, ¬ m &&& u = 0) : lF (l ++ r) u = lF r u := by
  induction l with
  | nil => rfl
  | cons m l ih =>
    show lF (m :: (l ++ r)) u = _
    rw [lF_cons]
    rw [if_neg (fun z => h m List.mem_cons_self z.1)]
    exact ih (fun x hx => h x (List.mem_cons_of_mem _ hx))
/-- the melds of h, each under its least card -/
def gOk (g : Nat → List Int64) (h : Int64) : Prop := ∀ k, ∀ m ∈ g k, isLow m k ∧ sb m h
theorem lay_main {g : Nat → List Int64} {h : Int64} (hg : gOk g h) (hh : cw h) : ∀ d, d ≤ 52 → ∀ u S : Int64, (∀ c, bs S c = (decide (52 - d ≤ c) && (bs h c && !bs u c))) → lB (lL g d) u + lR g d S = lW S ∧ lF (lL g d) u = lG g d S
  | 0, _, u, S, hS => by
    refine ⟨?_, rfl⟩
    show 0 + 0 = lW S
    unfold lW
    rw [psum_zero (fun c hc => by rw [hS]; simp; omega)]
  | d + 1, hd, u, S, hS => by
    have ih := lay_main hg hh d (by omega)
    have ek : 52 - (d + 1) = 51 - d := by omega
    have ek2 : 52 - d = 51 - d + 1 := by omega
    have hk64 : 51 - d < 64 := by omega
    rw [ek] at hS
    have hgk := hg (51 - d)
    have hL : lL g (d + 1) = g (51 - d) ++ lL g d := rfl
    rw [hL]
    by_cases hb : bs S (51 - d) = true
    · have hb2 := hb
      rw [hS] at hb2
      simp only [Nat.le_refl, decide_true, Bool.true_and, Bool.and_eq_true, Bool.not_eq_eq_eq_not, Bool.not_true] at hb2
      obtain ⟨hkh, hku⟩ := hb2
      have hS1 : ∀ c, bs (dif S (one (51 - d))) c = (decide (52 - d ≤ c) && (bs h c && !bs u c)) := fun c => by
        rw [bs_dif2, bs_one2 hk64, hS, ek2]
        rcases Nat.lt_trichotomy c (51 - d) with e | e | e
        · have a1 : ¬ 51 - d ≤ c := by omega
          have a2 : ¬ 51 - d + 1 ≤ c := by omega
          simp [a1, a2]
        · subst e
          have a2 : ¬ 51 - d + 1 ≤ 51 - d := by omega
          simp [a2]
        · have a1 : 51 - d ≤ c := by omega
          have a2 : 51 - d + 1 ≤ c := by omega
          have a3 : c ≠ 51 - d := by omega
          simp [a1, a2, a3]
      obtain ⟨i1, i2⟩ := ih u _ hS1
      have hW1 : lW S = pts (51 - d) + lW (dif S (one (51 - d))) := by
        unfold lW
        rw [psum_one hb (by omega)]
        congr 1
        refine psum_congr (fun c _ => ?_)
        rw [bs_dif2, bs_one2 hk64]
        simp
      -- a meld that begins here and is apart from u
      have hm : ∀ m ∈ g (51 - d), (m &&& u = 0 ↔ sb m S) := fun m hm => by
        obtain ⟨hl, hs⟩ := hgk m hm
        rw [dj_iff, sb_iff]
        constructor
        · intro z c hc
          have a1 : 51 - d ≤ c := by
            rcases Nat.lt_or_ge c (51 - d) with e | e
            · rw [hl.2 c e] at hc; cases hc
            · exact e
          rw [hS, z c hc, (sb_iff m h).mp hs c hc]
          simp [a1]
        · intro z c hc
          have := z c hc
          rw [hS] at this
          simp only [Bool.and_eq_true] at this
          simpa using this.2.2
      have hin : ∀ m ∈ g (51 - d), sb m S → ∀ l : List Int64, (∀ x ∈ l, x ∈ g (51 - d)) → lB (l ++ lL g d) (u ||| m) + lR g d (dif S m) = lW (dif S m) ∧ lF (l ++ lL g d) (u ||| m) = lG g d (dif S m) := fun m hm1 hm2 l hl => by
        have hsk : ∀ x ∈ l, ¬ x &&& (u ||| m) = 0 := fun x hx z => by
          have := (dj_iff x (u ||| m)).mp z (51 - d) (hgk x (hl x hx)).1.1
          rw [bs_or, (hgk m hm1).1.1] at this
          simp at this
        rw [lB_skip hsk, lF_skip hsk]
        refine ih (u ||| m) (dif S m) (fun c => ?_)
        rw [bs_dif2, hS, bs_or, ek2]
        rcases Nat.lt_trichotomy c (51 - d) with e | e | e
        · have a1 : ¬ 51 - d ≤ c := by omega
          have a2 : ¬ 51 - d + 1 ≤ c := by omega
          simp [a1, a2]
        · subst e
          have a2 : ¬ 51 - d + 1 ≤ 51 - d := by omega
          simp [a2, (hgk m hm1).1.1]
        · have a1 : 51 - d ≤ c := by omega
          have a2 : 51 - d + 1 ≤ c := by omega
          simp only [a1, a2, decide_true, Bool.true_and]
          cases bs h c <;> cases bs u c <;> cases bs m c <;> rfl
      have hR : lR g (d + 1) S = lM (pts (51 - d) + lR g d (dif S (one (51 - d)))) (lR g d) S (g (51 - d)) := by
        show (if bs S (51 - d) = true then _ else _) = _
        rw [if_pos hb]
      -- the best of a rest of the list
      have hB : ∀ l : List Int64, (∀ x ∈ l, x ∈ g (51 - d)) → lB (l ++ lL g d) u + lM (pts (51 - d) + lR g d (dif S (one (51 - d)))) (lR g d) S l = lW S := fun l => by
        induction l with
        | nil =>
          intro _
          show lB (lL g d) u + (pts (51 - d) + lR g d (dif S (one (51 - d)))) = lW S
          omega
        | cons m l il =>
          intro hl
          have il := il (fun x hx => hl x (List.mem_cons_of_mem _ hx))
          have hm9 := hl m List.mem_cons_self
          show lB (m :: (l ++ lL g d)) u + _ = _
          rw [lB_cons, lM_cons]
          by_cases e : sb m S
          · obtain ⟨j1, -⟩ := hin m hm9 e l (fun x hx => hl x (List.mem_cons_of_mem _ hx))
            have j2 := lW_dif e
            rw [if_pos ((hm m hm9).mpr e), if_pos e]
            omega
          · rw [if_neg (fun z => e ((hm m hm9).mp z)), if_neg e]
            exact il
      refine ⟨by rw [hR]; exact hB _ (fun x hx => hx), ?_⟩
      have hF : ∀ l : List Int64, (∀ x ∈ l, x ∈ g (51 - d)) → lM (pts (51 - d) + lR g d (dif S (one (51 - d)))) (lR g d) S l = lR g (d + 1) S → lF (l ++ lL g d) u = (match l.find? (fun m => decide (sb m S ∧ lR g d (dif S m) ≤ lR g (d + 1) S)) with
          | some m => m :: lG g d (dif S m)
          | none => lG g d (dif S (one (51 - d)))) := fun l => by
        induction l with
        | nil => intro _ _; exact i2
        | cons m l il =>
          intro hl hT
          have hm9 := hl m List.mem_cons_self
          have hl2 : ∀ x ∈ l, x ∈ g (51 - d) := fun x hx => hl x (List.mem_cons_of_mem _ hx)
          have il := il hl2
          have hBl := hB l hl2
          show lF (m :: (l ++ lL g d)) u = _
          rw [lF_cons]
          rw [lM_cons] at hT
          rw [List.find?_cons]
          by_cases e : sb m S
          · obtain ⟨j1, j3⟩ := hin m hm9 e l hl2
            have j2 := lW_dif e
            rw [if_pos e] at hT
            by_cases e2 : lR g d (dif S m) ≤ lR g (d + 1) S
            · rw [if_pos ⟨(hm m hm9).mpr e, by omega⟩, decide_eq_true ⟨e, e2⟩]
              show m :: _ = m :: _
              rw [j3]
            · rw [if_neg (fun z => by have := z.2; omega), decide_eq_false (fun z => e2 z.2)]
              exact il (by omega)
          · rw [if_neg e] at hT
            rw [if_neg (fun z => e ((hm m hm9).mp z.1)), decide_eq_false (fun z => e z.1)]
            exact il hT
      have hG : lG g (d + 1) S = (match (g (51 - d)).find? (fun m => decide (sb m S ∧ lR g d (dif S m) ≤ lR g (d + 1) S)) with
          | some m => m :: lG g d (dif S m)
          | none => lG g d (dif S (one (51 - d)))) := by
        show (if bs S (51 - d) = true then _ else _) = _
        rw [if_pos hb]
      rw [hG]
      exact hF _ (fun x hx => hx) hR.symm
    · have hR : lR g (d + 1) S = lR g d S := by
        show (if bs S (51 - d) = true then _ else _) = _
        rw [if_neg hb]
      have hG : lG g (d + 1) S = lG g d S := by
        show (if bs S (51 - d) = true then _ else _) = _
        rw [if_neg hb]
      have hsk : ∀ m ∈ g (51 - d), ¬ m &&& u = 0 := fun m hm z => by
        obtain ⟨hl, hs⟩ := hgk m hm
        apply hb
        rw [hS, (sb_iff m h).mp hs _ hl.1, (dj_iff m u).mp z _ hl.1]
        simp
      rw [hR, hG, lB_skip hsk, lF_skip hsk]
      refine ih u S (fun c => ?_)
      rw [hS, ek2]
      rcases Nat.lt_trichotomy c (51 - d) with e | e | e
      · have a1 : ¬ 51 - d ≤ c := by omega
        have a2 : ¬ 51 - d + 1 ≤ c := by omega
        simp [a1, a2]
      · subst e
        have a2 : ¬ 51 - d + 1 ≤ 51 - d := by omega
        rw [hS] at hb
        simp only [Nat.le_refl, decide_true, Bool.true_and, Bool.not_eq_true] at hb
        simp [a2, hb]
      · have a1 : 51 - d ≤ c := by omega
        have a2 : 51 - d + 1 ≤ c := by omega
        simp [a1, a2]
/-- the least over the layings of what is left without the dearest card that may be dropped -/
def omin : Option Nat → Option Nat → Option Nat
  | none, b => b
  | some a, none => some a
  | some a, some b => some (min a b)
def lD (h dr : Int64) : List Int64 → Int64 → Option Nat
  | [], u => if 0 < pmax (bs (dif dr u)) 52 then some (lW (dif h u) - pmax (bs (dif dr u)) 52) else none
  | m :: r, u => if m &&& u = 0 then omin (lD h dr r (u ||| m)) (lD h dr r u) else lD h dr r u
theorem lD_cons (h dr m : Int64) (r : List Int64) (u : Int64) : lD h dr (m :: r) u = if m &&& u = 0 then omin (lD h dr r (u ||| m)) (lD h dr r u) else lD h dr r u := rfl
theorem lW_one {S : Int64} {c : Nat} (h : bs S c = true) (hc : c < 52) : lW S = pts c + lW (dif S (one c)) := by
  unfold lW
  rw [psum_one h hc]
  congr 1
  refine psum_congr (fun j _ => ?_)
  rw [bs_dif2, bs_one2 (by omega)]
  simp
theorem lD_main {h dr : Int64} (hh : cw h) (hd : sb dr h) : ∀ (L : List Int64) (u : Int64), (∀ m ∈ L, sb m h) → sb u h → (∀ v, lD h dr L u = some v → ∃ c, bs dr c = true ∧ bs u c = false ∧ lW (dif h u) ≤ v + lB L (u ||| one c) + pts c) ∧ (∀ c, bs dr c = true → bs u c = false → ∃ v, lD h dr L u = some v ∧ v + lB L (u ||| one c) + pts c ≤ lW (dif h u))
  | [], u, _, hu => by
    have hle : ∀ c, bs dr c = true → bs u c = false → pts c ≤ pmax (bs (dif dr u)) 52 := fun c h1 h2 => pmax_ge (by rw [bs_dif2, h1, h2]; rfl) (cw_lt hh ((sb_iff dr h).mp hd c h1))
    have hle2 : pmax (bs (dif dr u)) 52 ≤ lW (dif h u) := by
      rcases pmax_ex (S := bs (dif dr u)) (n := 52) with e | ⟨k, h1, h2, h3⟩
      · omega
      · rw [← h3]
        rw [bs_dif2] at h2
        simp only [Bool.and_eq_true] at h2
        rw [lW_one (S := dif h u) (c := k) (by rw [bs_dif2, (sb_iff dr h).mp hd k h2.1, h2.2]; rfl) h1]
        omega
    refine ⟨fun v hv => ?_, fun c h1 h2 => ?_⟩
    · unfold lD at hv
      by_cases e : 0 < pmax (bs (dif dr u)) 52
      · rw [if_pos e] at hv
        have hv := Option.some.inj hv
        subst hv
        rcases pmax_ex (S := bs (dif dr u)) (n := 52) with e2 | ⟨k, h1, h2, h3⟩
        · omega
        · rw [bs_dif2] at h2
          simp only [Bool.and_eq_true] at h2
          refine ⟨k, h2.1, by simpa using h2.2, ?_⟩
          show _ ≤ _ + 0 + _
          omega
      · rw [if_neg e] at hv; cases hv
    · have h3 := hle c h1 h2
      have h4 := pts_pos c
      refine ⟨lW (dif h u) - pmax (bs (dif dr u)) 52, ?_, ?_⟩
      · unfold lD
        rw [if_pos (by omega)]
      · show _ + 0 + _ ≤ _
        omega
  | m :: r, u, hL, hu => by
    have hm := hL m List.mem_cons_self
    have hr : ∀ x ∈ r, sb x h := fun x hx => hL x (List.mem_cons_of_mem _ hx)
    obtain ⟨a2, b2⟩ := lD_main hh hd r u hr hu
    by_cases e : m &&& u = 0
    · have hu1 : sb (u ||| m) h := (sb_iff _ _).mpr (fun c hc => by
        rw [bs_or] at hc
        rcases Bool.or_eq_true_iff.mp hc with z | z
        · exact (sb_iff _ _).mp hu c z
        · exact (sb_iff _ _).mp hm c z)
      obtain ⟨a1, b1⟩ := lD_main hh hd r (u ||| m) hr hu1
      have hw : lW (dif h u) = lW m + lW (dif h (u ||| m)) := by
        have h9 : sb m (dif h u) := (sb_iff _ _).mpr (fun c hc => by rw [bs_dif2, (sb_iff _ _).mp hm c hc, (dj_iff _ _).mp e c hc]; rfl)
        rw [lW_dif h9]
        congr 2
        apply bs_ext
        intro c _
        rw [bs_dif2, bs_dif2, bs_dif2, bs_or]
        cases bs h c <;> cases bs u c <;> cases bs m c <;> rfl
      have hc2 : ∀ c, bs m c = false → c < 64 → (m &&& (u ||| one c) = 0 ∧ u ||| one c ||| m = u ||| m ||| one c) := fun c hc h64 => by
        constructor
        · rw [dj_iff]
          intro j hj
          rw [bs_or, (dj_iff _ _).mp e j hj, bs_one2 h64]
          have : j ≠ c := fun z => by rw [z, hc] at hj; cases hj
          simp [this]
        · apply bs_ext
          intro j _
          rw [bs_or, bs_or, bs_or, bs_or]
          cases bs u j <;> cases bs m j <;> cases bs (one c) j <;> rfl
      have hc1 : ∀ c, bs m c = true → c < 64 → ¬ m &&& (u ||| one c) = 0 := fun c hc h64 z => by
        have := (dj_iff _ _).mp z c hc
        rw [bs_or, bs_one2 h64] at this
        simp at this
      have key : ∀ c, bs dr c = true → bs u c = false → ∃ v, lD h dr (m :: r) u = some v ∧ v + lB (m :: r) (u ||| one c) + pts c ≤ lW (dif h u) := fun c h1 h2 => by
        have h64 : c < 64 := bs_lt h1
        obtain ⟨v2, e2, f2⟩ := b2 c h1 h2
        rw [lD_cons, if_pos e, e2]
        by_cases hmc : bs m c = true
        · have hb : lB (m :: r) (u ||| one c) = lB r (u ||| one c) := by
            show (if _ then _ else _) = _
            rw [if_neg (hc1 c hmc h64)]
          rw [hb]
          cases h3 : lD h dr r (u ||| m) with
          | none => exact ⟨v2, rfl, f2⟩
          | some v1 => exact ⟨min v1 v2, rfl, by omega⟩
        · have hmc : bs m c = false := by simpa using hmc
          obtain ⟨q1, q2⟩ := hc2 c hmc h64
          have hb : lB (m :: r) (u ||| one c) = max (lW m + lB r (u ||| m ||| one c)) (lB r (u ||| one c)) := by
            show (if _ then _ else _) = _
            rw [if_pos q1, q2]
          obtain ⟨v1, e1, f1⟩ := b1 c h1 (by rw [bs_or, h2, hmc]; rfl)
          rw [hb, e1]
          exact ⟨min v1 v2, rfl, by omega⟩
      refine ⟨fun v hv => ?_, key⟩
      have hv2 := hv
      rw [lD_cons, if_pos e] at hv
      have fin1 : ∀ v1, lD h dr r (u ||| m) = some v1 → v1 = v → ∃ c, bs dr c = true ∧ bs u c = false ∧ lW (dif h u) ≤ v + lB (m :: r) (u ||| one c) + pts c := fun v1 h1 h2 => by
        obtain ⟨c, p1, p2, p3⟩ := a1 v1 h1
        have h64 : c < 64 := bs_lt p1
        rw [bs_or] at p2
        simp only [Bool.or_eq_false_iff] at p2
        obtain ⟨q1, q2⟩ := hc2 c p2.2 h64
        refine ⟨c, p1, p2.1, ?_⟩
        have hb : lB (m :: r) (u ||| one c) = max (lW m + lB r (u ||| m ||| one c)) (lB r (u ||| one c)) := by
          show (if _ then _ else _) = _
          rw [if_pos q1, q2]
        rw [hb]
        omega
      have fin2 : ∀ v1, lD h dr r u = some v1 → v1 = v → ∃ c, bs dr c = true ∧ bs u c = false ∧ lW (dif h u) ≤ v + lB (m :: r) (u ||| one c) + pts c := fun v1 h1 h2 => by
        obtain ⟨c, p1, p2, p3⟩ := a2 v1 h1
        refine ⟨c, p1, p2, ?_⟩
        have hb : lB r (u ||| one c) ≤ lB (m :: r) (u ||| one c) := by
          show _ ≤ (if _ then _ else _)
          by_cases z : m &&& (u ||| one c) = 0
          · rw [if_pos z]; omega
          · rw [if_neg z]; exact Nat.le_refl _
        omega
      cases h3 : lD h dr r (u ||| m) with
      | none => rw [h3] at hv; exact fin2 v hv rfl
      | some v1 =>
        rw [h3] at hv
        cases h4 : lD h dr r u with
        | none => rw [h4] at hv; exact fin1 v1 h3 (Option.some.inj hv)
        | some v2 =>
          rw [h4] at hv
          have hv := Option.some.inj hv
          rcases Nat.le_total v1 v2 with c | c
          · exact fin1 v1 h3 (by omega)
          · exact fin2 v2 h4 (by omega)
    · have hc1 : ∀ c, ¬ m &&& (u ||| one c) = 0 := fun c z => e ((dj_iff _ _).mpr (fun j hj => by
        have := (dj_iff _ _).mp z j hj
        rw [bs_or] at this
        simp only [Bool.or_eq_false_iff] at this
        exact this.1))
      have hb : ∀ c, lB (m :: r) (u ||| one c) = lB r (u ||| one c) := fun c => by
        show (if _ then _ else _) = _
        rw [if_neg (hc1 c)]
      have hd2 : lD h dr (m :: r) u = lD h dr r u := by
        show (if _ then _ else _) = _
        rw [if_neg e]
      rw [hd2]
      simp only [hb]
      exact ⟨a2, b2⟩
/-- two rows of melds that differ in order and number only give the same least rest -/
theorem lM_le {b b' : Nat} {f f' : Int64 → Nat} {S : Int64} {l l' : List Int64} (hb : b ≤ b') (h : ∀ m ∈ l', m ∈ l ∧ f (dif S m) ≤ f' (dif S m)) : lM b f S l ≤ lM b' f' S l' := by
  have h0 : ∀ l : List Int64, lM b f S l ≤ b := fun l => by
    induction l with
    | nil => exact Nat.le_refl _
    | cons m l ih => rw [lM_cons]; split <;> omega
  have h1 : ∀ (l : List Int64) (m : Int64), m ∈ l → sb m S → lM b f S l ≤ f (dif S m) := fun l m => by
    induction l with
    | nil => intro h; cases h
    | cons x l ih =>
      intro hx hs
      rw [lM_cons]
      rcases List.mem_cons.mp hx with e | e
      · subst e
        rw [if_pos hs]; omega
      · have := ih e hs
        split <;> omega
  induction l' with
  | nil => exact Nat.le_trans (h0 l) hb
  | cons m l' ih =>
    have ih := ih (fun x hx => h x (List.mem_cons_of_mem _ hx))
    rw [lM_cons b']
    by_cases e : sb m S
    · rw [if_pos e]
      have h2 := h m List.mem_cons_self
      have := h1 l m h2.1 e
      omega
    · rw [if_neg e]; exact ih
theorem lR_mem {g g' : Nat → List Int64} (h : ∀ k m, m ∈ g k ↔ m ∈ g' k) : ∀ d S, lR g d S = lR g' d S
  | 0, _ => rfl
  | d + 1, S => by
    unfold lR
    by_cases e : bs S (51 - d) = true
    · rw [if_pos e, if_pos e]
      have h1 := lR_mem h d
      exact Nat.le_antisymm (lM_le (by rw [h1]; exact Nat.le_refl _) (fun m hm => ⟨(h _ m).mpr hm, by rw [h1]; exact Nat.le_refl _⟩)) (lM_le (by rw [h1]; exact Nat.le_refl _) (fun m hm => ⟨(h _ m).mp hm, by rw [h1]; exact Nat.le_refl _⟩))
    · rw [if_neg e, if_neg e]; exact lR_mem h d S
/-- sorted rows with the same members: the first that fits is the same -/
theorem find_eq {α : Type} {R : α → Nat} (hR : ∀ x y, R x = R y → x = y) {p : α → Bool} {l l' : List α} (hl : l.Pairwise (fun a b => R a ≤ R b)) (hl' : l'.Pairwise (fun a b => R a ≤ R b)) (h : ∀ x, x ∈ l ↔ x ∈ l') : l.find? p = l'.find? p := by
  have key : ∀ (l : List α), l.Pairwise (fun a b => R a ≤ R b) → ∀ x, l.find? p = some x → x ∈ l ∧ p x = true ∧ ∀ y ∈ l, p y = true → R x ≤ R y := fun l => by
    induction l with
    | nil => intro _ x hx; cases hx
    | cons a l ih =>
      intro hp x hx
      rw [List.find?_cons] at hx
      cases e : p a with
      | true =>
        rw [e] at hx
        cases hx
        refine ⟨List.mem_cons_self, e, fun y hy _ => ?_⟩
        rcases List.mem_cons.mp hy with z | z
        · rw [z]; exact Nat.le_refl _
        · exact (List.pairwise_cons.mp hp).1 y z
      | false =>
        rw [e] at hx
        obtain ⟨h1, h2, h3⟩ := ih (List.pairwise_cons.mp hp).2 x hx
        refine ⟨List.mem_cons_of_mem _ h1, h2, fun y hy hpy => ?_⟩
        rcases List.mem_cons.mp hy with z | z
        · rw [z, e] at hpy; cases hpy
        · exact h3 y z hpy
  cases h1 : l.find? p with
  | none =>
    symm
    rw [List.find?_eq_none] at h1 ⊢
    exact fun x hx => h1 x ((h x).mpr hx)
  | some x =>
    obtain ⟨a1, a2, a3⟩ := key l hl x h1
    cases h2 : l'.find? p with
    | none =>
      rw [List.find?_eq_none] at h2
      exact absurd a2 (h2 x ((h x).mp a1))
    | some y =>
      obtain ⟨b1, b2, b3⟩ := key l' hl' y h2
      have := a3 y ((h y).mpr b1) b2
      have := b3 x ((h x).mp a1) a2
      rw [hR x y (by omega)]
theorem lG_mem {g g' : Nat → List Int64} {R : Int64 → Nat} (hR : ∀ x y, R x = R y → x = y) (h : ∀ k m, m ∈ g k ↔ m ∈ g' k) (hs : ∀ k, (g k).Pairwise (fun a b => R a ≤ R b)) (hs' : ∀ k, (g' k).Pairwise (fun a b => R a ≤ R b)) : ∀ d S, lG g d S = lG g' d S
  | 0, _ => rfl
  | d + 1, S => by
    unfold lG
    have h1 := lG_mem hR h hs hs' d
    have h2 := lR_mem h
    by_cases e : bs S (51 - d) = true
    · rw [if_pos e, if_pos e]
      have h3 : (fun m => decide (sb m S ∧ lR g d (dif S m) ≤ lR g (d + 1) S)) = (fun m => decide (sb m S ∧ lR g' d (dif S m) ≤ lR g' (d + 1) S)) := by
        funext m
        rw [h2, h2]
      rw [h3, find_eq hR (hs _) (hs' _) (h _), h1]
      cases (g' (51 - d)).find? _ with
      | none => rfl
      | some m => exact congrArg (m :: ·) (h1 _)
    · rw [if_neg e, if_neg e]; exact h1 S
