/-! A callee's world among the caller's: by places -/
def zqi : List Nat → Nat → Nat → Option Nat
  | [], _, _ => none
  | p :: l, c, i => if p = c then some i else zqi l c (i + 1)
def zq (l : List Nat) (c : Nat) : Option Nat := zqi l c 0
def zp (l : List Nat) (i : Nat) : Nat := l.getD i 0
/-- the caller's memory behind a call -/
def zj (l : List Nat) (σ σ1 : Mm) : Mm := fun c => match zq l c with
  | some i => σ1 i
  | none => σ c
theorem zqi_some : ∀ (l : List Nat) (c i k : Nat), zqi l c i = some k → ∃ d, k = i + d ∧ l[d]? = some c
  | [], _, _, _, h => by cases h
  | p :: l, c, i, k, h => by
    unfold zqi at h
    by_cases e : p = c
    · rw [if_pos e] at h
      cases h
      exact ⟨0, rfl, by rw [e]; rfl⟩
    · rw [if_neg e] at h
      obtain ⟨d, h1, h2⟩ := zqi_some l c (i + 1) k h
      exact ⟨d + 1, by omega, by simpa using h2⟩
theorem zqi_none : ∀ (l : List Nat) (c i : Nat), zqi l c i = none → ∀ d : Nat, l[d]? ≠ some c
  | [], _, _, _, d => by simp
  | p :: l, c, i, h, d => by
    unfold zqi at h
    by_cases e : p = c
    · rw [if_pos e] at h
      cases h
    · rw [if_neg e] at h
      cases d with
      | zero => simpa using e
      | succ d => simpa using zqi_none l c (i + 1) h d
theorem zq_some {l : List Nat} {c k : Nat} (h : zq l c = some k) : l[k]? = some c := by
  obtain ⟨d, h1, h2⟩ := zqi_some l c 0 k h
  rw [h1, Nat.zero_add]
  exact h2
theorem zq_zp {l : List Nat} {c k : Nat} (h : zq l c = some k) : zp l k = c := by
  unfold zp
  rw [List.getD_eq_getElem?_getD, zq_some h]
  rfl
theorem zq_at {l : List Nat} (hn : va_nd l = true) {i : Nat} (hi : i < l.length) : zq l (zp l i) = some i := by
  have h1 : l[i]? = some (zp l i) := by
    unfold zp
    rw [List.getD_eq_getElem?_getD, List.getElem?_eq_getElem hi]
    rfl
  cases h : zq l (zp l i) with
  | none => exact absurd h1 (zqi_none l _ 0 h i)
  | some k => rw [va_nd_inj l hn k i _ (zq_some h) h1]
theorem zq_lt {l : List Nat} {c k : Nat} (h : zq l c = some k) : k < l.length := (List.getElem?_eq_some_iff.mp (zq_some h)).1
theorem zj_at {l : List Nat} (hn : va_nd l = true) (σ σ1 : Mm) {i : Nat} (hi : i < l.length) : zj l σ σ1 (zp l i) = σ1 i := by
  unfold zj
  rw [zq_at hn hi]
theorem zj_none {l : List Nat} (σ σ1 : Mm) {c : Nat} (h : zq l c = none) : zj l σ σ1 c = σ c := by
  unfold zj
  rw [h]
theorem zj_some {l : List Nat} (σ σ1 : Mm) {c i : Nat} (h : zq l c = some i) : zj l σ σ1 c = σ1 i := by
  unfold zj
  rw [h]
theorem zj_self (l : List Nat) (σ : Mm) : zj l σ (fun i => σ (zp l i)) = σ := by
  funext c
  unfold zj
  cases h : zq l c with
  | none => rfl
  | some i =>
    show σ (zp l i) = σ c
    rw [zq_zp h]
/-- codes of the callee's numbers, and of the caller's -/
def zo (l : List Nat) (c1 c : Nat) : Bool := if c1 < 2 then c == c1 else if c1 < 3 then (c == 2 && (List.range 26).all (fun i => zp l i == i)) else if c1 % 2 = 1 then c == 3 + 2 * zp l ((c1 - 3) / 2) else c == 4 + 2 * zp l ((c1 - 4) / 2)
def zcc (l : List Nat) (n : Nat) (t1 t : Zc) : Bool := (decide (t1 = t) && decide (t1.1 = []) && decide (t1.2.2 = 0) && decide (t1.2.1 < 2)) || (List.range n).all (fun j => zo l (zt t1 j) (zt t j))
def zkc (s1 sh : Sh) (l : List Nat) (i : Nat) : Bool := match s1[i]?, sh[zp l i]? with
  | some q1, some q => decide (q1.1 = q.1) && decide (q1.2.1 = q.2.1) && zcc l q1.2.1 q1.2.2.1 q.2.2.1
  | _, _ => false
def zkg (s1 sh : Sh) (l : List Nat) (k : Nat) : Bool := match sh[k]? with
  | none => true
  | some q => match zq l k, q.2.2.2 with
    | none, none => true
    | none, some g => (zq l g.1).isNone
    | some i, none => match s1[i]? with
      | some q1 => decide (q1.2.2.2 = none)
      | none => false
    | some i, some g => match s1[i]?, zq l g.1 with
      | some q1, some c1 => decide (q1.2.2.2 = some (c1, g.2))
      | some q1, none => decide (q1.2.2.2 = none)
      | none, _ => false
/-- the callee's world lies in the caller's at these places -/
def zk (s1 sh : Sh) (l : List Nat) : Bool := decide (s1.length = l.length) && va_nd l && (List.range l.length).all (zkc s1 sh l) && (List.range sh.length).all (zkg s1 sh l)
/-- cells that are there anyway, or by what the callee has too -/
def zs (sh : Sh) (l : List Nat) : Bool := (List.range l.length).all (fun i => match sh[zp l i]? with
  | none => true
  | some q => match q.2.2.2 with
    | none => true
    | some g => (zq l g.1).isSome)
def Zx (sh : Sh) (l : List Nat) (σ : Mm) : Prop := ∀ (i : Nat) (q : Zs), i < l.length → sh[zp l i]? = some q → ∀ g, q.2.2.2 = some g → zq l g.1 = none → σ g.1 g.2 ≠ 0
theorem zs_x {sh : Sh} {l : List Nat} (h : zs sh l = true) (σ : Mm) : Zx sh l σ := by
  intro i q hi hq g hg hn
  have h1 := List.all_eq_true.mp h i (List.mem_range.mpr hi)
  rw [hq] at h1
  simp only [hg, hn] at h1
  cases h1
theorem zV_map {a : Nat → Nat} {l : List Nat} {c1 c : Nat} (h : zo l c1 c = true) (v : Int) : zV (fun i => a (zp l i)) c1 v = zV a c v := by
  unfold zo at h
  by_cases h1 : c1 < 2
  · rw [if_pos h1] at h
    have e : c = c1 := by simpa using h
    subst e
    unfold zV
    rcases (show c = 0 ∨ c = 1 by omega) with e | e <;> subst e <;> rfl
  · rw [if_neg h1] at h
    by_cases h2 : c1 < 3
    · rw [if_pos h2, Bool.and_eq_true] at h
      have e : c = 2 := by simpa using h.1
      have e1 : c1 = 2 := by omega
      subst e e1
      have h3 := List.all_eq_true.mp h.2 (v.toNat % 26) (List.mem_range.mpr (Nat.mod_lt _ (by decide)))
      unfold zV
      rw [if_neg (by decide), if_neg (by decide), if_pos rfl, if_neg (by decide), if_neg (by decide), if_pos rfl]
      show Value.ref (a (zp l (v.toNat % 26))) = _
      rw [show zp l (v.toNat % 26) = v.toNat % 26 from by simpa using h3]
    · rw [if_neg h2] at h
      unfold zV
      rw [if_neg (show ¬ c1 = 0 by omega), if_neg (show ¬ c1 = 1 by omega), if_neg (show ¬ c1 = 2 by omega)]
      by_cases h3 : c1 % 2 = 1
      · rw [if_pos h3] at h
        have e : c = 3 + 2 * zp l ((c1 - 3) / 2) := by simpa using h
        rw [if_pos h3, if_neg (show ¬ c = 0 by omega), if_neg (show ¬ c = 1 by omega), if_neg (show ¬ c = 2 by omega), if_pos (show c % 2 = 1 by omega), show (c - 3) / 2 = zp l ((c1 - 3) / 2) by omega]
      · rw [if_neg h3] at h
        have e : c = 4 + 2 * zp l ((c1 - 4) / 2) := by simpa using h
        rw [if_neg h3, if_neg (show ¬ c = 0 by omega), if_neg (show ¬ c = 1 by omega), if_neg (show ¬ c = 2 by omega), if_neg (show ¬ c % 2 = 1 by omega), show (c - 4) / 2 = zp l ((c1 - 4) / 2) by omega]
theorem zcc_map {a : Nat → Nat} {l : List Nat} {n : Nat} {t1 t : Zc} (h : zcc l n t1 t = true) (r : Nat → Int) {j : Nat} (hj : j < n) : zF (fun i => a (zp l i)) t1 r j = zF a t r j := by
  unfold zF
  unfold zcc at h
  rcases Bool.or_eq_true _ _ |>.mp h with h | h
  · simp only [Bool.and_eq_true, decide_eq_true_eq] at h
    obtain ⟨⟨⟨rfl, h2⟩, h3⟩, h4⟩ := h
    have e : zt t1 j = t1.2.1 := by
      unfold zt
      rw [h2, h3]
      simp
    rw [e]
    unfold zV
    rcases (show t1.2.1 = 0 ∨ t1.2.1 = 1 by omega) with e | e <;> rw [e] <;> rfl
  · exact zV_map (List.all_eq_true.mp h j (List.mem_range.mpr hj)) _
theorem arrV_congr {c : ClassId} {N : Nat} {f g : Nat → Value} (h : ∀ j, j < N → f j = g j) : arrV c N f = arrV c N g := by
  unfold arrV
  congr 1
  apply Array.ext
  · simp
  · intro j h1 h2
    simp only [Array.getElem_ofFn]
    exact h j (by simpa using h1)
theorem zC_map {D : va_G} {y : Nat → ClassId} {a a1 : Nat → Nat} {q1 q : Zs} {b : Nat} {r : Nat → Int} {H : Heap} (h1 : q1.1 = q.1) (h2 : q1.2.1 = q.2.1) (hf : ∀ j, j < q.2.1 → zF a1 q1.2.2.1 r j = zF a q.2.2.1 r j) : zC D y a1 q1 b r H ↔ zC D y a q b r H := by
  unfold zC
  rw [h1, h2]
  by_cases c : q.1 < 10
  · rw [if_pos c, if_pos c]
    unfold zFk
    by_cases c6 : q.1 = 6
    · rw [if_pos c6, if_pos c6]
    · rw [if_neg c6, if_neg c6, arrV_congr hf]
  · rw [if_neg c, if_neg c]
    exact ⟨fun h => h.to hf, fun h => h.to (fun k hk => (hf k hk).symm)⟩
theorem zk_nd {s1 sh : Sh} {l : List Nat} (h : zk s1 sh l = true) : va_nd l = true := by
  unfold zk at h
  simp only [Bool.and_eq_true] at h
  exact h.1.1.2
theorem zk_len {s1 sh : Sh} {l : List Nat} (h : zk s1 sh l = true) : s1.length = l.length := by
  unfold zk at h
  simp only [Bool.and_eq_true, decide_eq_true_eq] at h
  exact h.1.1.1
theorem zk_at {s1 sh : Sh} {l : List Nat} (h : zk s1 sh l = true) {i : Nat} {q1 : Zs} (hq : s1[i]? = some q1) : i < l.length ∧ ∃ q, sh[zp l i]? = some q ∧ q1.1 = q.1 ∧ q1.2.1 = q.2.1 ∧ zcc l q1.2.1 q1.2.2.1 q.2.2.1 = true := by
  have hi : i < l.length := by rw [← zk_len h]; exact (List.getElem?_eq_some_iff.mp hq).1
  unfold zk at h
  simp only [Bool.and_eq_true] at h
  have h1 := List.all_eq_true.mp h.1.2 i (List.mem_range.mpr hi)
  unfold zkc at h1
  rw [hq] at h1
  cases hs : sh[zp l i]? with
  | none => rw [hs] at h1; cases h1
  | some q =>
    rw [hs] at h1
    simp only [Bool.and_eq_true, decide_eq_true_eq] at h1
    exact ⟨hi, q, rfl, h1.1.1, h1.1.2, h1.2⟩
theorem zk_g {s1 sh : Sh} {l : List Nat} (h : zk s1 sh l = true) {k : Nat} {q : Zs} (hq : sh[k]? = some q) : zkg s1 sh l k = true := by
  unfold zk at h
  simp only [Bool.and_eq_true] at h
  exact List.all_eq_true.mp h.2 k (List.mem_range.mpr (List.getElem?_eq_some_iff.mp hq).1)
/-- the two worlds' words on whether a cell is there -/
theorem zk_x {s1 sh : Sh} {l : List Nat} (h : zk s1 sh l = true) (σ σ1 : Mm) {i : Nat} {q1 q : Zs} (hq1 : s1[i]? = some q1) (hq : sh[zp l i]? = some q) : (zx (zj l σ σ1) q.2.2.2 → zx σ1 q1.2.2.2) ∧ (zx σ1 q1.2.2.2 → (∀ g, q.2.2.2 = some g → zq l g.1 = none → σ g.1 g.2 ≠ 0) → zx (zj l σ σ1) q.2.2.2) := by
  have hi := (zk_at h hq1).1
  have hg := zk_g h hq
  unfold zkg at hg
  simp only [hq, zq_at (zk_nd h) hi, hq1] at hg
  cases hc : q.2.2.2 with
  | none =>
    simp only [hc, hq1, decide_eq_true_eq] at hg
    rw [hg]
    exact ⟨fun _ => trivial, fun _ _ => trivial⟩
  | some g =>
    simp only [hc] at hg
    cases hz : zq l g.1 with
    | none =>
      simp only [hz, hq1, decide_eq_true_eq] at hg
      rw [hg]
      refine ⟨fun _ => trivial, fun _ hx => ?_⟩
      show zj l σ σ1 g.1 g.2 ≠ 0
      rw [zj_none σ σ1 hz]
      exact hx g rfl hz
    | some c1 =>
      simp only [hz, hq1, decide_eq_true_eq] at hg
      rw [hg]
      have e : zj l σ σ1 g.1 = σ1 c1 := zj_some σ σ1 hz
      exact ⟨fun hx => by show σ1 c1 g.2 ≠ 0; rw [← e]; exact hx, fun hx _ => by show zj l σ σ1 g.1 g.2 ≠ 0; rw [e]; exact hx⟩
def aW (sh : Sh) (a : Nat → Nat) (σ : Mm) (sz : Nat) : Nat → Prop := fun q => (∃ (k : Nat) (p : Zs), sh[k]? = some p ∧ zx σ p.2.2.2 ∧ a k = q) ∨ sz ≤ q
section ZCL
variable {D : va_G} {y : Nat → ClassId} {A : Nat → Prop} {s1 sh : Sh} {l : List Nat} {a : Nat → Nat} {σ0 σ σ1 : Mm} {H0 H H1 : Heap} {locs L : List Loc}
theorem zin_x (hz : zk s1 sh l = true) (hx : Zx sh l σ) {i : Nat} {q1 : Zs} (hq1 : s1[i]? = some q1) {q : Zs} (hq : sh[zp l i]? = some q) (h : zx (fun i => σ (zp l i)) q1.2.2.2) : zx σ q.2.2.2 := by
  have h1 := (zk_x hz σ (fun i => σ (zp l i)) hq1 hq).2 h (hx i q (zk_at hz hq1).1 hq)
  rwa [zj_self] at h1
/-- before a call -/
theorem zin_W (hz : zk s1 sh l = true) (hx : Zx sh l σ) (hW : HW D y sh a σ H) : HW D y s1 (fun i => a (zp l i)) (fun i => σ (zp l i)) H := by
  intro i q1 hq1 hx1
  obtain ⟨hi, q, hq, e1, e2, hc⟩ := zk_at hz hq1
  refine (zC_map e1 e2 (fun j hj => zcc_map hc _ (by rw [e2]; exact hj))).mpr (hW _ q hq (zin_x hz hx hq1 hq hx1))
theorem zin_P (hz : zk s1 sh l = true) (hx : Zx sh l σ) (hN : NE sh σ0 σ) (hA : AP A sh a σ0) : AP (fun _ => True) s1 (fun i => a (zp l i)) (fun i => σ (zp l i)) := by
  refine ⟨fun i j p1 q1 hp1 hq1 hxp hxq e => ?_, fun _ _ _ _ => trivial⟩
  obtain ⟨hi, p, hp, -⟩ := zk_at hz hp1
  obtain ⟨hj, q, hq, -⟩ := zk_at hz hq1
  have h1 := hA.1 _ _ p q hp hq (hN _ p hp (zin_x hz hx hp1 hp hxp)) (hN _ q hq (zin_x hz hx hq1 hq hxq)) e
  have h2 := zq_at (zk_nd hz) hi
  rw [h1, zq_at (zk_nd hz) hj] at h2
  exact (Option.some.inj h2).symm
theorem zin_A (hz : zk s1 sh l = true) (hx : Zx sh l σ) (hN : NE sh σ0 σ) (hA : AP A sh a σ0) (hA2 : ∀ q, H0.size ≤ q → A q) (hS : va_S A H0 H locs) : ∀ q, aW s1 (fun i => a (zp l i)) (fun i => σ (zp l i)) H.size q → A q := by
  intro b hb
  rcases hb with ⟨i, q1, hq1, hx1, rfl⟩ | hb
  · obtain ⟨hi, q, hq, -⟩ := zk_at hz hq1
    exact hA.2 _ q hq (hN _ q hq (zin_x hz hx hq1 hq hx1))
  · exact hA2 b (Nat.le_trans hS.1 hb)
/-- behind a call -/
theorem zout_W (hz : zk s1 sh l = true) (hx : Zx sh l σ) (hW : HW D y sh a σ H) (hN : NE sh σ0 σ) (hA : AP A sh a σ0) (hW1 : HW D y s1 (fun i => a (zp l i)) σ1 H1) (hN1 : NE s1 (fun i => σ (zp l i)) σ1) (hF : ∀ q : Nat, q < H.size → ¬ aW s1 (fun i => a (zp l i)) (fun i => σ (zp l i)) H.size q → H1[q]? = H[q]?) : HW D y sh a (zj l σ σ1) H1 ∧ NE sh σ (zj l σ σ1) := by
  have hne : NE sh σ (zj l σ σ1) := by
    intro k q hq hxk
    cases hk : zq l k with
    | some i =>
      have hi := zq_lt hk
      have e := zq_zp hk
      subst e
      have hq1 : ∃ q1, s1[i]? = some q1 := ⟨_, List.getElem?_eq_getElem (by rw [zk_len hz]; exact hi)⟩
      obtain ⟨q1, hq1⟩ := hq1
      exact zin_x hz hx hq1 hq (hN1 i q1 hq1 ((zk_x hz σ σ1 hq1 hq).1 hxk))
    | none =>
      have hg := zk_g hz hq
      unfold zkg at hg
      simp only [hq, hk] at hg
      cases hc : q.2.2.2 with
      | none => trivial
      | some g =>
        simp only [hc] at hg
        rw [hc] at hxk
        have hz0 : zq l g.1 = none := by simpa using hg
        have e : zj l σ σ1 g.1 = σ g.1 := zj_none σ σ1 hz0
        show σ g.1 g.2 ≠ 0
        rw [← e]
        exact hxk
  refine ⟨fun k q hq hxk => ?_, hne⟩
  cases hk : zq l k with
  | some i =>
    have hi := zq_lt hk
    have e := zq_zp hk
    subst e
    obtain ⟨q1, hq1⟩ : ∃ q1, s1[i]? = some q1 := ⟨_, List.getElem?_eq_getElem (by rw [zk_len hz]; exact hi)⟩
    obtain ⟨-, q2, hq2, e1, e2, hc⟩ := zk_at hz hq1
    rw [hq] at hq2
    cases hq2
    rw [zj_some σ σ1 hk]
    exact (zC_map e1 e2 (fun j hj => zcc_map hc _ (by rw [e2]; exact hj))).mp (hW1 i q1 hq1 ((zk_x hz σ σ1 hq1 hq).1 hxk))
  | none =>
    rw [zj_none σ σ1 hk]
    have hxs := hne k q hq hxk
    have hcell := hW k q hq hxs
    refine zC_kept hcell (hF _ (zC_lt hcell) (fun hq8 => ?_))
    rcases hq8 with ⟨i, q1, hq1, hx1, e⟩ | h
    · obtain ⟨hi, q2, hq2, -⟩ := zk_at hz hq1
      have h1 := hA.1 _ _ q2 q hq2 hq (hN _ q2 hq2 (zin_x hz hx hq1 hq2 hx1)) (hN _ q hq hxs) e
      have h2 := zq_at (zk_nd hz) hi
      rw [h1, hk] at h2
      cases h2
    · exact Nat.lt_irrefl _ (Nat.lt_of_lt_of_le (zC_lt hcell) h)
end ZCL
theorem NE.trans {sh : Sh} {σ0 σ σ1 : Mm} (h : NE sh σ0 σ) (h1 : NE sh σ σ1) : NE sh σ0 σ1 := fun k q hq hx => h k q hq (h1 k q hq hx)
