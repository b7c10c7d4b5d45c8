/-! Methods that make cells: a made world is taken up into the caller's -/
def mrg (l : List Nat) (a b : Nat → Nat) : Nat → Nat := fun c => match zq l c with
  | some i => b i
  | none => a c
theorem mrg_some {l : List Nat} (a b : Nat → Nat) {c i : Nat} (h : zq l c = some i) : mrg l a b c = b i := by unfold mrg; rw [h]
theorem mrg_none {l : List Nat} (a b : Nat → Nat) {c : Nat} (h : zq l c = none) : mrg l a b c = a c := by unfold mrg; rw [h]
theorem mrg_at {l : List Nat} (hn : va_nd l = true) (a b : Nat → Nat) {i : Nat} (hi : i < l.length) : mrg l a b (zp l i) = b i := mrg_some a b (zq_at hn hi)
/-- the code c may speak of the cell m -/
def zref (c m : Nat) : Bool := if c < 2 then false else if c = 2 then decide (m < 26) else decide ((c - 3) / 2 = m)
theorem zV_cong {a b : Nat → Nat} {c : Nat} (h : ∀ m, zref c m = true → a m = b m) (v : Int) : zV a c v = zV b c v := by
  unfold zV
  by_cases h0 : c = 0
  · rw [if_pos h0, if_pos h0]
  by_cases h1 : c = 1
  · rw [if_neg h0, if_neg h0, if_pos h1, if_pos h1]
  by_cases h2 : c = 2
  · rw [if_neg h0, if_neg h0, if_neg h1, if_neg h1, if_pos h2, if_pos h2, h (v.toNat % 26) (by unfold zref; rw [if_neg (by omega), if_pos h2]; exact decide_eq_true (Nat.mod_lt _ (by decide)))]
  have hr : a ((c - 3) / 2) = b ((c - 3) / 2) := h _ (by unfold zref; rw [if_neg (by omega), if_neg h2]; exact decide_eq_true rfl)
  rw [if_neg h0, if_neg h0, if_neg h1, if_neg h1, if_neg h2, if_neg h2]
  by_cases h3 : c % 2 = 1
  · rw [if_pos h3, if_pos h3, hr]
  · rw [if_neg h3, if_neg h3, show (c - 4) / 2 = (c - 3) / 2 by omega, hr]
/-- codes that speak of no cell, all the same -/
def zcl (t : Zc) : Bool := t.1.isEmpty && (decide (t.2.2 = 0) && decide (t.2.1 < 2))
theorem zcl_t {t : Zc} (h : zcl t = true) (j : Nat) : zt t j < 2 := by
  obtain ⟨t1, t2, t3⟩ := t
  unfold zcl at h
  simp only [Bool.and_eq_true, decide_eq_true_eq] at h
  obtain ⟨h1, h2, h3⟩ := h
  have e : t1 = [] := by simpa using h1
  subst e
  unfold zt
  show t2 + t3 * j < 2
  rw [h2]
  omega
/-- the codes of a world speak of its own cells -/
def zkw (s1 : Sh) : Bool := s1.all (fun q => zcl q.2.2.1 || (List.range q.2.1).all (fun j => decide (zt q.2.2.1 j < 2) || (if zt q.2.2.1 j = 2 then decide (26 ≤ s1.length) else decide ((zt q.2.2.1 j - 3) / 2 < s1.length))))
theorem zkw_ref {s1 : Sh} (h : zkw s1 = true) {i : Nat} {q : Zs} (hq : s1[i]? = some q) {j : Nat} (hj : j < q.2.1) {m : Nat} (hm : zref (zt q.2.2.1 j) m = true) : m < s1.length := by
  have h1 := List.all_eq_true.mp h q (List.mem_of_getElem? hq)
  unfold zref at hm
  by_cases h2 : zt q.2.2.1 j < 2
  · rw [if_pos h2] at hm; cases hm
  rw [if_neg h2] at hm
  rcases Bool.or_eq_true _ _ |>.mp h1 with h3 | h3
  · exact absurd (zcl_t h3 j) h2
  have h4 := List.all_eq_true.mp h3 j (List.mem_range.mpr hj)
  rcases Bool.or_eq_true _ _ |>.mp h4 with h5 | h5
  · exact absurd (of_decide_eq_true h5) h2
  by_cases h6 : zt q.2.2.1 j = 2
  · rw [if_pos h6] at h5 hm
    have := of_decide_eq_true h5
    have := of_decide_eq_true hm
    omega
  · rw [if_neg h6] at h5 hm
    have := of_decide_eq_true h5
    have := of_decide_eq_true hm
    omega
/-- none but the slot j of the cell k speaks of the cells of l; what hangs on that slot lies in l -/
def zno (sh : Sh) (l : List Nat) (k j : Nat) : Bool := (zq l k).isNone && (List.range sh.length).all (fun c => match sh[c]? with
  | none => true
  | some q => match zq l c with
    | some _ => q.2.2.2.isSome
    | none => decide (q.2.2.2 ≠ some (k, j)) && (zcl q.2.2.1 || (List.range q.2.1).all (fun i => (decide (c = k) && decide (i = j)) || l.all (fun m => !zref (zt q.2.2.1 i) m))))
theorem zno_k {sh : Sh} {l : List Nat} {k j : Nat} (h : zno sh l k j = true) : zq l k = none := by
  unfold zno at h
  have h1 := (Bool.and_eq_true _ _ |>.mp h).1
  simpa using h1
theorem zno_in {sh : Sh} {l : List Nat} {k j : Nat} (h : zno sh l k j = true) {c i : Nat} {q : Zs} (hq : sh[c]? = some q) (hc : zq l c = some i) : q.2.2.2 ≠ none := by
  have h1 := List.all_eq_true.mp (Bool.and_eq_true _ _ |>.mp h).2 c (List.mem_range.mpr (List.getElem?_eq_some_iff.mp hq).1)
  simp only [hq, hc] at h1
  intro e
  rw [e] at h1
  cases h1
theorem zno_g {sh : Sh} {l : List Nat} {k j : Nat} (h : zno sh l k j = true) {c : Nat} {q : Zs} (hq : sh[c]? = some q) (hc : zq l c = none) : q.2.2.2 ≠ some (k, j) := by
  have h1 := List.all_eq_true.mp (Bool.and_eq_true _ _ |>.mp h).2 c (List.mem_range.mpr (List.getElem?_eq_some_iff.mp hq).1)
  simp only [hq, hc, Bool.and_eq_true, decide_eq_true_eq] at h1
  exact h1.1
theorem zno_ref {sh : Sh} {l : List Nat} {k j : Nat} (h : zno sh l k j = true) {c : Nat} {q : Zs} (hq : sh[c]? = some q) (hc : zq l c = none) {i : Nat} (hi : i < q.2.1) (hne : ¬ (c = k ∧ i = j)) {m : Nat} (hm : zref (zt q.2.2.1 i) m = true) : zq l m = none := by
  have h1 := List.all_eq_true.mp (Bool.and_eq_true _ _ |>.mp h).2 c (List.mem_range.mpr (List.getElem?_eq_some_iff.mp hq).1)
  simp only [hq, hc, Bool.and_eq_true] at h1
  cases hz : zq l m with
  | none => rfl
  | some d =>
    exfalso
    rcases Bool.or_eq_true _ _ |>.mp h1.2 with h3 | h3
    · have := zcl_t h3 i
      unfold zref at hm
      rw [if_pos this] at hm
      cases hm
    · have h4 := List.all_eq_true.mp h3 i (List.mem_range.mpr hi)
      rcases Bool.or_eq_true _ _ |>.mp h4 with h5 | h5
      · simp only [Bool.and_eq_true, decide_eq_true_eq] at h5
        exact hne h5
      · have h6 := List.all_eq_true.mp h5 m (List.mem_of_getElem? (zq_some hz))
        rw [hm] at h6
        cases h6
set_option maxHeartbeats 1000000 in
/-- a world s1 that was made, taken up at the places l, as the slot j of the cell k comes to hold its first cell -/
theorem adopt {D : va_G} {y : Nat → ClassId} {A : Nat → Prop} {sh s1 : Sh} {l : List Nat} {a b : Nat → Nat} {o σ σ1 : Mm} {H0 H1 H2 : Heap} {k j : Nat} (hz : zk s1 sh l = true) (hw : zkw s1 = true) (hn : zno sh l k j = true) (hW : HW D y sh a σ H0) (hN : NE sh o σ) (hA : AP A sh a o) (hA2 : ∀ q, H0.size ≤ q → A q)
    (hf : ∀ q : Nat, q < H0.size → H1[q]? = H0[q]?) (hW1 : HW D y s1 b σ1 H1) (hA1 : AP (fun q => H0.size ≤ q) s1 b σ1) (hs : ∀ q : Nat, q ≠ a k ∨ sh[k]? = none → H2[q]? = H1[q]?)
    (hk : ∀ q, sh[k]? = some q → zx σ q.2.2.2 ∧ zC D y (mrg l a b) q (a k) (zr (σ k) j 1) H2) :
    HW D y sh (mrg l a b) (zu (zj l σ σ1) k j 1) H2 ∧ AP A sh (mrg l a b) (zu (zj l σ σ1) k j 1) := by
  have hnd := zk_nd hz
  have hlen := zk_len hz
  have hkl := zno_k hn
  have hlt : ∀ (c : Nat) (q : Zs), sh[c]? = some q → zx σ q.2.2.2 → a c < H0.size := fun c q hq hx => zC_lt (hW c q hq hx)
  have hzk : ∀ c, zq l c ≠ none → c ≠ k := fun c hc e => hc (by rw [e]; exact hkl)
  -- presence
  have pin : ∀ (c i : Nat) (q q1 : Zs), sh[c]? = some q → s1[i]? = some q1 → zq l c = some i → zx (zu (zj l σ σ1) k j 1) q.2.2.2 → zx σ1 q1.2.2.2 := by
    intro c i q q1 hq hq1 hc hx
    have hg := zk_g hz hq
    unfold zkg at hg
    simp only [hq, hc] at hg
    cases hgq : q.2.2.2 with
    | none => exact absurd hgq (zno_in hn hq hc)
    | some g =>
      rw [hgq] at hx
      simp only [hgq, hq1] at hg
      cases hgl : zq l g.1 with
      | none =>
        simp only [hgl, decide_eq_true_eq] at hg
        rw [hg]
        trivial
      | some c1 =>
        simp only [hgl, decide_eq_true_eq] at hg
        rw [hg]
        have hx2 : zu (zj l σ σ1) k j 1 g.1 g.2 ≠ 0 := hx
        rw [zu_ne _ _ _ (hzk g.1 (by rw [hgl]; exact fun h => by cases h)), zj_some σ σ1 hgl] at hx2
        exact hx2
  have pout : ∀ (c : Nat) (q : Zs), sh[c]? = some q → zq l c = none → zx (zu (zj l σ σ1) k j 1) q.2.2.2 → zx σ q.2.2.2 := by
    intro c q hq hc hx
    have hg := zk_g hz hq
    unfold zkg at hg
    simp only [hq, hc] at hg
    cases hgq : q.2.2.2 with
    | none => trivial
    | some g =>
      rw [hgq] at hx
      simp only [hgq] at hg
      have hgl : zq l g.1 = none := by simpa using hg
      have hne := zno_g hn hq hc
      rw [hgq] at hne
      have hx2 : zu (zj l σ σ1) k j 1 g.1 g.2 ≠ 0 := hx
      show σ g.1 g.2 ≠ 0
      by_cases e : g.1 = k
      · have e2 : g.2 ≠ j := fun h => hne (by rw [← e, ← h])
        rw [e, zu_self] at hx2
        unfold zr at hx2
        rw [if_neg e2, zj_none σ σ1 hkl] at hx2
        rw [e]
        exact hx2
      · rw [zu_ne _ _ _ e, zj_none σ σ1 hgl] at hx2
        exact hx2
  have hs1 : ∀ (c i : Nat), zq l c = some i → ∃ q1, s1[i]? = some q1 := fun c i hc => ⟨_, List.getElem?_eq_getElem (by rw [hlen]; exact zq_lt hc)⟩
  refine ⟨fun c q hq hx => ?_, fun i i2 p q hp hq hxp hxq e => ?_, fun c q hq hx => ?_⟩
  · cases hc : zq l c with
    | some i =>
      obtain ⟨q1, hq1⟩ := hs1 c i hc
      have hx1 := pin c i q q1 hq hq1 hc hx
      have hcell := hW1 i q1 hq1 hx1
      have hge : H0.size ≤ b i := hA1.2 i q1 hq1 hx1
      have e := zq_zp hc
      subst e
      obtain ⟨-, q2, hq2, e1, e2, hcc⟩ := zk_at hz hq1
      rw [hq] at hq2
      cases hq2
      rw [mrg_some a b hc, zu_ne _ _ _ (hzk _ (by rw [hc]; exact fun h => by cases h)), zj_some σ σ1 hc]
      have hcell2 : zC D y b q1 (b i) (σ1 i) H2 := zC_kept hcell (hs _ (by
        cases hsk : sh[k]? with
        | none => exact Or.inr rfl
        | some qk =>
          have := hlt k qk hsk (hk qk hsk).1
          exact Or.inl (by omega)))
      refine (zC_map e1 e2 (fun j2 hj2 => ?_)).mp hcell2
      refine Eq.trans ?_ (zcc_map (a := mrg l a b) hcc (σ1 i) (by rw [e2]; exact hj2))
      unfold zF
      refine zV_cong (fun m hm => ?_) _
      have hml := zkw_ref hw hq1 (by rw [e2]; exact hj2) hm
      exact (mrg_at hnd a b (by rw [← hlen]; exact hml)).symm
    | none =>
      have hx0 := pout c q hq hc hx
      rw [mrg_none a b hc]
      by_cases e : c = k
      · subst e
        rw [zu_self, zj_none σ σ1 hc]
        exact (hk q hq).2
      · rw [zu_ne _ _ _ e, zj_none σ σ1 hc]
        have hcell := hW c q hq hx0
        have h0 : zC D y a q (a c) (σ c) H1 := zC_kept hcell (hf _ (hlt c q hq hx0))
        have h2 : zC D y a q (a c) (σ c) H2 := zC_kept h0 (hs _ (by
          cases hsk : sh[k]? with
          | none => exact Or.inr rfl
          | some qk => exact Or.inl (fun z => e (hA.1 c k q qk hq hsk (hN c q hq hx0) (hN k qk hsk (hk qk hsk).1) z))))
        refine (zC_map rfl rfl (fun j2 hj2 => ?_)).mp h2
        unfold zF
        refine zV_cong (fun m hm => ?_) _
        exact (mrg_none a b (zno_ref hn hq hc hj2 (fun z => e z.1) hm)).symm
  · cases hi : zq l i with
    | some d =>
      obtain ⟨p1, hp1⟩ := hs1 i d hi
      have hx1 := pin i d p p1 hp hp1 hi hxp
      cases hi2 : zq l i2 with
      | some d2 =>
        obtain ⟨q1, hq1⟩ := hs1 i2 d2 hi2
        have hx2 := pin i2 d2 q q1 hq hq1 hi2 hxq
        rw [mrg_some a b hi, mrg_some a b hi2] at e
        have := hA1.1 d d2 p1 q1 hp1 hq1 hx1 hx2 e
        subst this
        rw [← zq_zp hi, ← zq_zp hi2]
      | none =>
        exfalso
        have hx2 := pout i2 q hq hi2 hxq
        rw [mrg_some a b hi, mrg_none a b hi2] at e
        have h1 : H0.size ≤ b d := hA1.2 d p1 hp1 hx1
        have h2 := hlt i2 q hq hx2
        omega
    | none =>
      have hx1 := pout i p hp hi hxp
      cases hi2 : zq l i2 with
      | some d2 =>
        exfalso
        obtain ⟨q1, hq1⟩ := hs1 i2 d2 hi2
        have hx2 := pin i2 d2 q q1 hq hq1 hi2 hxq
        rw [mrg_none a b hi, mrg_some a b hi2] at e
        have h1 : H0.size ≤ b d2 := hA1.2 d2 q1 hq1 hx2
        have h2 := hlt i p hp hx1
        omega
      | none =>
        have hx2 := pout i2 q hq hi2 hxq
        rw [mrg_none a b hi, mrg_none a b hi2] at e
        exact hA.1 i i2 p q hp hq (hN i p hp hx1) (hN i2 q hq hx2) e
  · cases hc : zq l c with
    | some i =>
      obtain ⟨q1, hq1⟩ := hs1 c i hc
      have h1 : H0.size ≤ b i := hA1.2 i q1 hq1 (pin c i q q1 hq hq1 hc hx)
      rw [mrg_some a b hc]
      exact hA2 _ h1
    | none =>
      rw [mrg_none a b hc]
      exact hA.2 c q hq (hN c q hq (pout c q hq hc hx))
/-! Contracts of makers -/
def QcN (D : va_G) (yy : Nat → ClassId) (s0 s9 : Sh) (a : Nat → Nat) (σ : Mm) (sz : Nat) (σ1 : Mm) (ov : Option Value) : Array Value → State → Outcome → State → Prop := fun _ st oc t => oc = .returned ov ∧ ∃ a1 : Nat → Nat, (∀ (k : Nat) (q : Zs), s0[k]? = some q → q.2.2.2 = none → a1 k = a k) ∧ HW D yy s9 a1 σ1 t.heap ∧ AP (aW s0 a σ sz) s9 a1 σ1 ∧ va_F (aW s0 a σ sz) st t
/-- a method that makes at most mc cells of ms slots: from memory σ, with these arguments, it returns ov, with memory σ1 over the world s9 -/
def CTN (l : Launch) (y : MethodName) (b : ByteArray) (n : Nat) (ret : Option FieldType) (rm : Room) (s0 s9 : Sh) (D : va_G) (yy : Nat → ClassId) (tk tv : Nat → Nat) (a : Nat → Nat) (σ : Mm) (As : List Value) (σ1 : Mm) (ov : Option Value) (mc ms : Nat) : Prop :=
  ∀ sz : Nat, Met l y (WS y b n ret) rm (PcW D yy tk tv s0 a σ sz As) (QcN D yy s0 s9 a σ sz σ1 ov) mc ms (aW s0 a σ sz)
/-- the walk's frame, with other addresses, and cells made -/
def gN (Γ : Cx) (a : Nat → Nat) (o : Mm) (mc ms : Nat) : Cx := (gp Γ, gl Γ, ge Γ, gR Γ, gs Γ, gm Γ, gargs Γ, gbelow Γ, gmeth Γ, gc Γ, gD Γ, gy Γ, gk Γ, gv Γ, a, gA Γ, o, mc, ms, gQ Γ)
abbrev Lc : Type := Launch × (Nat → Nat) × (Nat → Nat)
def Mk (Γ : Cx) (l : Lc) (nm : String) (m n : Nat) : Prop := (gl Γ = l.1 ∧ gk Γ = l.2.1 ∧ gv Γ = l.2.2) ∧ (gmeth Γ).name = nm ∧ gmc Γ = m ∧ gms Γ = n
/-- the law's own frame: the script of L ints at the cell b, the claim's own end -/
def LWX (Γ : Cx) (xs : Mm) (L b : Nat) : Prop := gargs Γ = #[.ref b] ∧ va_X b L (fun j => zJ (xs 0 j)) (gs Γ) (gs Γ).heap ∧ b < (gs Γ).heap.size ∧ (gA Γ = fun q => (gs Γ).heap.size ≤ q) ∧ gQ Γ = lw_Z (gbelow Γ) #[.ref b] (gs Γ) ∧ (gmeth Γ).sig.returnType = ret ∧ L ≤ 260
abbrev lawR : Option FieldType := some (.object "#law")
/-- the goal of a maker, where it returns; or the law's -/
def RTN (Γ : Cx) (s0 s9 : Sh) (ret : Option FieldType) (σ1 : Mm) (ov : Option Value) (mc ms : Nat) : Prop :=
  (ret = lawR ∧ LWX Γ σ1 mc ms) ∨ (ret ≠ lawR ∧ ∃ (sb se : Sh) (a0 : Nat → Nat) (σ0 : Mm), (gmeth Γ).sig.returnType = ret ∧ gA Γ = aW sb a0 σ0 (gs Γ).heap.size ∧ gQ Γ = MQ (gbelow Γ) (QcN (gD Γ) (gy Γ) sb se a0 σ0 (gs Γ).heap.size σ1 ov) (gargs Γ) (gs Γ) mc ms (aW sb a0 σ0 (gs Γ).heap.size) ∧ (∀ (k : Nat) (q : Zs), sb[k]? = some q → q.2.2.2 = none → ga Γ k = a0 k ∧ ∃ q9 : Zs, s0[k]? = some q9 ∧ q9.2.2.2 = none) ∧ ∀ (k : Nat) (q : Zs), se[k]? = some q → s9[k]? = some q)
/-- .. seen from a world with more cells -/
theorem rtn_up {Γ : Cx} {s0 s9 t0 t9 : Sh} {ret : Option FieldType} {σ1 : Mm} {ov : Option Value} {mc ms : Nat} (h : RTN Γ s0 s9 ret σ1 ov mc ms) (h0 : ∀ (k : Nat) (q : Zs), s0[k]? = some q → t0[k]? = some q) (h9 : ∀ (k : Nat) (q : Zs), s9[k]? = some q → t9[k]? = some q) : RTN Γ t0 t9 ret σ1 ov mc ms := by
  rcases h with h | ⟨e0, sb, se, a0, σ0, e1, e2, e3, e4, e5⟩
  · exact Or.inl h
  · exact Or.inr ⟨e0, sb, se, a0, σ0, e1, e2, e3, fun k q hq hx => ⟨(e4 k q hq hx).1, (e4 k q hq hx).2.elim fun q9 hq9 => ⟨q9, h0 k q9 hq9.1, hq9.2⟩⟩, fun k q hq => h9 k q (e5 k q hq)⟩
theorem gd_N {Γ : Cx} {cc : ByteArray} {own : String} {nL : Nat} {rm : Room} {sh sh2 : Sh} (G : Gd Γ cc own nL rm sh) {a : Nat → Nat} {o : Mm} (mc ms : Nat) (hA : AP (gA Γ) sh2 a o) : Gd (gN Γ a o mc ms) cc own nL rm sh2 := ⟨G.1, G.2.1, G.2.2.1, G.2.2.2.1, G.2.2.2.2.1, G.2.2.2.2.2.1, hA, G.2.2.2.2.2.2.2.1, G.2.2.2.2.2.2.2.2.1, G.2.2.2.2.2.2.2.2.2.1, G.2.2.2.2.2.2.2.2.2.2⟩
theorem rtn_N {Γ : Cx} {s0 s9 : Sh} {ret : Option FieldType} {σ1 : Mm} {ov : Option Value} {mc ms : Nat} (h : RTN Γ s0 s9 ret σ1 ov mc ms) {a : Nat → Nat} {o : Mm} (m n : Nat) (he : ∀ (k : Nat) (q : Zs), s0[k]? = some q → q.2.2.2 = none → a k = ga Γ k) : RTN (gN Γ a o m n) s0 s9 ret σ1 ov mc ms := by
  rcases h with h | ⟨h0, sb, se, a0, σ0, h1, h2, h3, h4, h5⟩
  · exact Or.inl h
  · refine Or.inr ⟨h0, sb, se, a0, σ0, h1, h2, h3, fun k q hq hx => ?_, h5⟩
    obtain ⟨e1, q9, e2, e3⟩ := h4 k q hq hx
    exact ⟨(he k q9 e2 e3).trans e1, q9, e2, e3⟩
theorem rtn_law {Γ : Cx} {s0 s9 s1 s8 : Sh} {σ1 : Mm} {ov : Option Value} {mc ms : Nat} (h : RTN Γ s0 s9 lawR σ1 ov mc ms) : RTN Γ s1 s8 lawR σ1 ov mc ms ∧ LWX Γ σ1 mc ms := by
  rcases h with h | ⟨h0, -⟩
  · exact ⟨Or.inl h, h.2⟩
  · exact absurd rfl h0
theorem mk_cs {Γ : Cx} {cc : ByteArray} {own : String} {nL : Nat} {rm : Room} {sh : Sh} (G : Gd Γ cc own nL rm sh) {l : Lc} {nm : String} {m n : Nat} (hM : Mk Γ l nm m n) (h1 : m ≤ rm.cells) (h2 : n ≤ rm.slots) : gmc Γ ≤ (gR Γ).cells ∧ gms Γ ≤ (gR Γ).slots := by
  rw [hM.2.2.1, hM.2.2.2, G.2.2.2.2.2.2.2.2.1]
  exact ⟨h1, h2⟩
set_option maxHeartbeats 1000000 in
theorem ctn_of {l : Launch} {y : MethodName} {b : ByteArray} {n : Nat} {ret : Option FieldType} {rm : Room} {s0 s9 : Sh} {D : va_G} {yy : Nat → ClassId} {tk tv : Nat → Nat} {a : Nat → Nat} {σ : Mm} {Ar : (Nat → Nat) → (Nat → Nat) → List Value} {σ1 : Mm} {ov : Option Value} {mc ms : Nat} (hy : plainName y.cls = true) (hn : (lg_sl (Ar a tk)).length ≤ n) (hlr : ret ≠ lawR)
    (body : ∀ Γ : Cx, Gd Γ b y.cls n rm s0 → go Γ = σ → Mk Γ (l, tk, tv) y.name 0 0 → RTN Γ s0 s9 ret σ1 ov mc ms → PT Γ n s0 0 σ (lv_args 0 (Ar (ga Γ) (gk Γ))) []) : CTN l y b n ret rm s0 s9 D yy tk tv a σ (Ar a tk) σ1 ov mc ms := by
  intro sz
  refine Met.ofW (cc := b) (maxL := n) (ret := ret) hy rfl ?_
  intro p e s m args below meth c s₁ B hml hv
  obtain ⟨rfl, rfl, hW, hK, hP, hO⟩ := hv
  have hts : ∀ w ∈ WS y b n ret, w.before (Ar a tk).toArray s = true := atoms_spec (ws := WS y b n ret) B.pre
  have hown : s.vm.findClass y.cls = some m.cls := findClass_of_methodNamed B.named
  have hl := lv_entry (Ar a tk) (n := n) hn
  rw [lg_entry_eq]
  have h := body (p, l, e, (headSpec (WS y b n ret) rm).room, s, m, (Ar a tk).toArray, below, meth, c, D, yy, tk, tv, a, aW s0 a σ s.heap.size, σ, 0, 0, MQ below (QcN D yy s0 s9 a σ s.heap.size σ1 ov) (Ar a tk).toArray s mc ms (aW s0 a σ s.heap.size))
    ⟨B.exec, B.bytes, hml, hown, fun w hw => hts w (List.mem_cons_of_mem _ hw), hK, ⟨hP.1, fun k q hq hx => Or.inl ⟨k, q, hq, hx, rfl⟩⟩, fun q hq => Or.inr hq, rfl, B.notSynchronized, hO⟩ rfl ⟨⟨rfl, rfl, rfl⟩, (name_of_methodNamed B.named B.method).1, rfl, rfl⟩
    (Or.inr ⟨hlr, s0, s9, a, σ, B.returns, rfl, rfl, fun k q hq hx => ⟨rfl, q, hq, hx⟩, fun _ _ h => h⟩)
  exact h s.heap [] _ hW (fun _ _ _ h => h) va_S.rf hl
section RETN
variable {Γ : Cx} {cc : ByteArray} {own : String} {nL : Nat} {rm : Room} {sh s0 : Sh} {pc : Nat} {σ σ1 : Mm} {lv : List (Nat × Value)} {ov : Option Value} {mc ms m n : Nat} {l : Lc} {nm : String}
theorem gW_retN (G : Gd Γ cc own nL rm sh) (hM : Mk Γ l nm m n) (hm : m ≤ mc) (hn : n ≤ ms) {ret : Option FieldType} (hlr : ret ≠ lawR) (hR : RTN Γ s0 sh ret σ1 ov mc ms) {v : Option Value} (hv : v = ov) (hs : σ = σ1) {H : Heap} {locs : List Loc} {ls : Array Slot} {st : List Value} (hW : HW (gD Γ) (gy Γ) sh (ga Γ) σ H) (hN : NE sh (go Γ) σ) (hS : va_S (gA Γ) (gs Γ).heap H locs)
    (h : (gmeth Γ).sig.returnType = ret → ∀ (Qc : Array Value → State → Outcome → State → Prop) (free : Addr → Prop), (∀ t : State, t.heap = H → (gs Γ).WarmedH t.vm → Qc (gargs Γ) (gs Γ) (.returned v) t) → (∀ q ∈ locs, free q.base) → W (gp Γ) (gl Γ) (ge Γ) (gR Γ) (gs Γ) (gm Γ) (gargs Γ) (gbelow Γ) (gmeth Γ) (gc Γ) H locs mc ms (MQ (gbelow Γ) Qc (gargs Γ) (gs Γ) mc ms free) (F0 (gm Γ) pc ls st)) : gW Γ H locs pc ls st := by
  rcases hR with ⟨hR, -⟩ | ⟨-, sb, se, a0, σ0, h1, h2, h3, h4, h5⟩
  · exact absurd hR hlr
  subst hv hs
  unfold gW
  rw [hM.2.2.1, hM.2.2.2, h3]
  refine W.widen hm hn (h h1 _ _ ?_ ?_)
  · intro t ht hw
    subst ht
    refine ⟨rfl, ga Γ, fun k q hq hx => (h4 k q hq hx).1, fun k q hq hx => hW k q (h5 k q hq) hx, ?_, ?_⟩
    · rw [← h2]
      exact ⟨fun i j p q hp hq hxp hxq e => G.2.2.2.2.2.2.1.1 i j p q (h5 i p hp) (h5 j q hq) (hN i p (h5 i p hp) hxp) (hN j q (h5 j q hq) hxq) e, fun k q hq hx => G.2.2.2.2.2.2.1.2 k q (h5 k q hq) (hN k q (h5 k q hq) hx)⟩
    · have h := hS.F (s := gs Γ) rfl
      rw [h2] at h
      exact h
  · intro q hq
    have h := hS.2.2 q hq
    rw [h2] at h
    exact h
theorem p_iretN (G : Gd Γ cc own nL rm sh) {x : Int} (hM : Mk Γ l nm m n) (hm : m ≤ mc) (hn : n ≤ ms) (hR : RTN Γ s0 sh (some .int) σ1 ov mc ms) (hd : decode cc pc = .ok (.ireturn, 1)) (hv : some (Value.int (zJ x)) = ov) (hs : σ = σ1) : PT Γ nL sh pc σ lv [.int (zJ x)] := fun H locs ls hW hN hS hl =>
  gW_retN G hM hm hn (fun h => by cases h) hR hv hs hW hN hS (fun hr Qc free hq hf => W.iret G.1 G.2.1 hr hq hf hd G.2.2.2.2.2.2.2.2.2.1)
theorem p_vretN (G : Gd Γ cc own nL rm sh) (hM : Mk Γ l nm m n) (hm : m ≤ mc) (hn : n ≤ ms) (hR : RTN Γ s0 sh none σ1 ov mc ms) (hd : decode cc pc = .ok (.return_, 1)) (hv : none = ov) (hs : σ = σ1) : PT Γ nL sh pc σ lv [] := fun H locs ls hW hN hS hl =>
  gW_retN G hM hm hn (fun h => by cases h) hR hv hs hW hN hS (fun hr Qc free hq hf => W.vret G.1 G.2.1 hr hq hf hd G.2.2.2.2.2.2.2.2.2.1)
end RETN
/-! A final field set to a reference -/
def FF (own : String) (idx ci j : Nat) : Prop := ∃ (C : String) (T : u_T) (N : Nat) (ty : Nat → FieldType) (ft : FieldType), vwCl[ci]? = some (C, T, N) ∧ (∀ w ∈ u_ws C T N, w ∈ GT) ∧ (∀ k, k < N → parseFieldDescriptor (T k).2.2.1 = some (ty k)) ∧ (∀ a, a < N → ∀ b, b < N → a ≠ b → (T a).2.1 ≠ (T b).2.1) ∧ j < N ∧ (T j).1 = C ∧ C = own ∧ Cond.fieldLink own idx C (T j).2.1 (T j).2.2.1 ∈ GT ∧ (T j).2.2.2 = true ∧ parseFieldDescriptor (T j).2.2.1 = some ft ∧ ∀ x, narrow ft (.ref x) = .ref x ∧ fits ft (.ref x) = true
section FIN
variable {Γ : Cx} {cc : ByteArray} {own : String} {nL : Nat} {rm : Room} {sh : Sh} {pc : Nat} {σ : Mm} {lv : List (Nat × Value)} {st : List Value}
theorem w_fin (G : Gd Γ cc own nL rm sh) (hI : (gmeth Γ).name = "<init>") {idx ci j n b x : Nat} {V : Nat → Value} (hL : FF own idx ci j) (hd : decode cc pc = .ok (.putfield idx, 3)) {H : Heap} {locs : List Loc} {ls : Array Slot} {mc ms : Nat} (hn : n = (vwCl.getD ci ("", TX0, 0)).2.2) (hcell : t_OB b ((gD Γ).1 ci) n ((gD Γ).2 ci) H V)
    (kk : ∀ (H2 : Heap) (slot : Nat), t_OB b ((gD Γ).1 ci) n ((gD Γ).2 ci) H2 (updV V j (.ref x)) → H2.size = H.size → (∀ q : Nat, q ≠ b → H2[q]? = H[q]?) → W (gp Γ) (gl Γ) (ge Γ) (gR Γ) (gs Γ) (gm Γ) (gargs Γ) (gbelow Γ) (gmeth Γ) (gc Γ) H2 (locs ++ [⟨b, slot⟩]) mc ms (gQ Γ) (F0 (gm Γ) (pc + 3) ls st)) : W (gp Γ) (gl Γ) (ge Γ) (gR Γ) (gs Γ) (gm Γ) (gargs Γ) (gbelow Γ) (gmeth Γ) (gc Γ) H locs mc ms (gQ Γ) (F0 (gm Γ) pc ls (.ref x :: .ref b :: st)) := by
  obtain ⟨C, T, N, ty, ft, hc, hin, hty, hnm, hj, hC, hCo, hlk, hfin, hd2, hfit⟩ := hL
  have hNn : n = N := by rw [hn, List.getD_eq_getElem?_getD, hc]; rfl
  subst hNn
  have hap := va_apart (own := own) (Ts := GT) G.2.2.2.2.1 hin ty hty hnm G.2.2.2.2.2.1 hc
  obtain ⟨cell, q1, q2, q3, q4⟩ := hcell
  obtain ⟨hSl, hfc, kC, hkC, hkind⟩ := G.2.2.2.2.2.1.1 ci _ hc
  obtain ⟨cf, kf, fi, f, hi, hsl⟩ := hSl j hj
  have hlay := G.2.2.2.2.1 _ (hin _ (u_in_lay hj))
  unfold u_lay at hlay
  rw [if_pos hfin] at hlay
  have hst := (u_facts hfc hkC (u_lays (ws := GT) G.2.2.2.2.1 hin hj) hi).1
  have hown := G.2.2.2.1
  have hcf : (gm Γ).cls = cf := by
    obtain ⟨_, _, c', _, _, _, -, -, hf', -, -, -, hown2, -⟩ := Cond.laysFinal_spec hlay
    have e1 : c' = cf := by have := hi.symm.trans hf'; simp at this; exact this.1.symm
    rw [hC, hCo] at hown2
    rw [← e1]; exact Option.some.inj (hown.symm.trans hown2)
  have h6 := u_fits hfc hkC hkind (Or.inr hlay) hi hd2 (hfit x).1 (hfit x).2
  rw [hC] at hi
  refine W.putFinK G.1 G.2.1 hown (G.2.2.2.2.1 _ hlk) hi hst hcf hI (by rw [q2]; exact h6) q1 q3 (by rw [hsl]; exact k2_hasslot (q4 j hj)) rfl rfl hd fun H' e1 e2 e3 => ?_
  rw [hsl] at e1 ⊢
  exact kk H' _ ⟨_, e1, q2, q3, t_set q4 hap hj _⟩ e2 e3
/-- the owner of a field, behind the store -/
theorem fin_own {D : va_G} {y : Nat → ClassId} {a : Nat → Nat} {l : List Nat} {b : Nat → Nat} {k ci n K j : Nat} {t : Zc} {g : Option (Nat × Nat)} {r : Nat → Int} {H2 : Heap} {sh : Sh} {x : Nat} (hn : zno sh l k j = true) (hk : sh[k]? = some (10 + ci, n, t, g)) (hcode : zt t j = 4 + 2 * K) (hK : mrg l a b K = x)
    (h : t_OB (a k) (D.1 ci) n (D.2 ci) H2 (updV (zF a t r) j (.ref x))) : zC D y (mrg l a b) (10 + ci, n, t, g) (a k) (zr r j 1) H2 := by
  unfold zC
  rw [if_neg (by show ¬ (10 + ci < 10); omega)]
  have e : 10 + ci - 10 = ci := by omega
  simp only [e]
  refine h.to (fun i hi => ?_)
  rw [zF_zr]
  unfold updV
  by_cases hij : i = j
  · rw [if_pos hij, if_pos hij]
    rw [hcode]
    unfold zV
    rw [if_neg (by omega), if_neg (by omega), if_neg (by omega), if_neg (by omega), if_neg (by decide), show (4 + 2 * K - 4) / 2 = K by omega, hK]
  · rw [if_neg hij, if_neg hij]
    unfold zF
    refine zV_cong (fun m hm => ?_) _
    exact (mrg_none a b (zno_ref hn hk (zno_k hn) hi (fun z => hij z.2) hm)).symm
theorem mrg_free {sh : Sh} {l : List Nat} {k j : Nat} (hn : zno sh l k j = true) (a b : Nat → Nat) : ∀ (c : Nat) (q : Zs), sh[c]? = some q → q.2.2.2 = none → mrg l a b c = a c := fun c q hq hx => by
  cases hc : zq l c with
  | none => exact mrg_none a b hc
  | some i => exact absurd hx (zno_in hn hq hc)
variable {β : Type} {s9 : Sh} {ret : Option FieldType} {σ9 : Mm} {ov9 : Option Value} {mc9 ms9 m n : Nat} {lc : Lc} {nm : String} {kk : Mm → Option β} {out : β} {lv' : (Nat → Nat) → List (Nat × Value)} {st' : (Nat → Nat) → List Value}
set_option maxHeartbeats 1000000 in
/-- newarray, and the field it goes to -/
theorem p_newaPut (G : Gd Γ cc own nL rm sh) (hR : RTN Γ sh s9 ret σ9 ov9 mc9 ms9) (hM : Mk Γ lc "<init>" m n) {atype : ArrayType} {idx ci j k N K nk c1 kd : Nat} {tk0 : Zc}
    (ha : Cond.arrayClass (newarray.typeOf atype) ∈ GT) (hd1 : decode cc pc = .ok (.newarray atype, 2)) (hd2 : decode cc (pc + 2) = .ok (.putfield idx, 3)) (hL : FF own idx ci j)
    (hk : sh[k]? = some (10 + ci, nk, tk0, none)) (hnk : nk = (vwCl.getD ci ("", TX0, 0)).2.2) (hcode : zt tk0 j = 4 + 2 * K) (hz : zk [(kd, N, ([], c1, 0), none)] sh [K] = true) (hw : zkw [(kd, N, ([], c1, 0), none)] = true) (hn : zno sh [K] k j = true)
    (hkd : ∀ y : Nat → ClassId, (zty y)[kd]? = some (y kd, newarray.typeOf atype)) (hra : ∀ (U : State) (c : ClassId), va_RA U c (newarray.typeOf atype) → U.vm.findClass ("[" ++ (newarray.typeOf atype).toString) = some c) (hdef : defaultValue (newarray.typeOf atype) = zV (fun _ => 0) c1 0) (hc1 : c1 < 2) (hkd9 : kd < 6)
    (hN : N < 2147483648) (hby : N * componentBytes (newarray.typeOf atype) ≤ 536870912) (hrc : m + 1 ≤ rm.cells) (hrs : n + N ≤ rm.slots)
    (h : bnd (zu (zj [K] σ (fun _ _ => 0)) k j 1) kk = some out)
    (hlv : ∀ a : Nat → Nat, (∀ (c : Nat) (q : Zs), sh[c]? = some q → q.2.2.2 = none → a c = ga Γ c) → lv = lv' a ∧ st = st' a)
    (k9 : ∀ Γ' : Cx, Gd Γ' cc own nL rm sh → RTN Γ' sh s9 ret σ9 ov9 mc9 ms9 → Mk Γ' lc "<init>" (m + 1) (n + N) → ∀ σ', kk σ' = some out → PT Γ' nL sh (pc + 2 + 3) σ' (lv' (ga Γ')) (st' (ga Γ'))) : PT Γ nL sh pc σ lv (.int (zJ (N : Int)) :: .ref (ga Γ k) :: st) := fun H locs ls hW hN9 hS hl => by
  have hcell := hW k _ hk trivial
  unfold zC at hcell
  rw [if_neg (by show ¬ (10 + ci < 10); omega)] at hcell
  have e : 10 + ci - 10 = ci := by omega
  simp only [e] at hcell
  have zn : (zJ (N : Int)).toInt = (N : Int) := zw_eq (by omega) (by omega)
  have zn0 : ¬ zJ (N : Int) < 0 := by
    intro q
    have := (zJ_lt0 _).mp q
    unfold zw at this
    omega
  have znn : (zJ (N : Int)).toNatClampNeg = N := by
    show (zJ (N : Int)).toInt.toNat = N
    omega
  have hlt : ga Γ k < H.size := by
    obtain ⟨cell, h2, -⟩ := hcell
    exact (Array.getElem?_eq_some_iff.mp h2).1
  refine va_newaK G.1 G.2.1 (G.2.2.2.2.1 _ ha) rfl hd1 rfl zn0 znn hby (by rw [hM.2.2.1, G.2.2.2.2.2.2.2.2.1]; exact hrc) (by rw [hM.2.2.2, G.2.2.2.2.2.2.2.2.1]; exact hrs) rfl (fun H1 cA e1 z1 o1 hAr hNm => ?_)
  have hcA : cA = gy Γ kd := Option.some.inj (hNm.symm.trans (hra _ _ (G.2.2.2.2.2.1.2 kd _ (hkd _)).2))
  subst hcA
  refine w_fin G hM.2.1 hL hd2 hnk (hcell.kept (o1 _ hlt)) (fun H2 slot b1 b2 b3 => ?_)
  have hKl : K ∈ [K] := List.mem_cons_self
  have hmK : mrg [K] (ga Γ) (fun _ => H.size) K = H.size := by
    unfold mrg zq zqi
    rw [if_pos rfl]
  have hW1 : HW (gD Γ) (gy Γ) [(kd, N, ([], c1, 0), none)] (fun _ => H.size) (fun _ _ => 0) H1 := by
    intro i q hq hx
    have hi : i = 0 := by
      have := (List.getElem?_eq_some_iff.mp hq).1
      simp at this
      omega
    subst hi
    cases hq
    refine (zC_arr (by omega)).mpr ?_
    rw [e1]
    refine congrArg some (arrV_congr (fun j2 _ => ?_))
    unfold zF
    rw [hdef, show zt ([], c1, 0) j2 = c1 from zt_c c1 j2]
    exact zV_cong (fun mm hm => by unfold zref at hm; rw [if_pos hc1] at hm; cases hm) _
  have hA1 : AP (fun q => H.size ≤ q) [(kd, N, ([], c1, 0), none)] (fun _ => H.size) (fun _ _ => 0) := ⟨fun i j2 p q hp hq _ _ _ => by
    have h1 := (List.getElem?_eq_some_iff.mp hp).1
    have h2 := (List.getElem?_eq_some_iff.mp hq).1
    simp at h1 h2
    omega, fun _ _ _ _ => Nat.le_refl _⟩
  obtain ⟨g1, g2⟩ := adopt (H0 := H) (H1 := H1) (H2 := H2) hz hw hn hW hN9 G.2.2.2.2.2.2.1 (fun q hq => G.2.2.2.2.2.2.2.1 q (Nat.le_trans hS.1 hq)) (fun q hq => o1 q hq) hW1 hA1 (fun q hq => b3 q (hq.elim id (fun z => by rw [hk] at z; cases z))) (fun q hq => by
    rw [hk] at hq
    cases hq
    exact ⟨trivial, fin_own hn hk hcode hmK b1⟩)
  have he := mrg_free hn (ga Γ) (fun _ => H.size)
  obtain ⟨el, es⟩ := hlv (mrg [K] (ga Γ) (fun _ => H.size)) he
  have hAk := G.2.2.2.2.2.2.1.2 k _ hk (hN9 k _ hk trivial)
  have k8 := k9 (gN Γ (mrg [K] (ga Γ) (fun _ => H.size)) (zu (zj [K] σ (fun _ _ => 0)) k j 1) (gmc Γ + 1) (gms Γ + N)) (gd_N G _ _ g2) (rtn_N hR _ _ he) ⟨hM.1, hM.2.1, by show gmc Γ + 1 = m + 1; rw [hM.2.2.1], by show gms Γ + N = n + N; rw [hM.2.2.2]⟩ _ h H2 (locs ++ [⟨ga Γ k, slot⟩]) ls g1 (fun _ _ _ hx => hx) ⟨by rw [b2, z1]; exact Nat.le_succ_of_le hS.1, fun q h1 h2 => by
      have h3 := Nat.lt_of_lt_of_le h1 hS.1
      rw [b3 q (fun z => h2 (by rw [z]; exact hAk)), o1 q h3]
      exact hS.2.1 q h1 h2, fun q hq => by
      rcases List.mem_append.mp hq with h | h
      · exact hS.2.2 q h
      · rw [List.mem_singleton.mp h]
        exact hAk⟩ (show lv_has ls nL (lv' (mrg [K] (ga Γ) (fun _ => H.size))) by rw [← el]; exact hl)
  have k7 : gW (gN Γ (mrg [K] (ga Γ) (fun _ => H.size)) (zu (zj [K] σ (fun _ _ => 0)) k j 1) (gmc Γ + 1) (gms Γ + N)) H2 (locs ++ [⟨ga Γ k, slot⟩]) (pc + 2 + 3) ls (st' (mrg [K] (ga Γ) (fun _ => H.size))) := k8
  rw [← es] at k7
  exact k7
end FIN
