/-! Calls of makers -/
def zkn (s1 sh : Sh) (l : List Nat) : Bool := (List.range sh.length).all (fun c => match sh[c]?, zq l c with
  | some q, none => zcl q.2.2.1 || (List.range q.2.1).all (fun i => (List.range l.length).all (fun d => !zref (zt q.2.2.1 i) (zp l d) || (match s1[d]? with
    | some q1 => decide (q1.2.2.2 = none)
    | none => false)))
  | _, _ => true)
theorem zkn_ref {s1 sh : Sh} {l : List Nat} (h : zkn s1 sh l = true) {c : Nat} {q : Zs} (hq : sh[c]? = some q) (hc : zq l c = none) {i : Nat} (hi : i < q.2.1) {m d : Nat} (hm : zref (zt q.2.2.1 i) m = true) (hd : zq l m = some d) : ∃ q1, s1[d]? = some q1 ∧ q1.2.2.2 = none := by
  have h1 := List.all_eq_true.mp h c (List.mem_range.mpr (List.getElem?_eq_some_iff.mp hq).1)
  simp only [hq, hc] at h1
  rcases Bool.or_eq_true _ _ |>.mp h1 with h2 | h2
  · have := zcl_t h2 i
    unfold zref at hm
    rw [if_pos this] at hm
    cases hm
  · have h3 := List.all_eq_true.mp (List.all_eq_true.mp h2 i (List.mem_range.mpr hi)) d (List.mem_range.mpr (zq_lt hd))
    rw [zq_zp hd, hm] at h3
    cases hs : s1[d]? with
    | none => rw [hs] at h3; cases h3
    | some q1 =>
      rw [hs] at h3
      exact ⟨q1, rfl, by simpa using h3⟩
set_option maxHeartbeats 1000000 in
theorem zout_N {D : va_G} {y : Nat → ClassId} {A : Nat → Prop} {sh s1 : Sh} {l : List Nat} {a a1 : Nat → Nat} {o σ σ1 : Mm} {H H1 : Heap} (hz : zk s1 sh l = true) (hw : zkw s1 = true) (hn : zkn s1 sh l = true) (hx : Zx sh l σ) (hW : HW D y sh a σ H) (hN : NE sh o σ) (hA : AP A sh a o) (hAB : ∀ q, aW s1 (fun i => a (zp l i)) (fun i => σ (zp l i)) H.size q → A q)
    (hW1 : HW D y s1 a1 σ1 H1) (hA1 : AP (aW s1 (fun i => a (zp l i)) (fun i => σ (zp l i)) H.size) s1 a1 σ1) (he1 : ∀ (k : Nat) (q : Zs), s1[k]? = some q → q.2.2.2 = none → a1 k = a (zp l k)) (hF : ∀ q : Nat, q < H.size → ¬ aW s1 (fun i => a (zp l i)) (fun i => σ (zp l i)) H.size q → H1[q]? = H[q]?) :
    HW D y sh (mrg l a a1) (zj l σ σ1) H1 ∧ AP A sh (mrg l a a1) (zj l σ σ1) ∧ ∀ (c : Nat) (q : Zs), sh[c]? = some q → q.2.2.2 = none → mrg l a a1 c = a c := by
  have hnd := zk_nd hz
  have hlen := zk_len hz
  have hs1 : ∀ (c i : Nat), zq l c = some i → ∃ q1, s1[i]? = some q1 := fun c i hc => ⟨_, List.getElem?_eq_getElem (by rw [hlen]; exact zq_lt hc)⟩
  have pin : ∀ (c i : Nat) (q q1 : Zs), sh[c]? = some q → s1[i]? = some q1 → zq l c = some i → zx (zj l σ σ1) q.2.2.2 → zx σ1 q1.2.2.2 := by
    intro c i q q1 hq hq1 hc hxc
    have e := zq_zp hc
    subst e
    exact (zk_x hz σ σ1 hq1 hq).1 hxc
  have pout : ∀ (c : Nat) (q : Zs), sh[c]? = some q → zq l c = none → zx (zj l σ σ1) q.2.2.2 → zx σ q.2.2.2 := by
    intro c q hq hc hxc
    have hg := zk_g hz hq
    unfold zkg at hg
    simp only [hq, hc] at hg
    cases hgq : q.2.2.2 with
    | none => trivial
    | some g =>
      rw [hgq] at hxc
      simp only [hgq] at hg
      have hgl : zq l g.1 = none := by simpa using hg
      have hx2 : zj l σ σ1 g.1 g.2 ≠ 0 := hxc
      rw [zj_none σ σ1 hgl] at hx2
      exact hx2
  -- a cell outside is not among the callee's
  have hout : ∀ (c : Nat) (q : Zs), sh[c]? = some q → zq l c = none → zx σ q.2.2.2 → ¬ aW s1 (fun i => a (zp l i)) (fun i => σ (zp l i)) H.size (a c) := by
    intro c q hq hc hxc hm
    rcases hm with ⟨i, q1, hq1, hx1, e⟩ | h
    · obtain ⟨hi, q2, hq2, -⟩ := zk_at hz hq1
      have h1 := hA.1 _ _ q2 q hq2 hq (hN _ q2 hq2 (zin_x hz hx hq1 hq2 hx1)) (hN _ q hq hxc) e
      have h2 := zq_at hnd hi
      rw [h1, hc] at h2
      cases h2
    · exact Nat.lt_irrefl _ (Nat.lt_of_lt_of_le (zC_lt (hW c q hq hxc)) h)
  have hfree : ∀ (c : Nat) (q : Zs), sh[c]? = some q → q.2.2.2 = none → mrg l a a1 c = a c := by
    intro c q hq hxc
    cases hc : zq l c with
    | none => exact mrg_none a a1 hc
    | some i =>
      obtain ⟨q1, hq1⟩ := hs1 c i hc
      rw [mrg_some a a1 hc]
      have hg := zk_g hz hq
      unfold zkg at hg
      simp only [hq, hc, hxc, hq1, decide_eq_true_eq] at hg
      rw [he1 i q1 hq1 hg, zq_zp hc]
  refine ⟨fun c q hq hxc => ?_, ⟨fun i i2 p q hp hq hxp hxq e => ?_, fun c q hq hxc => ?_⟩, hfree⟩
  · cases hc : zq l c with
    | some i =>
      obtain ⟨q1, hq1⟩ := hs1 c i hc
      have hcell := hW1 i q1 hq1 (pin c i q q1 hq hq1 hc hxc)
      have e := zq_zp hc
      subst e
      obtain ⟨-, q2, hq2, e1, e2, hcc⟩ := zk_at hz hq1
      rw [hq] at hq2
      cases hq2
      rw [mrg_some a a1 hc, zj_some σ σ1 hc]
      refine (zC_map e1 e2 (fun j2 hj2 => ?_)).mp hcell
      refine Eq.trans ?_ (zcc_map (a := mrg l a a1) hcc (σ1 i) (by rw [e2]; exact hj2))
      unfold zF
      refine zV_cong (fun m hm => ?_) _
      have hml := zkw_ref hw hq1 (by rw [e2]; exact hj2) hm
      exact (mrg_at hnd a a1 (by rw [← hlen]; exact hml)).symm
    | none =>
      have hx0 := pout c q hq hc hxc
      rw [mrg_none a a1 hc, zj_none σ σ1 hc]
      have hcell := hW c q hq hx0
      have h0 : zC D y a q (a c) (σ c) H1 := zC_kept hcell (hF _ (zC_lt hcell) (hout c q hq hc hx0))
      refine (zC_map rfl rfl (fun j2 hj2 => ?_)).mp h0
      unfold zF
      refine zV_cong (fun m hm => ?_) _
      cases hm2 : zq l m with
      | none => exact (mrg_none a a1 hm2).symm
      | some d =>
        obtain ⟨q1, hq1, hg1⟩ := zkn_ref hn hq hc hj2 hm hm2
        rw [mrg_some a a1 hm2, he1 d q1 hq1 hg1, zq_zp hm2]
  · cases hi : zq l i with
    | some d =>
      obtain ⟨p1, hp1⟩ := hs1 i d hi
      have hx1 := pin i d p p1 hp hp1 hi hxp
      cases hi2 : zq l i2 with
      | some d2 =>
        obtain ⟨q1, hq1⟩ := hs1 i2 d2 hi2
        have hx2 := pin i2 d2 q q1 hq hq1 hi2 hxq
        rw [mrg_some a a1 hi, mrg_some a a1 hi2] at e
        have := hA1.1 d d2 p1 q1 hp1 hq1 hx1 hx2 e
        subst this
        rw [← zq_zp hi, ← zq_zp hi2]
      | none =>
        exfalso
        have hx2 := pout i2 q hq hi2 hxq
        rw [mrg_some a a1 hi, mrg_none a a1 hi2] at e
        have h1 := hA1.2 d p1 hp1 hx1
        rw [e] at h1
        exact hout i2 q hq hi2 hx2 h1
    | none =>
      have hx1 := pout i p hp hi hxp
      cases hi2 : zq l i2 with
      | some d2 =>
        exfalso
        obtain ⟨q1, hq1⟩ := hs1 i2 d2 hi2
        have hx2 := pin i2 d2 q q1 hq hq1 hi2 hxq
        rw [mrg_none a a1 hi, mrg_some a a1 hi2] at e
        have h1 := hA1.2 d2 q1 hq1 hx2
        rw [← e] at h1
        exact hout i p hp hi hx1 h1
      | none =>
        have hx2 := pout i2 q hq hi2 hxq
        rw [mrg_none a a1 hi, mrg_none a a1 hi2] at e
        exact hA.1 i i2 p q hp hq (hN i p hp hx1) (hN i2 q hq hx2) e
  · cases hc : zq l c with
    | some i =>
      obtain ⟨q1, hq1⟩ := hs1 c i hc
      rw [mrg_some a a1 hc]
      exact hAB _ (hA1.2 i q1 hq1 (pin c i q q1 hq hq1 hc hxc))
    | none =>
      rw [mrg_none a a1 hc]
      exact hA.2 c q hq (hN c q hq (pout c q hq hc hxc))
section CALN
variable {Γ : Cx} {cc : ByteArray} {own : String} {nL : Nat} {rm : Room} {sh : Sh} {pc : Nat} {σ : Mm} {lv : List (Nat × Value)} {st : List Value}
variable {β : Type} {s00 sE : Sh} {ret9 : Option FieldType} {σ9 : Mm} {ov9 : Option Value} {mc9 ms9 m0 n0 : Nat} {lc : Lc} {nm0 : String} {kk : Mm → Option β} {out : β} {lv' : (Nat → Nat) → List (Nat × Value)} {st' : (Nat → Nat) → List Value}
set_option maxHeartbeats 1000000 in
/-- behind a call of a maker -/
theorem run_goN (G : Gd Γ cc own nL rm sh) (hR : RTN Γ sh sE ret9 σ9 ov9 mc9 ms9) (hM : Mk Γ lc nm0 m0 n0) {s1 : Sh} {l : List Nat} {mc1 ms1 : Nat} (hz : zk s1 sh l = true) (hw : zkw s1 = true) (hn : zkn s1 sh l = true) (hx : Zx sh l σ) {σ1 : Mm} {ov : Option Value} {H : Heap} {locs : List Loc} {ls : Array Slot} {stk rest : List Value} {argv : Array Value} (hW : HW (gD Γ) (gy Γ) sh (ga Γ) σ H) (hN : NE sh (go Γ) σ) (hS : va_S (gA Γ) (gs Γ).heap H locs) (hl : lv_has ls nL lv)
    (hr : va_Run (gp Γ) (gl Γ) (ge Γ) (gR Γ) (gs Γ) (gm Γ) (gargs Γ) (gbelow Γ) (gmeth Γ) (gc Γ) H locs (gmc Γ) (gms Γ) mc1 ms1 (F0 (gm Γ) pc ls stk) rest (QcN (gD Γ) (gy Γ) s1 s1 (fun i => ga Γ (zp l i)) (fun i => σ (zp l i)) H.size σ1 ov argv) (aW s1 (fun i => ga Γ (zp l i)) (fun i => σ (zp l i)) H.size))
    (h : bnd (zj l σ σ1) kk = some out)
    (hlv : ∀ a : Nat → Nat, (∀ (c : Nat) (q : Zs), sh[c]? = some q → q.2.2.2 = none → a c = ga Γ c) → lv = lv' a ∧ rest = st' a)
    (k9 : ∀ Γ' : Cx, Gd Γ' cc own nL rm sh → RTN Γ' sh sE ret9 σ9 ov9 mc9 ms9 → Mk Γ' lc nm0 (m0 + mc1) (n0 + ms1) → ∀ σ', kk σ' = some out → PT Γ' nL sh (pc + 3) σ' (lv' (ga Γ')) (ov.toList ++ st' (ga Γ'))) : gW Γ H locs pc ls stk := by
  intro T hT X
  obtain ⟨v, st₀, t, T', L, h0, X', hL, e1, e2, ⟨hv, a1, ha1, hW1, hA1, hz1, hF⟩, stp⟩ := hr T hT X
  cases hv
  rw [h0] at hz1 hF
  rw [← e1] at hW1 hz1 hF
  have hAB := zin_A hz hx hN G.2.2.2.2.2.2.1 G.2.2.2.2.2.2.2.1 hS
  obtain ⟨g1, g2, he⟩ := zout_N hz hw hn hx hW hN G.2.2.2.2.2.2.1 hAB hW1 hA1 ha1 hF
  obtain ⟨el, es⟩ := hlv (mrg l (ga Γ) a1) he
  have hS1 : va_S (gA Γ) (gs Γ).heap T'.heap (locs ++ L) := ⟨Nat.le_trans hS.1 hz1, fun q h1 h2 => by
    rw [hF q (Nat.lt_of_lt_of_le h1 hS.1) (fun z => h2 (hAB q z))]
    exact hS.2.1 q h1 h2, fun q hq => by
    rcases List.mem_append.mp hq with h | h
    · exact hS.2.2 q h
    · exact hAB _ (hL q h)⟩
  have k8 := k9 (gN Γ (mrg l (ga Γ) a1) (zj l σ σ1) (gmc Γ + mc1) (gms Γ + ms1)) (gd_N G _ _ g2) (rtn_N hR _ _ he) ⟨hM.1, hM.2.1, by show gmc Γ + _ = m0 + _; rw [hM.2.2.1], by show gms Γ + _ = n0 + _; rw [hM.2.2.2]⟩ _ h T'.heap (locs ++ L) ls g1 (fun _ _ _ hx => hx) hS1 (show lv_has ls nL (lv' (mrg l (ga Γ) a1)) by rw [← el]; exact hl)
  have k7 : gW (gN Γ (mrg l (ga Γ) a1) (zj l σ σ1) (gmc Γ + mc1) (gms Γ + ms1)) T'.heap (locs ++ L) (pc + 3) ls (ov.toList ++ st' (mrg l (ga Γ) a1)) := k8
  rw [← es] at k7
  obtain ⟨t2, a3, b1⟩ := k7 T' rfl X'
  exact ⟨t2, stp t2 a3, b1⟩
theorem recv_at (G : Gd Γ cc own nL rm sh) {C : String} {k0 ci n1 : Nat} {t0 : Zc} {g0 : Option (Nat × Nat)} (hk : sh[k0]? = some (10 + ci, n1, t0, g0)) (hC : vwCl[ci]?.map (fun q => q.1) = some C) {H : Heap} (hW : HW (gD Γ) (gy Γ) sh (ga Γ) σ H) (hx : zx σ g0) : ∃ cellB : Cell, H[ga Γ k0]? = some cellB ∧ cellB.vm.isStatics = false ∧ (gs Γ).vm.findClass C = some cellB.cls := by
  have hcell := hW k0 _ hk hx
  unfold zC at hcell
  rw [if_neg (by show ¬ (10 + ci < 10); omega)] at hcell
  have e : 10 + ci - 10 = ci := by omega
  simp only [e] at hcell
  obtain ⟨cell, q1, q2, q3, q4⟩ := hcell
  cases hq : vwCl[ci]? with
  | none => rw [hq] at hC; cases hC
  | some q =>
    rw [hq] at hC
    have hC2 : q.1 = C := by simpa using hC
    obtain ⟨-, hfc, -⟩ := G.2.2.2.2.2.1.1 ci _ hq
    refine ⟨cell, q1, by rw [q3]; rfl, ?_⟩
    rw [← hC2, q2]
    exact hfc
set_option maxHeartbeats 1000000 in
/-- invokevirtual of a maker -/
theorem p_callVN (G : Gd Γ cc own nL rm sh) (hR : RTN Γ sh sE ret9 σ9 ov9 mc9 ms9) (hM : Mk Γ lc nm0 m0 n0) {idx : Nat} {C : String} {y : MethodName} {b : ByteArray} {n mc1 ms1 : Nat} {ret : Option FieldType} {np : Nat} {rm1 : Room} {s1 : Sh} (l : List Nat) {k0 ci n1 : Nat} {t0 : Zc} {As stk : List Value} {σ1 : Mm} {ov : Option Value}
    (hd : decode cc pc = .ok (.invokevirtual idx, 3)) (hL : LKV own idx C y b n ret np) (hC : CTN (gl Γ) y b n ret rm1 s1 s1 (gD Γ) (gy Γ) (gk Γ) (gv Γ) (fun i => ga Γ (zp l i)) (zb l σ) (.ref (ga Γ k0) :: As) σ1 ov mc1 ms1) (hstk : stk = As.reverse ++ .ref (ga Γ k0) :: st) (hz : zk s1 sh l = true) (hw : zkw s1 = true) (hn : zkn s1 sh l = true) (hx : Zx sh l σ)
    (hk : sh[k0]? = some (10 + ci, n1, t0, none)) (hCl : vwCl[ci]?.map (fun q => q.1) = some C) (hnp : As.length = np) (h8 : (st.map fun v => v.category).sum ≤ 8)
    (hrm : rm1.cells = mc1 ∧ rm1.slots = ms1 ∧ rm1.frames + 1 ≤ rm.frames ∧ 8 + (n + 11) + rm1.locals ≤ rm.locals) (hrc : m0 + mc1 ≤ rm.cells) (hrs : n0 + ms1 ≤ rm.slots)
    (h : bnd (zj l σ σ1) kk = some out)
    (hlv : ∀ a : Nat → Nat, (∀ (c : Nat) (q : Zs), sh[c]? = some q → q.2.2.2 = none → a c = ga Γ c) → lv = lv' a ∧ st = st' a)
    (k9 : ∀ Γ' : Cx, Gd Γ' cc own nL rm sh → RTN Γ' sh sE ret9 σ9 ov9 mc9 ms9 → Mk Γ' lc nm0 (m0 + mc1) (n0 + ms1) → ∀ σ', kk σ' = some out → PT Γ' nL sh (pc + 3) σ' (lv' (ga Γ')) (ov.toList ++ st' (ga Γ'))) : PT Γ nL sh pc σ lv stk := fun H locs ls hW hN hS hl => by
  subst hstk
  obtain ⟨hlk, hin, hse, hini, hcode, hy⟩ := hL
  have S : CallFix (gp Γ) (gm Γ) (gc Γ) cc nL (gs Γ) (gargs Γ) GT own := ⟨G.1, G.2.1, G.2.2.1, G.2.2.2.1, G.2.2.2.2.1⟩
  have hts := G.2.2.2.2.1
  have hR9 := G.2.2.2.2.2.2.2.2.1
  have hrecv := recv_at G hk hCl hW trivial
  have hpv : PreV (gs Γ) H C (ga Γ k0) (PcW (gD Γ) (gy Γ) (gk Γ) (gv Γ) s1 (fun i => ga Γ (zp l i)) (fun i => σ (zp l i)) H.size (.ref (ga Γ k0) :: As)) As := ⟨pcw_blind, hrecv, pcw_at G hz hx hW hN hS _⟩
  have hroom : rm1.frames + 1 ≤ (gR Γ).frames ∧ 8 + (n + 11) + rm1.locals ≤ (gR Γ).locals := by rw [hR9]; exact hrm.2.2
  have hcs : gmc Γ + mc1 ≤ (gR Γ).cells ∧ gms Γ + ms1 ≤ (gR Γ).slots := by rw [hR9, hM.2.2.1, hM.2.2.2]; exact ⟨hrc, hrs⟩
  rcases hlk with hlk | ⟨host, hlk⟩
  · have cw : CallW (gR Γ) (gs Γ) (gargs Γ) own C idx y b n ret (WS y b n ret) rm1 mc1 ms1 np := ⟨callB_of np hts (ws_good hcode) rfl hrm.1 hrm.2.1 (by rw [hy.1]; exact hts _ hini) (hts _ hlk) hy.2 hroom, hts _ hin, hts _ hse⟩
    exact run_goN G hR hM hz hw hn hx hW hN hS hl (va_runV S (hC H.size) cw hpv rfl hnp hl.1 rfl (lv_room h8) hd hcs) h hlv k9
  · have cw := va_cnB (R := gR Γ) (s := gs Γ) (args := gargs Γ) np hts (ws_good hcode) rfl hrm.1 hrm.2.1 (va_Nw.of rfl (gd_n G hlk)) (by rw [hy.1]; exact hts _ hini) hy.2 hroom
    exact run_goN G hR hM hz hw hn hx hW hN hS hl (va_runVN S (hC H.size) ⟨cw, hts _ hin, hts _ hse⟩ hpv rfl hnp hl.1 rfl (lv_room h8) hd hcs) h hlv k9
/-- invokevirtual on a cell that is there by its guard -/
theorem p_callVg (G : Gd Γ cc own nL rm sh) {idx : Nat} {C : String} {y : MethodName} {b : ByteArray} {n : Nat} {ret : Option FieldType} {np : Nat} {rm1 : Room} {s1 : Sh} (l : List Nat) {k0 ci : Nat} {g0 : Option (Nat × Nat)} {As stk : List Value} {σ1 : Mm} {ov : Option Value}
    (hd : decode cc pc = .ok (.invokevirtual idx, 3)) (hL : LKV own idx C y b n ret np) (hC : CT (gl Γ) y b n ret rm1 s1 (gD Γ) (gy Γ) (gk Γ) (gv Γ) (fun i => ga Γ (zp l i)) (fun i => σ (zp l i)) (.ref (ga Γ k0) :: As) σ1 ov) (hstk : stk = As.reverse ++ .ref (ga Γ k0) :: st) (hz : zk s1 sh l = true) (hx : Zx sh l σ)
    (hk : (sh[k0]?.map fun q => (q.1, q.2.2.2)) = some (10 + ci, g0)) (hx0 : zx σ g0) (hCl : vwCl[ci]?.map (fun q => q.1) = some C) (hnp : As.length = np) (h8 : (st.map fun v => v.category).sum ≤ 8)
    (hrm : rm1.cells = 0 ∧ rm1.slots = 0 ∧ rm1.frames + 1 ≤ rm.frames ∧ 8 + (n + 11) + rm1.locals ≤ rm.locals) (hcs : gmc Γ ≤ (gR Γ).cells ∧ gms Γ ≤ (gR Γ).slots)
    (k : PT Γ nL sh (pc + 3) (zj l σ σ1) lv (ov.toList ++ st)) : PT Γ nL sh pc σ lv stk := fun H locs ls hW hN hS hl => by
  subst hstk
  obtain ⟨hlk, hin, hse, hini, hcode, hy⟩ := hL
  have S : CallFix (gp Γ) (gm Γ) (gc Γ) cc nL (gs Γ) (gargs Γ) GT own := ⟨G.1, G.2.1, G.2.2.1, G.2.2.2.1, G.2.2.2.2.1⟩
  have hts := G.2.2.2.2.1
  have hR9 := G.2.2.2.2.2.2.2.2.1
  obtain ⟨n1, t0, hk⟩ : ∃ (n1 : Nat) (t0 : Zc), sh[k0]? = some (10 + ci, n1, t0, g0) := by
    cases hs : sh[k0]? with
    | none => rw [hs] at hk; cases hk
    | some q =>
      rw [hs] at hk
      simp only [Option.map_some, Option.some.injEq, Prod.mk.injEq] at hk
      exact ⟨q.2.1, q.2.2.1, by rw [← hk.1, ← hk.2]⟩
  have hpv : PreV (gs Γ) H C (ga Γ k0) (PcW (gD Γ) (gy Γ) (gk Γ) (gv Γ) s1 (fun i => ga Γ (zp l i)) (fun i => σ (zp l i)) H.size (.ref (ga Γ k0) :: As)) As := ⟨pcw_blind, recv_at G hk hCl hW hx0, pcw_at G hz hx hW hN hS _⟩
  have hroom : rm1.frames + 1 ≤ (gR Γ).frames ∧ 8 + (n + 11) + rm1.locals ≤ (gR Γ).locals := by rw [hR9]; exact hrm.2.2
  rcases hlk with hlk | ⟨host, hlk⟩
  · have cw : CallW (gR Γ) (gs Γ) (gargs Γ) own C idx y b n ret (WS y b n ret) rm1 0 0 np := ⟨callB_of np hts (ws_good hcode) rfl hrm.1 hrm.2.1 (by rw [hy.1]; exact hts _ hini) (hts _ hlk) hy.2 hroom, hts _ hin, hts _ hse⟩
    exact run_go G hz hx hW hN hS hl (va_runV S (hC H.size) cw hpv rfl hnp hl.1 rfl (lv_room h8) hd hcs) k
  · have cw := va_cnB (R := gR Γ) (s := gs Γ) (args := gargs Γ) np hts (ws_good hcode) rfl hrm.1 hrm.2.1 (va_Nw.of rfl (gd_n G hlk)) (by rw [hy.1]; exact hts _ hini) hy.2 hroom
    exact run_go G hz hx hW hN hS hl (va_runVN S (hC H.size) ⟨cw, hts _ hin, hts _ hse⟩ hpv rfl hnp hl.1 rfl (lv_room h8) hd hcs) k
theorem zt_l (c0 c1 j : Nat) : zt ([], c0, c1) j = c0 + c1 * j := by
  unfold zt
  simp
/-- all that the cells of l hang on is the slot g0 -/
def zsg (sh : Sh) (l : List Nat) (g0 : Nat × Nat) : Bool := (List.range l.length).all (fun i => match sh[zp l i]? with
  | none => true
  | some q => match q.2.2.2 with
    | none => true
    | some g => (zq l g.1).isSome || decide (g = g0))
theorem zsg_x {sh : Sh} {l : List Nat} {g0 : Nat × Nat} (h : zsg sh l g0 = true) {σ : Mm} (hx : σ g0.1 g0.2 ≠ 0) : Zx sh l σ := by
  intro i q hi hq g hg hn
  have h1 := List.all_eq_true.mp h i (List.mem_range.mpr hi)
  rw [hq] at h1
  simp only [hg, hn] at h1
  have h2 : g = g0 := by simpa using h1
  rw [h2]
  exact hx
/-- null in a local -/
theorem p_aloadN (G : Gd Γ cc own nL rm sh) {i : Nat} {f : Fin 4} (hi : (f : Nat) = i) (q : Nat) (hq : lv[q]? = some (i, .null)) (hd : decode cc pc = .ok (.aload_n f, 1)) (k : PT Γ nL sh (pc + 1) σ lv (.null :: st)) : PT Γ nL sh pc σ lv st := fun H locs ls hW hN hS hl => lv_aload_nN G.1 G.2.1 hd hi (lv_at hl q hq) (k H locs ls hW hN hS hl)
theorem p_astoreN (G : Gd Γ cc own nL rm sh) {f : Fin 4} {i : Nat} (hi : (f : Nat) = i) {lv2 : List (Nat × Value)} (hd : decode cc pc = .ok (.astore_n f, 1)) (hn : i < nL) (hlv : (i, .null) :: lv.filter (fun q => !(q.1 == i) && !(q.1 + 1 == i && q.2.category == 2)) = lv2) (k : PT Γ nL sh (pc + 1) σ lv2 st) : PT Γ nL sh pc σ lv (.null :: st) := fun H locs ls hW hN hS hl =>
  lv_astore_nN G.1 G.2.1 hd hi hl hn hlv (fun ls' hl' => k H locs ls' hW hN hS hl')
set_option maxHeartbeats 2000000 in
/-- a new match, put into its place in a row -/
theorem p_newAast (G : Gd Γ cc own nL rm sh) (hR : RTN Γ sh sE ret9 σ9 ov9 mc9 ms9) (hM : Mk Γ lc nm0 m0 n0) {idx idx2 idx3 ci N nc mc1 ms1 ck nk j3 k0 kr Nr bs ds : Nat} {tc tk0 tr : Zc} {y : MethodName} {b : ByteArray} {rm1 : Room} {sc s9 : Sh} {σ1 : Mm} {x : Int} {ir ip it : Nat} {f1 f2 f3 f4 : Fin 4} {lvr : Nat → List (Nat × Value)} (l : List Nat) (q0 q1 : Nat)
    (hNW : NW own idx ci N tc) (h0 : sc[0]? = some (10 + ci, N, tc, none)) (hg0 : zg0 sc = true) (h9 : (s9[0]?.map fun q => (q.1, q.2.2.2)) = some (10 + ci, none)) (hci : vwCl[ci]?.map (fun q => q.1) = some RX2)
    (hL : LKI own idx2 y b nc) (hC : ∀ a : Nat → Nat, CTN (gl Γ) y b nc none rm1 sc s9 (gD Γ) (gy Γ) (gk Γ) (gv Γ) a (fun _ _ => 0) [.ref (a 0)] σ1 none mc1 ms1)
    (hd1 : decode cc pc = .ok (.new idx, 3)) (hd2 : decode cc (pc + 3) = .ok (.dup, 1)) (hd3 : decode cc (pc + 3 + 1) = .ok (.invokespecial idx2, 3)) (hd4 : decode cc (pc + 3 + 1 + 3) = .ok (.astore_n f1, 1)) (hd5 : decode cc (pc + 3 + 1 + 3 + 1) = .ok (.aload_n f2, 1)) (hd6 : decode cc (pc + 3 + 1 + 3 + 1 + 1) = .ok (.getfield idx3, 3)) (hd7 : decode cc (pc + 3 + 1 + 3 + 1 + 1 + 3) = .ok (.iload_n f3, 1)) (hd8 : decode cc (pc + 3 + 1 + 3 + 1 + 1 + 3 + 1) = .ok (.aload_n f4, 1)) (hd9 : decode cc (pc + 3 + 1 + 3 + 1 + 1 + 3 + 1 + 1) = .ok (.aastore, 1))
    (hf1 : (f1 : Nat) = ir) (hf2 : (f2 : Nat) = it) (hf3 : (f3 : Nat) = ip) (hf4 : (f4 : Nat) = ir)
    (hrm : rm1.cells = mc1 ∧ rm1.slots = ms1 ∧ rm1.frames + 1 ≤ rm.frames ∧ 8 + (nc + 11) + rm1.locals ≤ rm.locals) (hrc : m0 + (1 + mc1) ≤ rm.cells) (hrs : n0 + (N + ms1) ≤ rm.slots)
    (hFL : FL own idx3 ck j3) (hk : sh[k0]? = some (10 + ck, nk, tk0, none)) (hnk : nk = (vwCl.getD ck ("", TX0, 0)).2.2) (hcode : zt tk0 j3 = 3 + 2 * kr) (hkr : sh[kr]? = some (4, Nr, tr, none)) (htr : ∀ j, zt tr j = 4 + 2 * (bs + ds * j)) (hin : zin x Nr)
    (hK0 : zq l (bs + ds * zix x) = some 0) (hz : zk s9 sh l = true) (hw : zkw s9 = true) (hn : zno sh l kr (zix x) = true)
    (hir : ir < nL) (hlr : ∀ r : Nat, (ir, .ref r) :: lv.filter (fun q => !(q.1 == ir) && !(q.1 + 1 == ir && q.2.category == 2)) = lvr r) (ht : ∀ r, (lvr r)[q0]? = some (it, .ref (ga Γ k0))) (hp : ∀ r, (lvr r)[q1]? = some (ip, .int (zJ x))) (hrr : ∀ r, (lvr r)[0]? = some (ir, .ref r))
    (h : bnd (zu (zj l σ σ1) kr (zix x) 1) kk = some out)
    (hlv : ∀ a : Nat → Nat, (∀ (c : Nat) (q : Zs), sh[c]? = some q → q.2.2.2 = none → a c = ga Γ c) → lvr (a (bs + ds * zix x)) = lv' a)
    (k9 : ∀ Γ' : Cx, Gd Γ' cc own nL rm sh → RTN Γ' sh sE ret9 σ9 ov9 mc9 ms9 → Mk Γ' lc nm0 (m0 + (1 + mc1)) (n0 + (N + ms1)) → ∀ σ', kk σ' = some out → PT Γ' nL sh (pc + 3 + 1 + 3 + 1 + 1 + 3 + 1 + 1 + 1) σ' (lv' (ga Γ')) []) : PT Γ nL sh pc σ lv [] := fun H locs ls hW hN9 hS hl => by
  refine w_newObj G hM hNW h0 hg0 hL hC hd1 hd2 hd3 hrm hrc hrs (by show 0 ≤ 7; omega) hl.1 hS (fun b1 H3 locs3 hW3 hA3 hf3h hS3 => ?_)
  refine lv_astore_n G.1 G.2.1 hd4 hf1 hl hir (hlr (b1 0)) (fun ls3 hl3 => ?_)
  refine lv_aload_n G.1 G.2.1 hd5 hf2 (lv_at hl3 q0 (ht _)) ?_
  -- this.row
  have hcell := hW k0 _ hk trivial
  unfold zC at hcell
  rw [if_neg (by show ¬ (10 + ck < 10); omega)] at hcell
  have e : 10 + ck - 10 = ck := by omega
  simp only [e] at hcell
  have hlt : ga Γ k0 < H.size := by
    obtain ⟨cell, h2, -⟩ := hcell
    exact (Array.getElem?_eq_some_iff.mp h2).1
  obtain ⟨C, T, NN, ty, hc, hinT, hty, hnm, hj, hCC, hlk⟩ := hFL
  have hNn : nk = NN := by rw [hnk, List.getD_eq_getElem?_getD, hc]; rfl
  subst hNn
  obtain ⟨cell, g1, g2, g3, g4⟩ := hcell.kept (hf3h _ hlt)
  obtain ⟨hSl, hfc, kC, hkC, hkind⟩ := G.2.2.2.2.2.1.1 ck _ hc
  obtain ⟨cf, kf, fi, f, hi, hsl⟩ := hSl j3 hj
  have hst := (u_facts hfc hkC (u_lays (ws := GT) G.2.2.2.2.1 hinT hj) hi).1
  have hv : cell.slots[f.slot]? = some (.ref (ga Γ kr)) := by
    rw [hsl]
    refine (g4 j3 hj).trans ?_
    unfold zF
    rw [hcode]
    unfold zV
    rw [if_neg (by omega), if_neg (by omega), if_neg (by omega), if_pos (by omega), show (3 + 2 * kr - 3) / 2 = kr by omega]
  have hkn : cell.vm ≠ .unknown := by rw [g3]; exact fun h => by cases h
  rw [hCC] at hi
  have hrest : W (gp Γ) (gl Γ) (ge Γ) (gR Γ) (gs Γ) (gm Γ) (gargs Γ) (gbelow Γ) (gmeth Γ) (gc Γ) H3 locs3 (gmc Γ + (1 + mc1)) (gms Γ + (N + ms1)) (gQ Γ) (F0 (gm Γ) (pc + 3 + 1 + 3 + 1 + 1 + 3) ls3 [.ref (ga Γ kr)]) := by
    refine lv_iload_n G.1 G.2.1 hd7 hf3 (lv_at hl3 q1 (hp _)) ?_
    refine lv_aload_n G.1 G.2.1 hd8 hf4 (lv_at hl3 0 (hrr _)) ?_
    have hrow := (zC_arr (by decide)).mp (hW kr _ hkr trivial)
    have hltr : ga Γ kr < H.size := (Array.getElem?_eq_some_iff.mp hrow).1
    have hrow3 : H3[ga Γ kr]? = some (arrV (gy Γ 4) Nr (zF (ga Γ) tr (σ kr))) := by rw [hf3h _ hltr]; exact hrow
    have hil : (zJ x).toNatClampNeg < Nr := Nat.not_le.mp fun q => zin_vp hin (Or.inr q)
    obtain ⟨kA, comp, c1, c2, c3, -⟩ := (G.2.2.2.2.2.1.2 4 _ rfl).2
    obtain ⟨kE, hkE, -⟩ := Vm.findClass_spec c3
    -- the new object
    obtain ⟨n1, t0, h90⟩ : ∃ (n1 : Nat) (t0 : Zc), s9[0]? = some (10 + ci, n1, t0, none) := by
      cases hs : s9[0]? with
      | none => rw [hs] at h9; cases h9
      | some q =>
        rw [hs] at h9
        simp only [Option.map_some, Option.some.injEq, Prod.mk.injEq] at h9
        exact ⟨q.2.1, q.2.2.1, by rw [← h9.1, ← h9.2]⟩
    have hnew := hW3 0 _ h90 trivial
    unfold zC at hnew
    rw [if_neg (by show ¬ (10 + ci < 10); omega)] at hnew
    have e2 : 10 + ci - 10 = ci := by omega
    simp only [e2] at hnew
    obtain ⟨cn, m1, m2, m3, m4⟩ := hnew
    have hfcn : (gs Γ).vm.findClass RX2 = some cn.cls := by
      cases hq : vwCl[ci]? with
      | none => rw [hq] at hci; cases hci
      | some q =>
        rw [hq] at hci
        have hC2 : q.1 = RX2 := by simpa using hci
        obtain ⟨-, hfc9, -⟩ := G.2.2.2.2.2.1.1 ci _ hq
        rw [← hC2, m2]
        exact hfc9
    have hce : cn.cls = comp := Option.some.inj (hfcn.symm.trans c3)
    refine W.aast G.1 G.2.1 hrow3 (fun q h => by cases h) (fun h => by cases h) c1 c2 rfl hkE ⟨fun q => zin_vp hin (Or.inl q), by show _ < (arrV _ _ _).slots.size; rw [arrV_size]; exact hil⟩ m1 (fun q h => by rw [m3] at h; cases h) (by rw [hce]; exact hkE) (by rw [hce]; exact va_asg _ _) rfl rfl hd9 fun H2 d1 d2 d3 => ?_
    have hmK : mrg l (ga Γ) b1 (bs + ds * zix x) = b1 0 := mrg_some _ _ hK0
    obtain ⟨a1, a2⟩ := adopt (H0 := H) (H1 := H3) (H2 := H2) hz hw hn hW hN9 G.2.2.2.2.2.2.1 (fun q hq => G.2.2.2.2.2.2.2.1 q (Nat.le_trans hS.1 hq)) hf3h hW3 hA3 (fun q hq => d3 q (hq.elim id (fun z => by rw [hkr] at z; cases z))) (fun q hq => by
      rw [hkr] at hq
      cases hq
      refine ⟨trivial, (zC_arr (by decide)).mpr ?_⟩
      rw [d1, arrV_store]
      refine congrArg some (arrV_congr (fun j2 hj2 => ?_))
      rw [zF_zr]
      unfold updV
      rw [zix_J]
      by_cases hjx : j2 = zix x
      · rw [if_pos hjx, if_pos hjx, htr]
        unfold zV
        rw [if_neg (by omega), if_neg (by omega), if_neg (by omega), if_neg (by omega), if_neg (by decide), show (4 + 2 * (bs + ds * zix x) - 4) / 2 = bs + ds * zix x by omega, hmK]
      · rw [if_neg hjx, if_neg hjx]
        unfold zF
        refine zV_cong (fun m hm => ?_) _
        exact (mrg_none _ b1 (zno_ref hn hkr (zno_k hn) hj2 (fun z => hjx z.2) hm)).symm)
    have he := mrg_free hn (ga Γ) b1
    have el := hlv (mrg l (ga Γ) b1) he
    rw [hmK] at el
    have hAk := G.2.2.2.2.2.2.1.2 kr _ hkr (hN9 kr _ hkr trivial)
    exact k9 (gN Γ (mrg l (ga Γ) b1) (zu (zj l σ σ1) kr (zix x) 1) (gmc Γ + (1 + mc1)) (gms Γ + (N + ms1))) (gd_N G _ _ a2) (rtn_N hR _ _ he) ⟨hM.1, hM.2.1, by show gmc Γ + _ = m0 + _; rw [hM.2.2.1], by show gms Γ + _ = n0 + _; rw [hM.2.2.2]⟩ _ h H2 (locs3 ++ [⟨ga Γ kr, (zJ x).toNatClampNeg⟩]) ls3 a1 (fun _ _ _ hx => hx) ⟨by rw [d2]; exact hS3.1, fun q h1 h2 => by
      rw [d3 q (fun z => h2 (by rw [z]; exact hAk))]
      exact hS3.2.1 q h1 h2, fun q hq => by
      rcases List.mem_append.mp hq with h | h
      · exact hS3.2.2 q h
      · rw [List.mem_singleton.mp h]
        exact hAk⟩ (show lv_has ls3 nL (lv' (mrg l (ga Γ) b1)) by rw [← el]; exact hl3)
  rcases hlk with hlk | ⟨host, hlk⟩
  · exact W.getf G.1 G.2.1 G.2.2.2.1 (G.2.2.2.2.1 _ hlk) hi hst g1 hkn hv rfl rfl hd6 hrest
  · exact va_Wgetf G.1 G.2.1 G.2.2.2.1 (gd_n G hlk) hi hst g1 hkn hv rfl rfl hd6 hrest
end CALN
