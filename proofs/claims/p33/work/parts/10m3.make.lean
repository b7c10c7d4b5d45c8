/-! Rows of references, rows of rows; a world told by another shape -/
section NEWR
variable {Γ : Cx} {cc : ByteArray} {own : String} {nL : Nat} {rm : Room} {sh : Sh} {pc : Nat} {σ : Mm} {lv : List (Nat × Value)} {st : List Value}
variable {β : Type} {sE : Sh} {ret : Option FieldType} {σ9 : Mm} {ov9 : Option Value} {mc9 ms9 m n : Nat} {lc : Lc} {nm0 : String} {kk : Mm → Option β} {out : β} {lv' : (Nat → Nat) → List (Nat × Value)} {st' : (Nat → Nat) → List Value}
set_option maxHeartbeats 1000000 in
/-- what follows once a world of new cells has been stored in a final field -/
theorem w_take (G : Gd Γ cc own nL rm sh) (hR : RTN Γ sh sE ret σ9 ov9 mc9 ms9) (hM : Mk Γ lc "<init>" m n) {idx3 ck nk j k K mc1 ms1 : Nat} {tk0 : Zc} {s9 : Sh} {σ1 : Mm} (l : List Nat) (hd4 : decode cc pc = .ok (.putfield idx3, 3))
    (hFF : FF own idx3 ck j) (hk : sh[k]? = some (10 + ck, nk, tk0, none)) (hnk : nk = (vwCl.getD ck ("", TX0, 0)).2.2) (hcode : zt tk0 j = 4 + 2 * K) (hK0 : zq l K = some 0) (hz : zk s9 sh l = true) (hw : zkw s9 = true) (hn : zno sh l k j = true)
    (h : bnd (zu (zj l σ σ1) k j 1) kk = some out)
    (hlv : ∀ a : Nat → Nat, (∀ (c : Nat) (q : Zs), sh[c]? = some q → q.2.2.2 = none → a c = ga Γ c) → lv = lv' a ∧ st = st' a)
    (k9 : ∀ Γ' : Cx, Gd Γ' cc own nL rm sh → RTN Γ' sh sE ret σ9 ov9 mc9 ms9 → Mk Γ' lc "<init>" (m + mc1) (n + ms1) → ∀ σ', kk σ' = some out → PT Γ' nL sh (pc + 3) σ' (lv' (ga Γ')) (st' (ga Γ')))
    {H H3 : Heap} {locs locs3 : List Loc} {ls : Array Slot} (hW : HW (gD Γ) (gy Γ) sh (ga Γ) σ H) (hN9 : NE sh (go Γ) σ) (hS : va_S (gA Γ) (gs Γ).heap H locs) (hl : lv_has ls nL lv) {b1 : Nat → Nat} (hW3 : HW (gD Γ) (gy Γ) s9 b1 σ1 H3) (hA3 : AP (fun q => H.size ≤ q) s9 b1 σ1) (hf3 : ∀ q : Nat, q < H.size → H3[q]? = H[q]?) (hS3 : va_S (gA Γ) (gs Γ).heap H3 locs3) : W (gp Γ) (gl Γ) (ge Γ) (gR Γ) (gs Γ) (gm Γ) (gargs Γ) (gbelow Γ) (gmeth Γ) (gc Γ) H3 locs3 (gmc Γ + mc1) (gms Γ + ms1) (gQ Γ) (F0 (gm Γ) pc ls (.ref (b1 0) :: .ref (ga Γ k) :: st)) := by
  have hcell := hW k _ hk trivial
  unfold zC at hcell
  rw [if_neg (by show ¬ (10 + ck < 10); omega)] at hcell
  have e : 10 + ck - 10 = ck := by omega
  simp only [e] at hcell
  have hlt : ga Γ k < H.size := by
    obtain ⟨cell, h2, -⟩ := hcell
    exact (Array.getElem?_eq_some_iff.mp h2).1
  refine w_fin G hM.2.1 hFF hd4 hnk (hcell.kept (hf3 _ hlt)) (fun H2 slot c1 c2 c3 => ?_)
  have hmK : mrg l (ga Γ) b1 K = b1 0 := mrg_some _ _ hK0
  obtain ⟨g1, g2⟩ := adopt (H0 := H) (H1 := H3) (H2 := H2) hz hw hn hW hN9 G.2.2.2.2.2.2.1 (fun q hq => G.2.2.2.2.2.2.2.1 q (Nat.le_trans hS.1 hq)) hf3 hW3 hA3 (fun q hq => c3 q (hq.elim id (fun z => by rw [hk] at z; cases z))) (fun q hq => by
    rw [hk] at hq
    cases hq
    exact ⟨trivial, fin_own hn hk hcode hmK c1⟩)
  have he := mrg_free hn (ga Γ) b1
  obtain ⟨el, es⟩ := hlv (mrg l (ga Γ) b1) he
  have hAk := G.2.2.2.2.2.2.1.2 k _ hk (hN9 k _ hk trivial)
  have k8 := k9 (gN Γ (mrg l (ga Γ) b1) (zu (zj l σ σ1) k j 1) (gmc Γ + mc1) (gms Γ + ms1)) (gd_N G _ _ g2) (rtn_N hR _ _ he) ⟨hM.1, hM.2.1, by show gmc Γ + _ = m + _; rw [hM.2.2.1], by show gms Γ + _ = n + _; rw [hM.2.2.2]⟩ _ h H2 (locs3 ++ [⟨ga Γ k, slot⟩]) ls g1 (fun _ _ _ hx => hx) ⟨by rw [c2]; exact hS3.1, fun q h1 h2 => by
      rw [c3 q (fun z => h2 (by rw [z]; exact hAk))]
      exact hS3.2.1 q h1 h2, fun q hq => by
      rcases List.mem_append.mp hq with h | h
      · exact hS3.2.2 q h
      · rw [List.mem_singleton.mp h]
        exact hAk⟩ (show lv_has ls nL (lv' (mrg l (ga Γ) b1)) by rw [← el]; exact hl)
  have k7 : gW (gN Γ (mrg l (ga Γ) b1) (zu (zj l σ σ1) k j 1) (gmc Γ + mc1) (gms Γ + ms1)) H2 (locs3 ++ [⟨ga Γ k, slot⟩]) (pc + 3) ls (st' (mrg l (ga Γ) b1)) := k8
  rw [← es] at k7
  exact k7
theorem zV_3 (a : Nat → Nat) (m : Nat) (v : Int) : zV a (3 + 2 * m) v = .ref (a m) := by
  unfold zV
  rw [if_neg (by omega), if_neg (by omega), if_neg (by omega), if_pos (by omega), show (3 + 2 * m - 3) / 2 = m by omega]
theorem zw_nat {N : Nat} (hN : N < 2147483648) : (zJ (N : Int)).toNatClampNeg = N ∧ ¬ zJ (N : Int) < 0 := by
  have zn : (zJ (N : Int)).toInt = (N : Int) := zw_eq (by omega) (by omega)
  refine ⟨?_, fun q => ?_⟩
  · show (zJ (N : Int)).toInt.toNat = N
    omega
  · have := (zJ_lt0 _).mp q
    unfold zw at this
    omega
set_option maxHeartbeats 1000000 in
/-- anewarray of matches, and the field it goes to -/
theorem p_newqPut (G : Gd Γ cc own nL rm sh) (hR : RTN Γ sh sE ret σ9 ov9 mc9 ms9) (hM : Mk Γ lc "<init>" m n) {idx idx3 ck nk j k K N : Nat} {tk0 tr : Zc} {s9 : Sh} (l : List Nat) (hcl : Cond.classLink own idx RX2 ∈ GT) (hd1 : decode cc pc = .ok (.anewarray idx, 3)) (hd4 : decode cc (pc + 3) = .ok (.putfield idx3, 3))
    (hFF : FF own idx3 ck j) (hk : sh[k]? = some (10 + ck, nk, tk0, none)) (hnk : nk = (vwCl.getD ck ("", TX0, 0)).2.2) (hcode : zt tk0 j = 4 + 2 * K) (hK0 : zq l K = some 0) (hz : zk s9 sh l = true) (hw : zkw s9 = true) (hn : zno sh l k j = true)
    (h0 : s9[0]? = some (4, N, tr, none)) (hg0 : zg0 s9 = true) (htr : ∀ i, i < N → 4 ≤ zt tr i ∧ zt tr i % 2 = 0) (hN : N < 100000) (hrc : m + 1 ≤ rm.cells) (hrs : n + N ≤ rm.slots)
    (h : bnd (zu (zj l σ (fun _ _ => 0)) k j 1) kk = some out)
    (hlv : ∀ a : Nat → Nat, (∀ (c : Nat) (q : Zs), sh[c]? = some q → q.2.2.2 = none → a c = ga Γ c) → lv = lv' a ∧ st = st' a)
    (k9 : ∀ Γ' : Cx, Gd Γ' cc own nL rm sh → RTN Γ' sh sE ret σ9 ov9 mc9 ms9 → Mk Γ' lc "<init>" (m + 1) (n + N) → ∀ σ', kk σ' = some out → PT Γ' nL sh (pc + 3 + 3) σ' (lv' (ga Γ')) (st' (ga Γ'))) : PT Γ nL sh pc σ lv (.int (zJ (N : Int)) :: .ref (ga Γ k) :: st) := fun H locs ls hW hN9 hS hl => by
  obtain ⟨z1, z2⟩ := zw_nat (N := N) (by omega)
  refine W.anew (C := RX2) G.1 G.2.1 G.2.2.2.1 (G.2.2.2.2.1 _ hcl) (va_AO.use G.2.2.2.2.2.2.2.2.2.2.2.2.2.2.2.2.2.1.1) rfl hd1 rfl z2 (by rw [z1]; omega) (by rw [hM.2.2.1, G.2.2.2.2.2.2.2.2.1]; exact hrc) (by rw [hM.2.2.2, G.2.2.2.2.2.2.2.2.1, z1]; exact hrs) (fun cA kA comp f1 f2 f3 f4 => ?_)
  rw [z1]
  have hcA : cA = gy Γ 4 := by
    obtain ⟨_, _, -, -, -, e4⟩ := (G.2.2.2.2.2.1.2 4 _ rfl).2
    exact Option.some.inj (f1.symm.trans e4)
  subst hcA
  generalize hH1 : H.push ({ cls := gy Γ 4, slots := Array.replicate N .null, vm := .none } : Cell) = H1
  have y1 : H1.size = H.size + 1 := by rw [← hH1, Array.size_push]
  have e1 : H1[H.size]? = some (arrV (gy Γ 4) N (fun _ => .null)) := by rw [← hH1, Array.getElem?_push_size, ← arrV_new]
  have o1 : ∀ q : Nat, q < H.size → H1[q]? = H[q]? := fun q hq => by rw [← hH1, Array.getElem?_push, if_neg (Nat.ne_of_lt hq)]
  have hW1 : HW (gD Γ) (gy Γ) s9 (fun _ => H.size) (fun _ _ => 0) H1 := by
    intro i q hq hx
    have hi := zg0_at hg0 hq hx
    subst hi
    rw [h0] at hq
    cases hq
    refine (zC_arr (by decide)).mpr ?_
    rw [e1]
    refine congrArg some (arrV_congr (fun j2 hj2 => ?_))
    obtain ⟨c1, c2⟩ := htr j2 hj2
    unfold zF zV
    rw [if_neg (by omega), if_neg (by omega), if_neg (by omega), if_neg (by omega), if_pos rfl]
  have hA1 : AP (fun q => H.size ≤ q) s9 (fun _ => H.size) (fun _ _ => 0) := ⟨fun i j2 p q hp hq hxp hxq _ => (zg0_at hg0 hp hxp).trans (zg0_at hg0 hq hxq).symm, fun _ _ _ _ => Nat.le_refl _⟩
  exact w_take G hR hM l hd4 hFF hk hnk hcode hK0 hz hw hn h hlv k9 hW hN9 hS hl hW1 hA1 o1 ⟨by have := hS.1; omega, fun q h1 h2 => by rw [o1 q (Nat.lt_of_lt_of_le h1 hS.1)]; exact hS.2.1 q h1 h2, hS.2.2⟩
/-! Another shape for the same cells -/
def zdr (σ : Mm) (k n lo : Nat) : Mm := fun c => if c = k then (fun j => if j < n then ((lo + j : Nat) : Int) else σ c j) else σ c
/-- references that are set, told as such; what hung on them is there -/
def zcs (s0 s9 : Sh) (fl : List (Nat × Nat)) : Bool := decide (s0.length = s9.length) && (List.range s0.length).all (fun k => match s0[k]?, s9[k]? with
  | some q0, some q9 => decide (q0.1 = q9.1) && (decide (q0.2.1 = q9.2.1) && ((decide (q0.2.2.2 = q9.2.2.2) || (decide (q9.2.2.2 = none) && (match q0.2.2.2 with
    | none => false
    | some g => fl.contains g))) && (decide (q0.2.2.1 = q9.2.2.1) || (List.range q0.2.1).all (fun j => decide (zt q0.2.2.1 j = zt q9.2.2.1 j) || (decide (zt q9.2.2.1 j % 2 = 1) && (decide (3 ≤ zt q9.2.2.1 j) && (decide (zt q0.2.2.1 j = zt q9.2.2.1 j + 1) && fl.contains (k, j))))))))
  | _, _ => false)
theorem conv_W {D : va_G} {y : Nat → ClassId} {A : Nat → Prop} {s0 s9 : Sh} {fl : List (Nat × Nat)} {a : Nat → Nat} {o σ : Mm} {H : Heap} (hc : zcs s0 s9 fl = true) (hf : ∀ g ∈ fl, σ g.1 g.2 ≠ 0) (hW : HW D y s0 a σ H) (hN : NE s0 o σ) (hA : AP A s0 a o) : HW D y s9 a σ H ∧ AP A s9 a σ := by
  have hc1 := Bool.and_eq_true _ _ |>.mp hc
  have hlen := of_decide_eq_true hc1.1
  have key : ∀ (k : Nat) (q9 : Zs), s9[k]? = some q9 → ∃ q0, s0[k]? = some q0 ∧ q0.1 = q9.1 ∧ q0.2.1 = q9.2.1 ∧ (zx σ q9.2.2.2 → zx σ q0.2.2.2) ∧ ∀ j, j < q0.2.1 → zV a (zt q0.2.2.1 j) (σ k j) = zV a (zt q9.2.2.1 j) (σ k j) := by
    intro k q9 hq9
    have hk : k < s0.length := by rw [hlen]; exact (List.getElem?_eq_some_iff.mp hq9).1
    have h1 := List.all_eq_true.mp hc1.2 k (List.mem_range.mpr hk)
    cases hq0 : s0[k]? with
    | none => rw [hq0] at h1; cases h1
    | some q0 =>
      simp only [hq0, hq9, Bool.and_eq_true, decide_eq_true_eq] at h1
      obtain ⟨h2, h3, h4, h5⟩ := h1
      refine ⟨q0, rfl, h2, h3, fun hx => ?_, fun j hj => ?_⟩
      · rcases Bool.or_eq_true _ _ |>.mp h4 with h6 | h6
        · rw [of_decide_eq_true h6]; exact hx
        · obtain ⟨-, h7⟩ := Bool.and_eq_true _ _ |>.mp h6
          cases hg : q0.2.2.2 with
          | none => trivial
          | some g =>
            rw [hg] at h7
            exact hf g (by simpa using h7)
      · rcases Bool.or_eq_true _ _ |>.mp h5 with h6 | h6
        · rw [of_decide_eq_true h6]
        · have h7 := List.all_eq_true.mp h6 j (List.mem_range.mpr hj)
          rcases Bool.or_eq_true _ _ |>.mp h7 with h8 | h8
          · rw [of_decide_eq_true h8]
          · simp only [Bool.and_eq_true, decide_eq_true_eq] at h8
            obtain ⟨h9, h10, h11, h12⟩ := h8
            have h13 : σ k j ≠ 0 := hf (k, j) (by simpa using h12)
            rw [h11]
            unfold zV
            rw [if_neg (by omega), if_neg (by omega), if_neg (by omega), if_neg (by omega), if_neg h13, if_neg (by omega), if_neg (by omega), if_neg (by omega), if_pos h9, show zt q9.2.2.1 j + 1 - 4 = zt q9.2.2.1 j - 3 by omega]
  refine ⟨fun k q9 hq9 hx => ?_, fun i j p q hp hq hxp hxq e => ?_, fun k q9 hq9 hx => ?_⟩
  · obtain ⟨q0, hq0, e1, e2, e3, e4⟩ := key k q9 hq9
    exact (zC_map e1 e2 (fun j hj => e4 j (by rw [e2]; exact hj))).mp (hW k q0 hq0 (e3 hx))
  · obtain ⟨p0, hp0, -, -, e3, -⟩ := key i p hp
    obtain ⟨q0, hq0, -, -, e4, -⟩ := key j q hq
    exact hA.1 i j p0 q0 hp0 hq0 (hN i p0 hp0 (e3 hxp)) (hN j q0 hq0 (e4 hxq)) e
  · obtain ⟨q0, hq0, -, -, e3, -⟩ := key k q9 hq9
    exact hA.2 k q0 hq0 (hN k q0 hq0 (e3 hx))
/-- the shapes differ in the cell k alone: its references, n from lo on, are told by their numbers -/
def zcd (s0 s9 : Sh) (k n lo : Nat) : Bool := (match s0[k]? with
  | some q => decide (q.1 ≠ 6)
  | none => true) && (zg s0 k && (decide (lo + n ≤ 26) && (decide (s0.length = s9.length) && (List.range s0.length).all (fun c => if c = k then (match s0[c]?, s9[c]? with
  | some q0, some q9 => decide (q0.1 = q9.1) && (decide (q0.2.1 = n) && (decide (q9.2.1 = n) && (decide (q0.2.2.2 = q9.2.2.2) && (List.range n).all (fun j => decide (zt q0.2.2.1 j = 3 + 2 * (lo + j)) && decide (zt q9.2.2.1 j = 2)))))
  | _, _ => false) else zqe (s0[c]?) (s9[c]?)))))
theorem conv_D {D : va_G} {y : Nat → ClassId} {A : Nat → Prop} {s0 s9 : Sh} {k n lo : Nat} {a : Nat → Nat} {o σ : Mm} {H : Heap} (hc : zcd s0 s9 k n lo = true) (hW : HW D y s0 a σ H) (hN : NE s0 o σ) (hA : AP A s0 a o) : HW D y s9 a (zdr σ k n lo) H ∧ AP A s9 a (zdr σ k n lo) := by
  unfold zcd at hc
  simp only [Bool.and_eq_true, decide_eq_true_eq] at hc
  obtain ⟨hk6, hg, h26, hlen, hall⟩ := hc
  have hxx : ∀ {c : Nat} {q : Zs}, s0[c]? = some q → (zx (zdr σ k n lo) q.2.2.2 → zx σ q.2.2.2) := by
    intro c q hq hx
    have h1 := List.all_eq_true.mp hg q (List.mem_of_getElem? hq)
    cases hgq : q.2.2.2 with
    | none => trivial
    | some g =>
      rw [hgq] at h1 hx
      have h2 : g.1 ≠ k := by simpa using h1
      have hx2 : zdr σ k n lo g.1 g.2 ≠ 0 := hx
      unfold zdr at hx2
      rw [if_neg h2] at hx2
      exact hx2
  have key : ∀ (c : Nat) (q9 : Zs), s9[c]? = some q9 → ∃ q0, s0[c]? = some q0 ∧ q0.1 = q9.1 ∧ q0.2.1 = q9.2.1 ∧ q0.2.2.2 = q9.2.2.2 ∧ ∀ j, j < q0.2.1 → zV a (zt q0.2.2.1 j) (σ c j) = zV a (zt q9.2.2.1 j) (zdr σ k n lo c j) := by
    intro c q9 hq9
    have hk : c < s0.length := by rw [hlen]; exact (List.getElem?_eq_some_iff.mp hq9).1
    have h1 := List.all_eq_true.mp hall c (List.mem_range.mpr hk)
    by_cases hck : c = k
    · rw [if_pos hck] at h1
      cases hq0 : s0[c]? with
      | none => rw [hq0] at h1; cases h1
      | some q0 =>
        simp only [hq0, hq9, Bool.and_eq_true, decide_eq_true_eq] at h1
        obtain ⟨h2, h3, h4, h5, h6⟩ := h1
        refine ⟨q0, rfl, h2, by rw [h3, h4], h5, fun j hj => ?_⟩
        have h7 := List.all_eq_true.mp h6 j (List.mem_range.mpr (by omega))
        simp only [Bool.and_eq_true, decide_eq_true_eq] at h7
        rw [h7.1, h7.2]
        unfold zV zdr
        rw [if_neg (by omega), if_neg (by omega), if_neg (by omega), if_pos (by omega), if_neg (by decide), if_neg (by decide), if_pos rfl, if_pos hck, if_pos (by omega), show (3 + 2 * (lo + j) - 3) / 2 = lo + j by omega]
        rw [show (((lo + j : Nat) : Int)).toNat % 26 = lo + j from by
          rw [Int.toNat_natCast]
          exact Nat.mod_eq_of_lt (by omega)]
    · rw [if_neg hck] at h1
      have e := zqe_eq h1
      exact ⟨q9, by rw [e]; exact hq9, rfl, rfl, rfl, fun j _ => by unfold zdr; rw [if_neg hck]⟩
  refine ⟨fun c q9 hq9 hx => ?_, fun i j p q hp hq hxp hxq e => ?_, fun c q9 hq9 hx => ?_⟩
  · obtain ⟨q0, hq0, e1, e2, e3, e4⟩ := key c q9 hq9
    have hx0 : zx σ q0.2.2.2 := hxx hq0 (by rw [e3]; exact hx)
    have h1 := hW c q0 hq0 hx0
    unfold zC at h1 ⊢
    rw [← e1]
    by_cases c9 : q0.1 < 10
    · rw [if_pos c9] at h1 ⊢
      rw [h1, ← e2]
      refine congrArg some (arrV_congr (fun j hj => ?_))
      unfold zFk
      by_cases c6 : q0.1 = 6
      · rw [if_pos c6, if_pos c6]
        by_cases hck : c = k
        · exfalso
          subst hck
          have h3 := List.all_eq_true.mp hall c (List.mem_range.mpr (List.getElem?_eq_some_iff.mp hq0).1)
          rw [if_pos rfl] at h3
          simp only [hq0, hq9, Bool.and_eq_true, decide_eq_true_eq] at h3
          rw [hq0] at hk6
          exact absurd c6 (by simpa using hk6)
        · unfold zdr
          rw [if_neg hck]
      · rw [if_neg c6, if_neg c6]
        exact e4 j hj
    · rw [if_neg c9] at h1 ⊢
      rw [← e2]
      exact h1.to (fun j hj => e4 j hj)
  · obtain ⟨p0, hp0, -, -, e3, -⟩ := key i p hp
    obtain ⟨q0, hq0, -, -, e4, -⟩ := key j q hq
    exact hA.1 i j p0 q0 hp0 hq0 (hN i p0 hp0 (hxx hp0 (by rw [e3]; exact hxp))) (hN j q0 hq0 (hxx hq0 (by rw [e4]; exact hxq))) e
  · obtain ⟨q0, hq0, -, -, e3, -⟩ := key c q9 hq9
    exact hA.2 c q0 hq0 (hN c q0 hq0 (hxx hq0 (by rw [e3]; exact hx)))
theorem gN_self (Γ : Cx) : gN Γ (ga Γ) (go Γ) (gmc Γ) (gms Γ) = Γ := rfl
/-- from here on the world is told by s9: all that hung on the slots fl is there -/
theorem p_conv (G : Gd Γ cc own nL rm sh) {s9 sX : Sh} (fl : List (Nat × Nat)) (hR : RTN Γ sh sX ret σ9 ov9 mc9 ms9) (hM : Mk Γ lc nm0 m n) (hc : zcs sh s9 fl = true) (hf : ∀ g ∈ fl, σ g.1 g.2 ≠ 0)
    (k9 : ∀ Γ' : Cx, Gd Γ' cc own nL rm s9 → RTN Γ' sh sX ret σ9 ov9 mc9 ms9 → Mk Γ' lc nm0 m n → ga Γ' = ga Γ → PT Γ' nL s9 pc σ lv st) : PT Γ nL sh pc σ lv st := fun H locs ls hW hN hS hl => by
  obtain ⟨g1, g2⟩ := conv_W hc hf hW hN G.2.2.2.2.2.2.1
  exact k9 (gN Γ (ga Γ) σ (gmc Γ) (gms Γ)) (gd_N G _ _ g2) (rtn_N hR _ _ (fun _ _ _ _ => rfl)) hM rfl H locs ls g1 (fun _ _ _ hx => hx) hS hl
theorem p_convD (G : Gd Γ cc own nL rm sh) {s0 s9 sX : Sh} (kd nd lo : Nat) {kk : Mm → Option β} (hR : RTN Γ s0 sX ret σ9 ov9 mc9 ms9) (hM : Mk Γ lc nm0 m n) (hc : zcd sh s9 kd nd lo = true) (h : bnd (zdr σ kd nd lo) kk = some out)
    (k9 : ∀ Γ' : Cx, Gd Γ' cc own nL rm s9 → RTN Γ' s0 sX ret σ9 ov9 mc9 ms9 → Mk Γ' lc nm0 m n → ga Γ' = ga Γ → ∀ σ', kk σ' = some out → PT Γ' nL s9 pc σ' lv st) : PT Γ nL sh pc σ lv st := fun H locs ls hW hN hS hl => by
  obtain ⟨g1, g2⟩ := conv_D hc hW hN G.2.2.2.2.2.2.1
  exact k9 (gN Γ (ga Γ) (zdr σ kd nd lo) (gmc Γ) (gms Γ)) (gd_N G _ _ g2) (rtn_N hR _ _ (fun _ _ _ _ => rfl)) hM rfl _ h H locs ls g1 (fun _ _ _ hx => hx) hS hl
end NEWR
