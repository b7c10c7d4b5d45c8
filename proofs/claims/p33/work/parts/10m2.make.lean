/-! Objects made by their constructors -/
def LKI (own : String) (idx : Nat) (y : MethodName) (b : ByteArray) (n : Nat) : Prop :=
  (Cond.methodLink own idx y ∈ GT ∨ ∃ host : String, Cond.methodLinkNest own idx y host ∈ NT) ∧ y.name = "<init>" ∧ Cond.instanceMethod y ∈ GT ∧ Cond.initialized y.cls ∈ GT ∧ Cond.code y b n none ∈ GT ∧ (y.cls ≠ "java/lang/invoke/MethodHandle" ∧ y.cls ≠ "java/lang/invoke/VarHandle" ∧ (parseMethodDescriptor y.desc).map (fun d => d.parameters.length) = some 0)
/-- the class of a new object: its word, its fields, what they are at first -/
def NW (own : String) (idx ci N : Nat) (t : Zc) : Prop := ∃ (C : String) (T : u_T) (ty : Nat → FieldType), vwCl[ci]? = some (C, T, N) ∧ (∀ w ∈ u_ws C T N, w ∈ GT) ∧ (∀ k, k < N → parseFieldDescriptor (T k).2.2.1 = some (ty k)) ∧ Cond.classLink own idx C ∈ GT ∧ Cond.instantiable C N ∈ GT ∧ Cond.initialized C ∈ GT ∧ ∀ j, j < N → ∀ a : Nat → Nat, defaultValue (ty j) = zV a (zt t j) 0
def zg0 (s : Sh) : Bool := (List.range s.length).all (fun i => decide (i = 0) || (match s[i]? with
  | some q => q.2.2.2.isSome
  | none => true))
theorem zg0_at {s : Sh} (h : zg0 s = true) {i : Nat} {q : Zs} (hq : s[i]? = some q) (hx : zx (fun _ _ => 0) q.2.2.2) : i = 0 := by
  have h1 := List.all_eq_true.mp h i (List.mem_range.mpr (List.getElem?_eq_some_iff.mp hq).1)
  simp only [hq] at h1
  rcases Bool.or_eq_true _ _ |>.mp h1 with h2 | h2
  · exact of_decide_eq_true h2
  · cases hg : q.2.2.2 with
    | none => rw [hg] at h2; cases h2
    | some g => rw [hg] at hx; exact absurd rfl hx
section NEWO
variable {Γ : Cx} {cc : ByteArray} {own : String} {nL : Nat} {rm : Room} {sh : Sh} {pc : Nat} {σ : Mm} {lv : List (Nat × Value)} {st : List Value}
set_option maxHeartbeats 2000000 in
theorem w_newObj (G : Gd Γ cc own nL rm sh) {lc : Lc} {nm : String} {m n : Nat} (hM : Mk Γ lc nm m n) {idx idx2 ci N nc mc1 ms1 : Nat} {tc : Zc} {y : MethodName} {b : ByteArray} {rm1 : Room} {s0 s9 : Sh} {σ1 : Mm} (hNW : NW own idx ci N tc) (h0 : s0[0]? = some (10 + ci, N, tc, none)) (hg0 : zg0 s0 = true)
    (hL : LKI own idx2 y b nc) (hC : ∀ a : Nat → Nat, CTN (gl Γ) y b nc none rm1 s0 s9 (gD Γ) (gy Γ) (gk Γ) (gv Γ) a (fun _ _ => 0) [.ref (a 0)] σ1 none mc1 ms1)
    (hd1 : decode cc pc = .ok (.new idx, 3)) (hd2 : decode cc (pc + 3) = .ok (.dup, 1)) (hd3 : decode cc (pc + 3 + 1) = .ok (.invokespecial idx2, 3))
    (hrm : rm1.cells = mc1 ∧ rm1.slots = ms1 ∧ rm1.frames + 1 ≤ rm.frames ∧ 8 + (nc + 11) + rm1.locals ≤ rm.locals) (hrc : m + (1 + mc1) ≤ rm.cells) (hrs : n + (N + ms1) ≤ rm.slots) (h8 : (st.map fun v => v.category).sum ≤ 7)
    {H : Heap} {locs : List Loc} {ls : Array Slot} (hls : ls.size = nL) (hS : va_S (gA Γ) (gs Γ).heap H locs)
    (kk : ∀ (b1 : Nat → Nat) (H3 : Heap) (locs3 : List Loc), HW (gD Γ) (gy Γ) s9 b1 σ1 H3 → AP (fun q => H.size ≤ q) s9 b1 σ1 → (∀ q : Nat, q < H.size → H3[q]? = H[q]?) → va_S (gA Γ) (gs Γ).heap H3 locs3 → W (gp Γ) (gl Γ) (ge Γ) (gR Γ) (gs Γ) (gm Γ) (gargs Γ) (gbelow Γ) (gmeth Γ) (gc Γ) H3 locs3 (gmc Γ + (1 + mc1)) (gms Γ + (N + ms1)) (gQ Γ) (F0 (gm Γ) (pc + 3 + 1 + 3) ls (.ref (b1 0) :: st))) : gW Γ H locs pc ls st := by
  obtain ⟨C, T, ty, hc, hin, hty, hcl, hins, hini, hdef⟩ := hNW
  obtain ⟨hlk, hy1, hinst, hini2, hcode, hy⟩ := hL
  have hts := G.2.2.2.2.1
  have hR := G.2.2.2.2.2.2.2.2.1
  have hKn := G.2.2.2.2.2.1.1 ci _ hc
  have hR1 : gmc Γ + (1 + mc1) ≤ (gR Γ).cells := by rw [hM.2.2.1, hR]; exact hrc
  have hR2 : gms Γ + (N + ms1) ≤ (gR Γ).slots := by rw [hM.2.2.2, hR]; exact hrs
  refine W.newcK G.1 G.2.1 G.2.2.2.1 (hts _ hcl) (hts _ hins) (hts _ hini) rfl hd1 (by omega) (by omega) hKn.2.1 rfl fun H1 kC hkC e1 z1 o1 => ?_
  refine lv_dup G.1 G.2.1 hd2 rfl ?_
  have hob := u_born ty hts hin hKn hkC e1 hty
  have hW0 : HW (gD Γ) (gy Γ) s0 (fun _ => H.size) (fun _ _ => 0) H1 := by
    intro i q hq hx
    have hi := zg0_at hg0 hq hx
    subst hi
    rw [h0] at hq
    cases hq
    unfold zC
    rw [if_neg (by show ¬ (10 + ci < 10); omega)]
    have e : 10 + ci - 10 = ci := by omega
    simp only [e]
    exact hob.to (fun j hj => hdef j hj _)
  have hA0 : AP (fun _ => True) s0 (fun _ => H.size) (fun _ _ => 0) := ⟨fun i j p q hp hq hxp hxq _ => (zg0_at hg0 hp hxp).trans (zg0_at hg0 hq hxq).symm, fun _ _ _ _ => trivial⟩
  have haW : ∀ q, aW s0 (fun _ => H.size) (fun _ _ => 0) H1.size q → H.size ≤ q := fun q hq => by
    rcases hq with ⟨k, q2, -, -, rfl⟩ | hq
    · exact Nat.le_refl _
    · omega
  have hS1 : va_S (gA Γ) (gs Γ).heap H1 locs := ⟨by have := hS.1; omega, fun q h1 h2 => by rw [o1 q (Nat.lt_of_lt_of_le h1 hS.1)]; exact hS.2.1 q h1 h2, hS.2.2⟩
  have hgA : ∀ q, H.size ≤ q → gA Γ q := fun q hq => G.2.2.2.2.2.2.2.1 q (Nat.le_trans hS.1 hq)
  have S : CallFix (gp Γ) (gm Γ) (gc Γ) cc nL (gs Γ) (gargs Γ) GT own := ⟨G.1, G.2.1, G.2.2.1, G.2.2.2.1, hts⟩
  have hpv : PreS (gs Γ) H1 (PcW (gD Γ) (gy Γ) (gk Γ) (gv Γ) s0 (fun _ => H.size) (fun _ _ => 0) H1.size [.ref H.size]) (.ref H.size :: []) := ⟨pcw_blind, fun U hU hw => by
    subst hU
    exact ⟨rfl, rfl, hW0, va_K.moved hw.alike G.2.2.2.2.2.1, hA0, ((OX.warm hw G.2.2.2.2.2.2.2.2.2.2).kept hS1.2.1).narrow (fun q hq => hgA q (haW q hq))⟩⟩
  have hroom : rm1.frames + 1 ≤ (gR Γ).frames ∧ 8 + (nc + 11) + rm1.locals ≤ (gR Γ).locals := by rw [hR]; exact hrm.2.2
  have hsum : ((Value.ref H.size :: st).map fun v => v.category).sum ≤ 8 := by
    rw [List.map_cons, List.sum_cons]
    show 1 + _ ≤ 8
    omega
  have hrun : va_Run (gp Γ) (gl Γ) (ge Γ) (gR Γ) (gs Γ) (gm Γ) (gargs Γ) (gbelow Γ) (gmeth Γ) (gc Γ) H1 locs (gmc Γ + 1) (gms Γ + N) mc1 ms1 (F0 (gm Γ) (pc + 3 + 1) ls (.ref H.size :: .ref H.size :: st)) (.ref H.size :: st) (QcN (gD Γ) (gy Γ) s0 s9 (fun _ => H.size) (fun _ _ => 0) H1.size σ1 none (Value.ref H.size :: []).toArray) (aW s0 (fun _ => H.size) (fun _ _ => 0) H1.size) := by
    rcases hlk with hlk | ⟨host, hlk⟩
    · exact va_runI (As := []) S (hC (fun _ => H.size) H1.size) ⟨callB_of 0 hts (ws_good hcode) rfl hrm.1 hrm.2.1 (hts _ hini2) (hts _ hlk) hy hroom, hy1, hts _ hinst⟩ hpv rfl rfl hls rfl (lv_room hsum) hd3 ⟨by omega, by omega⟩
    · exact va_runIN (As := []) S (hC (fun _ => H.size) H1.size) ⟨va_cnB (R := gR Γ) (s := gs Γ) (args := gargs Γ) 0 hts (ws_good hcode) rfl hrm.1 hrm.2.1 (va_Nw.of rfl (gd_n G hlk)) (hts _ hini2) hy hroom, hy1, hts _ hinst⟩ hpv rfl rfl hls rfl (lv_room hsum) hd3 ⟨by omega, by omega⟩
  intro T hT X
  obtain ⟨v, st₀, t, T', L, g0, X', hL, e2, e3, ⟨hv, a1, ha, hW9, hA9, hz9, hF9⟩, stp⟩ := hrun T hT X
  cases hv
  rw [g0] at hz9 hF9
  rw [← e2] at hW9 hz9 hF9
  have hb0 : a1 0 = H.size := ha 0 _ h0 rfl
  have hf3 : ∀ q : Nat, q < H.size → T'.heap[q]? = H[q]? := fun q hq => by
    rw [hF9 q (by omega) (fun z => by have := haW q z; omega), o1 q hq]
  have hS3 : va_S (gA Γ) (gs Γ).heap T'.heap (locs ++ L) := ⟨Nat.le_trans hS1.1 hz9, fun q h1 h2 => by
    rw [hf3 q (Nat.lt_of_lt_of_le h1 hS.1)]
    exact hS.2.1 q h1 h2, fun q hq => by
    rcases List.mem_append.mp hq with h | h
    · exact hS.2.2 q h
    · exact hgA _ (haW _ (hL q h))⟩
  have k8 := kk a1 T'.heap (locs ++ L) hW9 ⟨hA9.1, fun k q hq hx => haW _ (hA9.2 k q hq hx)⟩ hf3 hS3
  rw [hb0] at k8
  have k7 : W (gp Γ) (gl Γ) (ge Γ) (gR Γ) (gs Γ) (gm Γ) (gargs Γ) (gbelow Γ) (gmeth Γ) (gc Γ) T'.heap (locs ++ L) (gmc Γ + 1 + mc1) (gms Γ + N + ms1) (gQ Γ) (F0 (gm Γ) (pc + 3 + 1 + 3) ls (.ref H.size :: st)) := by
    rw [Nat.add_assoc, Nat.add_assoc]
    exact k8
  obtain ⟨t2, a3, b3⟩ := k7 T' rfl X'
  exact ⟨t2, stp t2 a3, b3⟩
variable {β : Type} {sE : Sh} {ret : Option FieldType} {σ9 : Mm} {ov9 : Option Value} {mc9 ms9 m n : Nat} {lc : Lc} {kk : Mm → Option β} {out : β} {lv' : (Nat → Nat) → List (Nat × Value)} {st' : (Nat → Nat) → List Value}
set_option maxHeartbeats 1000000 in
/-- new, constructor, and the final field it goes to -/
theorem p_newObjPut (G : Gd Γ cc own nL rm sh) (hR : RTN Γ sh sE ret σ9 ov9 mc9 ms9) (hM : Mk Γ lc "<init>" m n) {idx idx2 idx3 ci N nc mc1 ms1 ck nk j k K : Nat} {tc tk0 : Zc} {y : MethodName} {b : ByteArray} {rm1 : Room} {s0 s9 : Sh} {σ1 : Mm} (l : List Nat) (hNW : NW own idx ci N tc) (h0 : s0[0]? = some (10 + ci, N, tc, none)) (hg0 : zg0 s0 = true)
    (hL : LKI own idx2 y b nc) (hC : ∀ a : Nat → Nat, CTN (gl Γ) y b nc none rm1 s0 s9 (gD Γ) (gy Γ) (gk Γ) (gv Γ) a (fun _ _ => 0) [.ref (a 0)] σ1 none mc1 ms1)
    (hd1 : decode cc pc = .ok (.new idx, 3)) (hd2 : decode cc (pc + 3) = .ok (.dup, 1)) (hd3 : decode cc (pc + 3 + 1) = .ok (.invokespecial idx2, 3)) (hd4 : decode cc (pc + 3 + 1 + 3) = .ok (.putfield idx3, 3))
    (hrm : rm1.cells = mc1 ∧ rm1.slots = ms1 ∧ rm1.frames + 1 ≤ rm.frames ∧ 8 + (nc + 11) + rm1.locals ≤ rm.locals) (hrc : m + (1 + mc1) ≤ rm.cells) (hrs : n + (N + ms1) ≤ rm.slots)
    (hFF : FF own idx3 ck j) (hk : sh[k]? = some (10 + ck, nk, tk0, none)) (hnk : nk = (vwCl.getD ck ("", TX0, 0)).2.2) (hcode : zt tk0 j = 4 + 2 * K) (hK0 : zq l K = some 0) (hz : zk s9 sh l = true) (hw : zkw s9 = true) (hn : zno sh l k j = true)
    (h8 : (st.map fun v => v.category).sum ≤ 6)
    (h : bnd (zu (zj l σ σ1) k j 1) kk = some out)
    (hlv : ∀ a : Nat → Nat, (∀ (c : Nat) (q : Zs), sh[c]? = some q → q.2.2.2 = none → a c = ga Γ c) → lv = lv' a ∧ st = st' a)
    (k9 : ∀ Γ' : Cx, Gd Γ' cc own nL rm sh → RTN Γ' sh sE ret σ9 ov9 mc9 ms9 → Mk Γ' lc "<init>" (m + (1 + mc1)) (n + (N + ms1)) → ∀ σ', kk σ' = some out → PT Γ' nL sh (pc + 3 + 1 + 3 + 3) σ' (lv' (ga Γ')) (st' (ga Γ'))) : PT Γ nL sh pc σ lv (.ref (ga Γ k) :: st) := fun H locs ls hW hN9 hS hl => by
  have hcell := hW k _ hk trivial
  unfold zC at hcell
  rw [if_neg (by show ¬ (10 + ck < 10); omega)] at hcell
  have e : 10 + ck - 10 = ck := by omega
  simp only [e] at hcell
  have hlt : ga Γ k < H.size := by
    obtain ⟨cell, h2, -⟩ := hcell
    exact (Array.getElem?_eq_some_iff.mp h2).1
  refine w_newObj G hM hNW h0 hg0 hL hC hd1 hd2 hd3 hrm hrc hrs (by rw [List.map_cons, List.sum_cons]; show 1 + _ ≤ 7; omega) hl.1 hS (fun b1 H3 locs3 hW3 hA3 hf3 hS3 => ?_)
  refine w_fin G hM.2.1 hFF hd4 hnk (hcell.kept (hf3 _ hlt)) (fun H2 slot c1 c2 c3 => ?_)
  have hmK : mrg l (ga Γ) b1 K = b1 0 := mrg_some _ _ hK0
  obtain ⟨g1, g2⟩ := adopt (H0 := H) (H1 := H3) (H2 := H2) hz hw hn hW hN9 G.2.2.2.2.2.2.1 (fun q hq => G.2.2.2.2.2.2.2.1 q (Nat.le_trans hS.1 hq)) hf3 hW3 hA3 (fun q hq => c3 q (hq.elim id (fun z => by rw [hk] at z; cases z))) (fun q hq => by
    rw [hk] at hq
    cases hq
    exact ⟨trivial, fin_own hn hk hcode hmK c1⟩)
  have he := mrg_free hn (ga Γ) b1
  obtain ⟨el, es⟩ := hlv (mrg l (ga Γ) b1) he
  have hAk := G.2.2.2.2.2.2.1.2 k _ hk (hN9 k _ hk trivial)
  have k8 := k9 (gN Γ (mrg l (ga Γ) b1) (zu (zj l σ σ1) k j 1) (gmc Γ + (1 + mc1)) (gms Γ + (N + ms1))) (gd_N G _ _ g2) (rtn_N hR _ _ he) ⟨hM.1, hM.2.1, by show gmc Γ + _ = m + _; rw [hM.2.2.1], by show gms Γ + _ = n + _; rw [hM.2.2.2]⟩ _ h H2 (locs3 ++ [⟨ga Γ k, slot⟩]) ls g1 (fun _ _ _ hx => hx) ⟨by rw [c2]; exact hS3.1, fun q h1 h2 => by
      rw [c3 q (fun z => h2 (by rw [z]; exact hAk))]
      exact hS3.2.1 q h1 h2, fun q hq => by
      rcases List.mem_append.mp hq with h | h
      · exact hS3.2.2 q h
      · rw [List.mem_singleton.mp h]
        exact hAk⟩ (show lv_has ls nL (lv' (mrg l (ga Γ) b1)) by rw [← el]; exact hl)
  have k7 : gW (gN Γ (mrg l (ga Γ) b1) (zu (zj l σ σ1) k j 1) (gmc Γ + (1 + mc1)) (gms Γ + (N + ms1))) H2 (locs3 ++ [⟨ga Γ k, slot⟩]) (pc + 3 + 1 + 3 + 3) ls (st' (mrg l (ga Γ) b1)) := k8
  rw [← es] at k7
  exact k7
/-- Object's own constructor -/
theorem p_objInit (G : Gd Γ cc own nL rm sh) {idx x : Nat} (w1 : Cond.methodLink own idx Lib.objectInit ∈ GT) (w2 : Cond.instanceMethod Lib.objectInit ∈ GT) (w3 : Cond.code Lib.objectInit ⟨#[0xb1]⟩ 1 none ∈ GT) (hd : decode cc pc = .ok (.invokespecial idx, 3)) (hf : 1 ≤ rm.frames) (hlo : 20 ≤ rm.locals) (h8 : (st.map fun v => v.category).sum ≤ 8) (k : PT Γ nL sh (pc + 3) σ lv st) : PT Γ nL sh pc σ lv (.ref x :: st) := fun H locs ls hW hN hS hl =>
  W.objInit G.1 G.2.1 G.2.2.2.1 (G.2.2.2.2.1 _ w1) (G.2.2.2.2.1 _ w2) (G.2.2.2.2.1 _ w3) rfl (by rw [G.2.2.1]; exact hl.1) rfl hd (by rw [G.2.2.2.2.2.2.2.2.1]; exact hf) (by rw [G.2.2.2.2.2.2.2.2.1]; show 2 * 0 + _ + 12 ≤ _; omega) (k H locs ls hW hN hS hl)
end NEWO
