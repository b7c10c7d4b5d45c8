/-! Names for the parts of an answer -/
def un2 {α β γ : Type} (e : α × β) (k : α → β → γ) : γ := k e.1 e.2
def un3 {α β γ δ : Type} (e : α × β × γ) (k : α → β → γ → δ) : δ := k e.1 e.2.1 e.2.2
def un4 {α β γ δ ε : Type} (e : α × β × γ × δ) (k : α → β → γ → δ → ε) : ε := k e.1 e.2.1 e.2.2.1 e.2.2.2
def un5 {α β γ δ ε ζ : Type} (e : α × β × γ × δ × ε) (k : α → β → γ → δ → ε → ζ) : ζ := k e.1 e.2.1 e.2.2.1 e.2.2.2.1 e.2.2.2.2
theorem un2_mk {α β γ : Type} (a : α) (b : β) (k : α → β → γ) : un2 (a, b) k = k a b := rfl
theorem un3_mk {α β γ δ : Type} (a : α) (b : β) (c : γ) (k : α → β → γ → δ) : un3 (a, b, c) k = k a b c := rfl
theorem un4_mk {α β γ δ ε : Type} (a : α) (b : β) (c : γ) (d : δ) (k : α → β → γ → δ → ε) : un4 (a, b, c, d) k = k a b c d := rfl
theorem un5_mk {α β γ δ ε ζ : Type} (a : α) (b : β) (c : γ) (d : δ) (e : ε) (k : α → β → γ → δ → ε → ζ) : un5 (a, b, c, d, e) k = k a b c d e := rfl
def zel {α β γ : Type} (x : α ⊕ β) (f : α → γ) (g : β → γ) : γ := match x with
  | .inl a => f a
  | .inr b => g b
theorem zel_l {α β γ : Type} (a : α) (f : α → γ) (g : β → γ) : zel (.inl a : α ⊕ β) f g = f a := rfl
theorem zel_r {α β γ : Type} (b : β) (f : α → γ) (g : β → γ) : zel (.inr b : α ⊕ β) f g = g b := rfl
/-- a call that may throw, and what follows where it doesn't -/
def thr {α β : Type} (r : α ⊕ Nat) (k : α → Option (β ⊕ Nat)) : Option (β ⊕ Nat) := match r with
  | .inl o => k o
  | .inr e => some (.inr e)
theorem bthr {α β : Type} {x : Option (α ⊕ Nat)} {k : α → Option (β ⊕ Nat)} {o : β} (h : (x.bind fun r => thr r k) = some (.inl o)) : ∃ v, x = some (.inl v) ∧ k v = some (.inl o) := by
  obtain ⟨r, h1, h2⟩ := bnd_some h
  cases r with
  | inl v => exact ⟨v, h1, h2⟩
  | inr e => cases h2
theorem bthr_x {α β : Type} {x : Option (α ⊕ Nat)} {k : α → Option (β ⊕ Nat)} {e : Nat} (h : (x.bind fun r => thr r k) = some (.inr e)) : x = some (.inr e) ∨ ∃ v, x = some (.inl v) ∧ k v = some (.inr e) := by
  obtain ⟨r, h1, h2⟩ := bnd_some h
  cases r with
  | inl v => exact Or.inr ⟨v, h1, h2⟩
  | inr e2 => cases h2; exact Or.inl h1
theorem zite {β : Type} {c P : Prop} [Decidable c] {A B : Option β} {out : β} (h : (if c then A else B) = some out) (k1 : c → A = some out → P) (k2 : ¬ c → B = some out → P) : P := by
  by_cases hc : c
  · rw [if_pos hc] at h; exact k1 hc h
  · rw [if_neg hc] at h; exact k2 hc h
theorem zift {β : Type} {c P : Prop} [Decidable c] {A : Option β} {out : β} (h : (if c then A else none) = some out) (k1 : c → A = some out → P) : P := by
  by_cases hc : c
  · rw [if_pos hc] at h; exact k1 hc h
  · rw [if_neg hc] at h; cases h
/-- a part of a memory, by places -/
abbrev zb (l : List Nat) (σ : Mm) : Mm := fun i => σ (zp l i)
/-- n places of the cell k0 copied to the cell k1 -/
def zcp (σ : Mm) (k0 k1 n : Nat) : Mm := fun c => if c = k1 then (fun j => if j < n then σ k0 j else σ k1 j) else σ c
theorem gt_ws {ws : List Cond} (ps : List Nat) (hp : ws = ps.filterMap (fun i => lw_tbl[i]?)) (h : ws.all goodWord = true) : ∀ w ∈ ws, w ∈ GT := fun w hw => by
  have h1 := List.all_eq_true.mp h w hw
  rw [hp] at hw
  obtain ⟨i, -, hi⟩ := List.mem_filterMap.mp hw
  exact gt_mem i hi h1
theorem gn_ws {ws : List Cond} (ps : List Nat) (hp : ws = ps.filterMap (fun i => lw_tbl[i]?)) (h : ws.all (fun w => goodWord w || isN w) = true) : ∀ w ∈ ws, w ∈ GT ∨ w ∈ NT := fun w hw => by
  have h1 := List.all_eq_true.mp h w hw
  rw [hp] at hw
  obtain ⟨i, -, hi⟩ := List.mem_filterMap.mp hw
  rcases Bool.or_eq_true _ _ |>.mp h1 with h2 | h2
  · exact Or.inl (gt_mem i hi h2)
  · exact Or.inr (nt_mem i hi h2)
def zmin (x y : Int) : Int := if zw y < zw x then y else x
def zmax (x y : Int) : Int := if zw x < zw y then y else x
def zabs (x : Int) : Int := if 0 ≤ zw x then x else 0 - x
section MRE
variable {Γ : Cx} {cc : ByteArray} {own : String} {nL : Nat} {rm : Room} {sh : Sh} {pc : Nat} {σ : Mm} {lv : List (Nat × Value)} {st : List Value}
theorem rt_cs {ret : Option FieldType} {σ1 : Mm} {ov : Option Value} (hR : RT Γ sh ret σ1 ov) : gmc Γ ≤ (gR Γ).cells ∧ gms Γ ≤ (gR Γ).slots := ⟨by rw [hR.2.1]; exact Nat.zero_le _, by rw [hR.2.2.1]; exact Nat.zero_le _⟩
theorem p_lv {lv' : List (Nat × Value)} (ks : List Nat) (hp : lv_pick lv ks = lv') (k : PT Γ nL sh pc σ lv' st) : PT Γ nL sh pc σ lv st := fun H locs ls hW hN hS hl => k H locs ls hW hN hS (lv_sub hl ks hp)
theorem p_nm {β : Type} {x : Mm} {kk : Mm → Option β} {out : β} (h : bnd x kk = some out) (k : ∀ σ, kk σ = some out → PT Γ nL sh pc σ lv st) : PT Γ nL sh pc x lv st := k x h
theorem p_ldcS (G : Gd Γ cc own nL rm sh) {idx u : Nat} (i : Nat) (hi : i < zsM) (ho : zsOwn.getD i "" = own) (hu : zsU.getD i 0 = u) (hd : decode cc pc = .ok (.ldc idx, 2)) (hx : zsIdx.getD i 0 = idx) (k : PT Γ nL sh (pc + 2) σ lv (.ref (gk Γ u) :: st)) : PT Γ nL sh pc σ lv st := fun H locs ls hW hN hS hl => by
  have h := G.2.2.2.2.2.2.2.2.2.2.2.1 i hi
  rw [ho, hx, hu] at h
  exact va_ldcS G.1 G.2.1 G.2.2.2.1 h hd (k H locs ls hW hN hS hl)
theorem p_tin (G : Gd Γ cc own nL rm sh) {x v df lo hi off : Int} {offs : Array Int} {len tgt : Nat} (hd : decode cc pc = .ok (.tableswitch df lo hi offs, len)) (hx : zw x = v) (h1 : lo ≤ v) (h2 : v ≤ hi) (ho : offs[(v - lo).toNat]? = some off) (ht : (pc : Int) + off = (tgt : Int)) (k : PT Γ nL sh tgt σ lv st) : PT Γ nL sh pc σ lv (.int (zJ x) :: st) := fun H locs ls hW hN hS hl => by
  have e : (zJ x).toInt = v := hx
  exact lv_tableIn G.1 G.2.1 hd (by omega) (by omega) (by rw [e]; exact ho) ht (k H locs ls hW hN hS hl)
theorem p_tout (G : Gd Γ cc own nL rm sh) {x df lo hi : Int} {offs : Array Int} {len tgt : Nat} (hd : decode cc pc = .ok (.tableswitch df lo hi offs, len)) (hx : zw x < lo ∨ hi < zw x) (ht : (pc : Int) + df = (tgt : Int)) (k : PT Γ nL sh tgt σ lv st) : PT Γ nL sh pc σ lv (.int (zJ x) :: st) := fun H locs ls hW hN hS hl => lv_tableOut G.1 G.2.1 hd hx ht (k H locs ls hW hN hS hl)
theorem p_lsw (G : Gd Γ cc own nL rm sh) {x df off : Int} {ps : Array (Int × Int)} {len tgt : Nat} (hd : decode cc pc = .ok (.lookupswitch df ps, len)) (hp : (ps.toList.zip (ps.toList.drop 1)).all (fun (a, next) => a.1 < next.1) = true) (ho : Op.lookupswitch.offset ps.toList df (zw x) = off) (ht : (pc : Int) + off = (tgt : Int)) (k : PT Γ nL sh tgt σ lv st) : PT Γ nL sh pc σ lv (.int (zJ x) :: st) := fun H locs ls hW hN hS hl => lv_lookup G.1 G.2.1 hd hp ho ht (k H locs ls hW hN hS hl)

theorem p_zmin (G : Gd Γ cc own nL rm sh) {idx : Nat} {x y : Int} (w1 : Cond.methodLink own idx Lib.Math.min.name ∈ GT) (w2 : Cond.static Lib.Math.min.name ∈ GT) (w3 : Cond.initialized "java/lang/Math" ∈ GT) (w4 : Cond.code Lib.Math.min.name Lib.Math.min.code 2 (some .int) ∈ GT) (hf : 1 ≤ rm.frames) (hlo : 8 + 13 ≤ rm.locals) (hcs : gmc Γ ≤ (gR Γ).cells ∧ gms Γ ≤ (gR Γ).slots) (hd : decode cc pc = .ok (.invokestatic idx, 3)) (k : PT Γ nL sh (pc + 3) σ lv (.int (zJ (zmin x y)) :: st)) (h8 : (st.map fun v => v.category).sum ≤ 8 := by exact Nat.le_of_ble_eq_true rfl) : PT Γ nL sh pc σ lv (.int (zJ y) :: .int (zJ x) :: st) := fun H locs ls hW hN hS hl => by
  have hR := G.2.2.2.2.2.2.2.2.1
  have k := k H locs ls hW hN hS hl
  have e : zJ (zmin x y) = if zJ y < zJ x then zJ y else zJ x := by
    unfold zmin
    by_cases c : zw y < zw x
    · rw [if_pos c, if_pos ((zJ_lt y x).mpr c)]
    · rw [if_neg c, if_neg (fun h => c ((zJ_lt y x).mp h))]
  rw [e] at k
  exact va_mmin G.1 G.2.1 (by rw [G.2.2.1, hl.1]) G.2.2.2.1 (G.2.2.2.2.1 _ w1) (G.2.2.2.2.1 _ w2) (G.2.2.2.2.1 _ w3) (G.2.2.2.2.1 _ w4) (by rw [hR]; exact hf) (by rw [hR]; omega) hcs.1 hcs.2 hd k
theorem p_zmax (G : Gd Γ cc own nL rm sh) {idx : Nat} {x y : Int} (w1 : Cond.methodLink own idx Lib.Math.max.name ∈ GT) (w2 : Cond.static Lib.Math.max.name ∈ GT) (w3 : Cond.initialized "java/lang/Math" ∈ GT) (w4 : Cond.code Lib.Math.max.name Lib.Math.max.code 2 (some .int) ∈ GT) (hf : 1 ≤ rm.frames) (hlo : 8 + 13 ≤ rm.locals) (hcs : gmc Γ ≤ (gR Γ).cells ∧ gms Γ ≤ (gR Γ).slots) (hd : decode cc pc = .ok (.invokestatic idx, 3)) (k : PT Γ nL sh (pc + 3) σ lv (.int (zJ (zmax x y)) :: st)) (h8 : (st.map fun v => v.category).sum ≤ 8 := by exact Nat.le_of_ble_eq_true rfl) : PT Γ nL sh pc σ lv (.int (zJ y) :: .int (zJ x) :: st) := fun H locs ls hW hN hS hl => by
  have hR := G.2.2.2.2.2.2.2.2.1
  have k := k H locs ls hW hN hS hl
  have e : zJ (zmax x y) = if zJ x < zJ y then zJ y else zJ x := by
    unfold zmax
    by_cases c : zw x < zw y
    · rw [if_pos c, if_pos ((zJ_lt x y).mpr c)]
    · rw [if_neg c, if_neg (fun h => c ((zJ_lt x y).mp h))]
  rw [e] at k
  exact va_mmax G.1 G.2.1 (by rw [G.2.2.1, hl.1]) G.2.2.2.1 (G.2.2.2.2.1 _ w1) (G.2.2.2.2.1 _ w2) (G.2.2.2.2.1 _ w3) (G.2.2.2.2.1 _ w4) (by rw [hR]; exact hf) (by rw [hR]; omega) hcs.1 hcs.2 hd k
theorem p_zabs (G : Gd Γ cc own nL rm sh) {idx : Nat} {x : Int} (w1 : Cond.methodLink own idx Lib.Math.abs.name ∈ GT) (w2 : Cond.static Lib.Math.abs.name ∈ GT) (w3 : Cond.initialized "java/lang/Math" ∈ GT) (w4 : Cond.code Lib.Math.abs.name Lib.Math.abs.code 1 (some .int) ∈ GT) (hf : 1 ≤ rm.frames) (hlo : 8 + 13 ≤ rm.locals) (hcs : gmc Γ ≤ (gR Γ).cells ∧ gms Γ ≤ (gR Γ).slots) (hd : decode cc pc = .ok (.invokestatic idx, 3)) (k : PT Γ nL sh (pc + 3) σ lv (.int (zJ (zabs x)) :: st)) (h8 : (st.map fun v => v.category).sum ≤ 8 := by exact Nat.le_of_ble_eq_true rfl) : PT Γ nL sh pc σ lv (.int (zJ x) :: st) := fun H locs ls hW hN hS hl => by
  have hR := G.2.2.2.2.2.2.2.2.1
  have k := k H locs ls hW hN hS hl
  have e : zJ (zabs x) = if 0 ≤ zJ x then zJ x else 0 - zJ x := by
    unfold zabs
    by_cases c : 0 ≤ zw x
    · rw [if_pos c, if_pos ((zJ_ge0 x).mpr c)]
    · rw [if_neg c, if_neg (fun h => c ((zJ_ge0 x).mp h)), ← zJ_sub, zJ_zero]
  rw [e] at k
  exact va_mabs G.1 G.2.1 (by rw [G.2.2.1, hl.1]) G.2.2.2.1 (G.2.2.2.2.1 _ w1) (G.2.2.2.2.1 _ w2) (G.2.2.2.2.1 _ w3) (G.2.2.2.2.1 _ w4) (by rw [hR]; exact hf) (by rw [hR]; omega) hcs.1 hcs.2 hd k
/-- a callee over the same world -/
theorem run_goi (G : Gd Γ cc own nL rm sh) {σ1 : Mm} {ov : Option Value} {H : Heap} {locs : List Loc} {ls : Array Slot} {stk rest : List Value} {argv : Array Value} (hN : NE sh (go Γ) σ) (hS : va_S (gA Γ) (gs Γ).heap H locs) (hl : lv_has ls nL lv)
    (hr : va_Run (gp Γ) (gl Γ) (ge Γ) (gR Γ) (gs Γ) (gm Γ) (gargs Γ) (gbelow Γ) (gmeth Γ) (gc Γ) H locs (gmc Γ) (gms Γ) 0 0 (F0 (gm Γ) pc ls stk) rest (QcW (gD Γ) (gy Γ) sh (ga Γ) σ H.size σ1 ov argv) (aW sh (ga Γ) σ H.size))
    (k : PT Γ nL sh (pc + 3) σ1 lv (ov.toList ++ rest)) : gW Γ H locs pc ls stk := by
  intro T hT X
  obtain ⟨v, st₀, t, T', L, h0, X', hL, e1, e2, ⟨hv, hW1, hN1, hz1, hF⟩, stp⟩ := hr T hT X
  cases hv
  rw [h0] at hz1 hF
  rw [← e1] at hW1 hz1 hF
  have hA : ∀ q, aW sh (ga Γ) σ H.size q → gA Γ q := fun q hq => by
    rcases hq with ⟨k, p, hp, hx, rfl⟩ | hq
    · exact G.2.2.2.2.2.2.1.2 k p hp (hN k p hp hx)
    · exact G.2.2.2.2.2.2.2.1 q (Nat.le_trans hS.1 hq)
  have hS1 : va_S (gA Γ) (gs Γ).heap T'.heap (locs ++ L) := ⟨Nat.le_trans hS.1 hz1, fun q h1 h2 => by
    rw [hF q (Nat.lt_of_lt_of_le h1 hS.1) (fun z => h2 (hA q z))]
    exact hS.2.1 q h1 h2, fun q hq => by
    rcases List.mem_append.mp hq with h | h
    · exact hS.2.2 q h
    · exact hA _ (hL q h)⟩
  obtain ⟨t2, a1, b1⟩ := k T'.heap (locs ++ L) ls hW1 (hN.trans hN1) hS1 hl T' rfl X'
  exact ⟨t2, stp t2 a1, b1⟩
theorem p_callVi (G : Gd Γ cc own nL rm sh) {idx : Nat} {C : String} {y : MethodName} {b : ByteArray} {n : Nat} {ret : Option FieldType} {np : Nat} {rm1 : Room} {k0 ci n0 : Nat} {t0 : Zc} {As stk : List Value} {σ1 : Mm} {ov : Option Value}
    (hd : decode cc pc = .ok (.invokevirtual idx, 3)) (hL : LKV own idx C y b n ret np) (hM : CT (gl Γ) y b n ret rm1 sh (gD Γ) (gy Γ) (gk Γ) (gv Γ) (ga Γ) σ (.ref (ga Γ k0) :: As) σ1 ov) (hstk : stk = As.reverse ++ .ref (ga Γ k0) :: st)
    (hk : sh[k0]? = some (10 + ci, n0, t0, none)) (hC : vwCl[ci]?.map (fun q => q.1) = some C) (hnp : As.length = np) (h8 : (st.map fun v => v.category).sum ≤ 8)
    (hrm : rm1.cells = 0 ∧ rm1.slots = 0 ∧ rm1.frames + 1 ≤ rm.frames ∧ 8 + (n + 11) + rm1.locals ≤ rm.locals) (hcs : gmc Γ ≤ (gR Γ).cells ∧ gms Γ ≤ (gR Γ).slots)
    (k : PT Γ nL sh (pc + 3) σ1 lv (ov.toList ++ st)) : PT Γ nL sh pc σ lv stk := fun H locs ls hW hN hS hl => by
  subst hstk
  obtain ⟨hlk, hin, hse, hini, hcode, hy⟩ := hL
  have S : CallFix (gp Γ) (gm Γ) (gc Γ) cc nL (gs Γ) (gargs Γ) GT own := ⟨G.1, G.2.1, G.2.2.1, G.2.2.2.1, G.2.2.2.2.1⟩
  have hts := G.2.2.2.2.1
  have hR := G.2.2.2.2.2.2.2.2.1
  have hcell := hW k0 _ hk trivial
  have hrecv : ∃ cellB : Cell, H[ga Γ k0]? = some cellB ∧ cellB.vm.isStatics = false ∧ (gs Γ).vm.findClass C = some cellB.cls := by
    unfold zC at hcell
    rw [if_neg (by show ¬ (10 + ci < 10); omega)] at hcell
    have e : 10 + ci - 10 = ci := by omega
    simp only [e] at hcell
    obtain ⟨cell, q1, q2, q3, q4⟩ := hcell
    cases hq : vwCl[ci]? with
    | none => rw [hq] at hC; cases hC
    | some q =>
      rw [hq] at hC
      have hC2 : q.1 = C := by simpa using hC
      obtain ⟨-, hfc, -⟩ := G.2.2.2.2.2.1.1 ci _ hq
      refine ⟨cell, q1, by rw [q3]; rfl, ?_⟩
      rw [← hC2, q2]
      exact hfc
  have hA : ∀ q, aW sh (ga Γ) σ H.size q → gA Γ q := fun q hq => by
    rcases hq with ⟨k, p, hp, hx, rfl⟩ | hq
    · exact G.2.2.2.2.2.2.1.2 k p hp (hN k p hp hx)
    · exact G.2.2.2.2.2.2.2.1 q (Nat.le_trans hS.1 hq)
  have hpv : PreV (gs Γ) H C (ga Γ k0) (PcW (gD Γ) (gy Γ) (gk Γ) (gv Γ) sh (ga Γ) σ H.size (.ref (ga Γ k0) :: As)) As := ⟨pcw_blind, hrecv, fun U hU hw => by
    subst hU
    exact ⟨rfl, rfl, hW, va_K.moved hw.alike G.2.2.2.2.2.1, ⟨fun i j p q hp hq hxp hxq e => G.2.2.2.2.2.2.1.1 i j p q hp hq (hN i p hp hxp) (hN j q hq hxq) e, fun _ _ _ _ => trivial⟩, ((OX.warm hw G.2.2.2.2.2.2.2.2.2.2).kept hS.2.1).narrow hA⟩⟩
  have hroom : rm1.frames + 1 ≤ (gR Γ).frames ∧ 8 + (n + 11) + rm1.locals ≤ (gR Γ).locals := by rw [hR]; exact hrm.2.2
  rcases hlk with hlk | ⟨host, hlk⟩
  · have cw : CallW (gR Γ) (gs Γ) (gargs Γ) own C idx y b n ret (WS y b n ret) rm1 0 0 np := ⟨callB_of np hts (ws_good hcode) rfl hrm.1 hrm.2.1 (by rw [hy.1]; exact hts _ hini) (hts _ hlk) hy.2 hroom, hts _ hin, hts _ hse⟩
    exact run_goi G hN hS hl (va_runV S (hM H.size) cw hpv rfl hnp hl.1 rfl (lv_room h8) hd hcs) k
  · have cw := va_cnB (R := gR Γ) (s := gs Γ) (args := gargs Γ) np hts (ws_good hcode) rfl hrm.1 hrm.2.1 (va_Nw.of rfl (gd_n G hlk)) (by rw [hy.1]; exact hts _ hini) hy.2 hroom
    exact run_goi G hN hS hl (va_runVN S (hM H.size) ⟨cw, hts _ hin, hts _ hse⟩ hpv rfl hnp hl.1 rfl (lv_room h8) hd hcs) k
/-- a callee that changes nothing -/
theorem p_callVr (G : Gd Γ cc own nL rm sh) {idx : Nat} {C : String} {y : MethodName} {b : ByteArray} {n : Nat} {ret : Option FieldType} {np : Nat} {rm1 : Room} {s1 : Sh} (l : List Nat) {k0 ci n0 : Nat} {t0 : Zc} {As stk : List Value} {ov : Option Value}
    (hd : decode cc pc = .ok (.invokevirtual idx, 3)) (hL : LKV own idx C y b n ret np) (hM : CT (gl Γ) y b n ret rm1 s1 (gD Γ) (gy Γ) (gk Γ) (gv Γ) (fun i => ga Γ (zp l i)) (zb l σ) (.ref (ga Γ k0) :: As) (zb l σ) ov) (hstk : stk = As.reverse ++ .ref (ga Γ k0) :: st) (hz : zk s1 sh l = true) (hx : Zx sh l σ)
    (hk : sh[k0]? = some (10 + ci, n0, t0, none)) (hC : vwCl[ci]?.map (fun q => q.1) = some C) (hnp : As.length = np) (h8 : (st.map fun v => v.category).sum ≤ 8)
    (hrm : rm1.cells = 0 ∧ rm1.slots = 0 ∧ rm1.frames + 1 ≤ rm.frames ∧ 8 + (n + 11) + rm1.locals ≤ rm.locals) (hcs : gmc Γ ≤ (gR Γ).cells ∧ gms Γ ≤ (gR Γ).slots)
    (k : PT Γ nL sh (pc + 3) σ lv (ov.toList ++ st)) : PT Γ nL sh pc σ lv stk := by
  refine p_callV G l hd hL hM hstk hz hx hk hC hnp h8 hrm hcs ?_
  rw [zj_self]
  exact k
theorem p_callSr (G : Gd Γ cc own nL rm sh) {idx : Nat} {y : MethodName} {b : ByteArray} {n : Nat} {ret : Option FieldType} {np : Nat} {rm1 : Room} {s1 : Sh} (l : List Nat) {As stk : List Value} {ov : Option Value}
    (hd : decode cc pc = .ok (.invokestatic idx, 3)) (hL : LKS own idx y b n ret np) (hM : CT (gl Γ) y b n ret rm1 s1 (gD Γ) (gy Γ) (gk Γ) (gv Γ) (fun i => ga Γ (zp l i)) (zb l σ) As (zb l σ) ov) (hstk : stk = As.reverse ++ st) (hz : zk s1 sh l = true) (hx : Zx sh l σ)
    (hnp : As.length = np) (h8 : (st.map fun v => v.category).sum ≤ 8)
    (hrm : rm1.cells = 0 ∧ rm1.slots = 0 ∧ rm1.frames + 1 ≤ rm.frames ∧ 8 + (n + 11) + rm1.locals ≤ rm.locals) (hcs : gmc Γ ≤ (gR Γ).cells ∧ gms Γ ≤ (gR Γ).slots)
    (k : PT Γ nL sh (pc + 3) σ lv (ov.toList ++ st)) : PT Γ nL sh pc σ lv stk := by
  refine p_callS G l hd hL hM hstk hz hx hnp h8 hrm hcs ?_
  rw [zj_self]
  exact k
/-- a callee that sees no cell -/
theorem p_callS0 (G : Gd Γ cc own nL rm sh) {idx : Nat} {y : MethodName} {b : ByteArray} {n : Nat} {ret : Option FieldType} {np : Nat} {rm1 : Room} {As stk : List Value} {ov : Option Value}
    (hd : decode cc pc = .ok (.invokestatic idx, 3)) (hL : LKS own idx y b n ret np) (hM : CT (gl Γ) y b n ret rm1 [] (gD Γ) (gy Γ) (gk Γ) (gv Γ) (fun i => ga Γ (zp [] i)) (zb [] σ) As (zb [] σ) ov) (hstk : stk = As.reverse ++ st) (hz : zk [] sh [] = true)
    (hnp : As.length = np) (h8 : (st.map fun v => v.category).sum ≤ 8)
    (hrm : rm1.cells = 0 ∧ rm1.slots = 0 ∧ rm1.frames + 1 ≤ rm.frames ∧ 8 + (n + 11) + rm1.locals ≤ rm.locals) (hcs : gmc Γ ≤ (gR Γ).cells ∧ gms Γ ≤ (gR Γ).slots)
    (k : PT Γ nL sh (pc + 3) σ lv (ov.toList ++ st)) : PT Γ nL sh pc σ lv stk :=
  p_callSr G [] hd hL hM hstk hz (fun i q hi => absurd hi (Nat.not_lt_zero i)) hnp h8 hrm hcs k
theorem p_ldcw (G : Gd Γ cc own nL rm sh) {idx : Nat} {v : Int32} {x : Int} (hc : Jvm.Cond.constant own idx v ∈ GT) (hv : v = zJ x) (hd : decode cc pc = .ok (.ldc_w idx, 3)) (k : PT Γ nL sh (pc + 3) σ lv (.int (zJ x) :: st)) : PT Γ nL sh pc σ lv st := fun H locs ls hW hN hS hl => by
  subst hv
  exact lv_ldcw G.1 G.2.1 G.2.2.2.1 (G.2.2.2.2.1 _ hc) hd (k H locs ls hW hN hS hl)
theorem p_ldiv {β : Type} (G : Gd Γ cc own nL rm sh) {x y : Int64} {A : Option β} {out : β} (hd : decode cc pc = .ok (.ldiv, 1)) (h : (if y = 0 then none else A) = some out) (k : A = some out → PT Γ nL sh (pc + 1) σ lv (.long (x / y) :: st)) : PT Γ nL sh pc σ lv (.long y :: .long x :: st) := by
  by_cases hy : y = 0
  · rw [if_pos hy] at h; cases h
  · rw [if_neg hy] at h
    exact p_ldivK G hy hd (k h)
theorem p_lrem {β : Type} (G : Gd Γ cc own nL rm sh) {x y : Int64} {A : Option β} {out : β} (hd : decode cc pc = .ok (.lrem, 1)) (h : (if y = 0 then none else A) = some out) (k : A = some out → PT Γ nL sh (pc + 1) σ lv (.long (zlrem x y) :: st)) : PT Γ nL sh pc σ lv (.long y :: .long x :: st) := by
  by_cases hy : y = 0
  · rw [if_pos hy] at h; cases h
  · rw [if_neg hy] at h
    exact p_lremK G hy hd (k h)
theorem p_ldcSw (G : Gd Γ cc own nL rm sh) {idx u : Nat} (i : Nat) (hi : i < zsM) (ho : zsOwn.getD i "" = own) (hu : zsU.getD i 0 = u) (hd : decode cc pc = .ok (.ldc_w idx, 3)) (hx : zsIdx.getD i 0 = idx) (k : PT Γ nL sh (pc + 3) σ lv (.ref (gk Γ u) :: st)) : PT Γ nL sh pc σ lv st := fun H locs ls hW hN hS hl => by
  have hZ := G.2.2.2.2.2.2.2.2.2.2.2.1 i hi
  rw [ho, hx, hu] at hZ
  intro T hT X
  obtain ⟨t, a1, b1⟩ := k H locs ls hW hN hS hl T hT X
  refine ⟨t, ?_, b1⟩
  obtain ⟨k9, cf, i9, a9, hk, hcf, hcp, -, hr, hev9⟩ := Cond.stringRef_spec G.2.2.2.1 hZ.1
  cases hZ.2.symm.trans hev9
  obtain ⟨k8, hk8, he⟩ := X.warmed.alike.2.2 _ _ hk
  have hr8 : k8.resolved[idx]? = some (some (.string (gk Γ u))) := by
    rcases X.warmed.entry hk hk8 idx with h | ⟨h, -⟩
    · rw [h]; exact hr
    · rw [hr] at h; cases h
  jvm_step X.here [G.1, G.2.1, hd, Jvm.Op.ldc_w.wp_string (e := ge Γ) (s := T) (f := F0 (gm Γ) pc ls st) X.here.top hk8 (by rw [he]; exact hcf) hcp hr8]
  exact a1
theorem zlk_d {ps : List (Int × Int)} {df x : Int} (ks : List Int) (hk : ps.map (fun q => q.1) = ks) (h : ∀ k ∈ ks, x ≠ k) : Op.lookupswitch.offset ps df x = df := by
  subst hk
  induction ps with
  | nil => rfl
  | cons q r ih =>
    rw [show Op.lookupswitch.offset (q :: r) df x = if q.1 = x then q.2 else Op.lookupswitch.offset r df x from rfl, if_neg (fun e => h q.1 (by simp) e.symm)]
    exact ih (fun k hk => h k (by simp at hk ⊢; exact Or.inr hk))
/-- from lo to hi rows of m ints -/
def zr0 (sh : Sh) (lo hi m : Nat) : Bool := (List.range hi).all (fun i => decide (i < lo) || (match sh[i]? with
  | some q => decide (q.1 = 0) && (decide (q.2.1 = m) && (decide (q.2.2.1 = ([], 0, 0)) && decide (q.2.2.2 = none)))
  | none => false))
theorem zr0_at {sh : Sh} {lo hi m : Nat} (h : zr0 sh lo hi m = true) : ∀ i : Nat, i < hi → lo ≤ i → sh[i]? = some (0, m, ([], 0, 0), none) := by
  intro i h1 h2
  have h3 := List.all_eq_true.mp h i (List.mem_range.mpr h1)
  rcases Bool.or_eq_true _ _ |>.mp h3 with h4 | h4
  · have := of_decide_eq_true h4
    omega
  · cases hs : sh[i]? with
    | none => rw [hs] at h4; cases h4
    | some q =>
      obtain ⟨q1, q2, q3, q4⟩ := q
      rw [hs] at h4
      simp only [Bool.and_eq_true, decide_eq_true_eq] at h4
      obtain ⟨e1, e2, e3, e4⟩ := h4
      subst e1 e2 e3 e4
      rfl
def zqe : Option Zs → Option Zs → Bool
  | some a, some b => decide (a.1 = b.1) && (decide (a.2.1 = b.2.1) && (decide (a.2.2.1 = b.2.2.1) && decide (a.2.2.2 = b.2.2.2)))
  | none, none => true
  | _, _ => false
theorem zqe_eq : ∀ {a b : Option Zs}, zqe a b = true → a = b
  | some (a1, a2, a3, a4), some (b1, b2, b3, b4), h => by
    unfold zqe at h
    simp only [Bool.and_eq_true, decide_eq_true_eq] at h
    obtain ⟨e1, e2, e3, e4⟩ := h
    subst e1 e2 e3 e4
    rfl
  | none, none, _ => rfl
  | some _, none, h => by cases h
  | none, some _, h => by cases h
/-- a name for a row that the memory tells by its number -/
theorem p_ren {x y : Nat} (e : x = y) (f : Nat → List Value) (k : PT Γ nL sh pc σ lv (f y)) : PT Γ nL sh pc σ lv (f x) := by rw [e]; exact k
end MRE
theorem zt_c (c : Nat) : ∀ j : Nat, zt ([], c, 0) j = c := fun j => by
  unfold zt
  simp
section CPY
variable {Γ : Cx} {cc : ByteArray} {own : String} {nL : Nat} {rm : Room} {sh : Sh} {pc : Nat} {σ : Mm} {lv : List (Nat × Value)} {st : List Value}
/-- a whole row of a cell changed -/
theorem HW.setRow {D : va_G} {y : Nat → ClassId} {A : Nat → Prop} {sh : Sh} {a : Nat → Nat} {σ0 σ : Mm} {H H1 : Heap} {k : Nat} {r : Nat → Int} {q : Zs} (h : HW D y sh a σ H) (hN : NE sh σ0 σ) (hA : AP A sh a σ0) (hg : zg sh k = true) (hk : sh[k]? = some q) (hx : zx σ q.2.2.2) (hc : zC D y a q (a k) r H1) (oq : ∀ b : Nat, b ≠ a k → H1[b]? = H[b]?) : HW D y sh a (fun c => if c = k then r else σ c) H1 ∧ NE sh σ0 (fun c => if c = k then r else σ c) := by
  have hxx : ∀ {i : Nat} {p : Zs}, sh[i]? = some p → (zx (fun c => if c = k then r else σ c) p.2.2.2 ↔ zx σ p.2.2.2) := by
    intro i p hp
    have h1 := List.all_eq_true.mp hg p (List.mem_of_getElem? hp)
    unfold zx
    cases hc2 : p.2.2.2 with
    | none => exact Iff.rfl
    | some g =>
      rw [hc2] at h1
      have h2 : g.1 ≠ k := by simpa using h1
      show (if g.1 = k then r else σ g.1) g.2 ≠ 0 ↔ σ g.1 g.2 ≠ 0
      rw [if_neg h2]
  refine ⟨fun i p hp hpx => ?_, fun i p hp hpx => hN i p hp ((hxx hp).mp hpx)⟩
  have hpx2 := (hxx hp).mp hpx
  by_cases e : i = k
  · subst e
    rw [hk] at hp
    cases hp
    show zC D y a q (a i) (if i = i then r else σ i) H1
    rw [if_pos rfl]
    exact hc
  · show zC D y a p (a i) (if i = k then r else σ i) H1
    rw [if_neg e]
    exact zC_kept (h i p hp hpx2) (oq _ (fun z => e (hA.1 i k p q hp hk (hN i p hp hpx2) (hN k q hk hx) z)))
set_option maxHeartbeats 1000000 in
/-- System.arraycopy of n places from the first on -/
theorem p_copy {β : Type} (G : Gd Γ cc own nL rm sh) {idx k0 k1 n n0 n1 kd c : Nat} {t0 t1 : Zc} {kk : Mm → Option β} {out : β} (w1 : Cond.methodLink own idx arraycopyName ∈ GT) (w2 : Cond.native arraycopyName ∈ GT) (w3 : Cond.static arraycopyName ∈ GT) (w4 : Cond.initialized "java/lang/System" ∈ GT) (hk0 : sh[k0]? = some (kd, n0, t0, none)) (hk1 : sh[k1]? = some (kd, n1, t1, none)) (ht0 : ∀ j, zt t0 j = c) (ht1 : ∀ j, zt t1 j = c) (hkd : kd < 2) (hc : c = kd) (h0 : n ≤ n0) (h1 : n ≤ n1) (hg : zg sh k1 = true) (hn : n < 1000) (hr : 1 ≤ rm.frames ∧ 8 + (nativeFrameWords "java/lang/System" "arraycopy" 5 + 11) ≤ rm.locals) (hd : decode cc pc = .ok (.invokestatic idx, 3)) (h : bnd (zcp σ k0 k1 n) kk = some out) (k9 : ∀ σ, kk σ = some out → PT Γ nL sh (pc + 3) σ lv st) (h8 : (st.map fun v => v.category).sum ≤ 8 := by exact Nat.le_of_ble_eq_true rfl) : PT Γ nL sh pc σ lv (.int (zJ (n : Int)) :: .int (zJ 0) :: .ref (ga Γ k1) :: .int (zJ 0) :: .ref (ga Γ k0) :: st) := fun H locs ls hW hN hS hl => by
  have hR := G.2.2.2.2.2.2.2.2.1
  have hA := G.2.2.2.2.2.2.1
  have hc0 := (zC_arr (by omega)).mp (hW k0 _ hk0 trivial)
  have hc1 := (zC_arr (by omega)).mp (hW k1 _ hk1 trivial)
  obtain ⟨ty, hty, hprim⟩ : ∃ ty, (zty (gy Γ))[kd]? = some (gy Γ kd, ty) ∧ refKind ty = false ∧ ∀ v, fits ty (zV (ga Γ) c v) = true := by
    subst hc
    match c, hkd with
    | 0, _ => exact ⟨.int, rfl, rfl, fun v => fits_i _⟩
    | 1, _ => exact ⟨.long, rfl, rfl, fun v => fits_l _⟩
  obtain ⟨hprim, hfit⟩ := hprim
  obtain ⟨-, q0, hq0, cm0, hkk0⟩ := (G.2.2.2.2.2.1.2 kd _ hty).1 n0 (zF (ga Γ) t0 (σ k0))
  obtain ⟨-, q1, hq1, cm1, hkk1⟩ := (G.2.2.2.2.2.1.2 kd _ hty).1 n1 (zF (ga Γ) t1 (σ k1))
  have z0 : ¬ zJ 0 < 0 := by decide
  have zn : (zJ (n : Int)).toInt = (n : Int) := zw_eq (by omega) (by omega)
  have zn0 : ¬ zJ (n : Int) < 0 := by
    intro q
    have := (zJ_lt0 _).mp q
    unfold zw at this
    omega
  have znn : (zJ (n : Int)).toNatClampNeg = n := by
    show (zJ (n : Int)).toInt.toNat = n
    omega
  have zz : (zJ 0).toNatClampNeg = 0 := by decide
  intro T hT X
  obtain ⟨vm', X', step⟩ := X.arraycopy G.1 G.2.2.2.1 (G.2.2.2.2.1 _ w1) (G.2.2.2.2.1 _ w2) (G.2.2.2.2.1 _ w3) (G.2.2.2.2.1 _ w4) (src := ga Γ k0) (dst := ga Γ k1) (cs := arrV (gy Γ kd) n0 (zF (ga Γ) t0 (σ k0))) (cd := arrV (gy Γ kd) n1 (zF (ga Γ) t1 (σ k1))) (srcPos := zJ 0) (destPos := zJ 0) (n := zJ (n : Int)) (by rw [hT]; exact hc0) (by rw [hT]; exact hc1)
    (fun _ h => by cases h) (fun _ h => by cases h) (fun h => by cases h) (fun h => by cases h) hq0 hq1 hkk0 hkk1 (by simp [hprim]) z0 z0 zn0
    (by rw [zn, arrV_size]; show ¬ (0 : Int) + n > n0; omega)
    (by rw [zn, arrV_size]; show ¬ (0 : Int) + n > n1; omega)
    (fun vm₁ _ i hi => by
      rw [znn] at hi
      have e : (arrV (gy Γ kd) n0 (zF (ga Γ) t0 (σ k0))).slots.getD ((zJ 0).toNatClampNeg + i) .null = zV (ga Γ) c (σ k0 i) := by
        rw [zz, Nat.zero_add, Array.getD_eq_getD_getElem?, arrV_read _ _ (by omega)]
        show zF (ga Γ) t0 (σ k0) i = _
        unfold zF
        rw [ht0]
      refine ⟨?_, ?_⟩
      · rw [e]
        exact hfit _
      · rw [e]
        subst hc
        match c, hkd with
        | 0, _ => exact trivial
        | 1, _ => exact trivial)
    (g := F0 (gm Γ) pc ls (.int (zJ (n : Int)) :: .int (zJ 0) :: .ref (ga Γ k1) :: .int (zJ 0) :: .ref (ga Γ k0) :: st)) rfl (by rw [G.2.2.1]; exact hl.1) (rest := st) rfl (by rw [G.2.1]; exact hd) (by rw [hR]; exact hr.1) (by rw [hR]; show 2 * 0 + _ + _ ≤ _; have := hr.2; omega)
  have e1 : copied (arrV (gy Γ kd) n0 (zF (ga Γ) t0 (σ k0))) (arrV (gy Γ kd) n1 (zF (ga Γ) t1 (σ k1))) (zJ 0) (zJ 0) (zJ (n : Int)) = arrV (gy Γ kd) n1 (zF (ga Γ) t1 (fun j => if j < n then σ k0 j else σ k1 j)) := by
    have e2 := va_copied (fun z : Value => z) (gy Γ kd) (gy Γ kd) (n0 := n0) (n1 := n1) (sp := 0) (dp := 0) (n := n) (zF (ga Γ) t0 (σ k0)) (zF (ga Γ) t1 (σ k1)) (by omega)
    have e3 : copied (arrV (gy Γ kd) n0 (zF (ga Γ) t0 (σ k0))) (arrV (gy Γ kd) n1 (zF (ga Γ) t1 (σ k1))) (zJ 0) (zJ 0) (zJ (n : Int)) = (arrV (gy Γ kd) n1 (zF (ga Γ) t1 (σ k1))).storeRun 0 ((arrV (gy Γ kd) n0 (zF (ga Γ) t0 (σ k0))).stretch 0 n) := by
      unfold copied
      rw [znn, zz]
    rw [e3]
    refine e2.trans (arrV_congr fun j _ => ?_)
    show va_cpy _ _ 0 0 n j = _
    unfold va_cpy zF
    rw [ht0, ht1]
    by_cases hj : j < n
    · rw [if_pos ⟨Nat.zero_le _, by omega⟩]
      simp only [hj, if_true, Nat.zero_add, Nat.sub_zero]
    · rw [if_neg (fun q => hj (by omega))]
      simp only [hj, if_false]
  rw [e1] at X' step
  have hlt : ga Γ k1 < H.size := (Array.getElem?_eq_some_iff.mp hc1).1
  have hheap : ((T.setVm vm').setCell (ga Γ k1) (arrV (gy Γ kd) n1 (zF (ga Γ) t1 (fun j => if j < n then σ k0 j else σ k1 j)))).heap = H.setIfInBounds (ga Γ k1) (arrV (gy Γ kd) n1 (zF (ga Γ) t1 (fun j => if j < n then σ k0 j else σ k1 j))) := by rw [← hT]; rfl
  have oq : ∀ q : Nat, q ≠ ga Γ k1 → (H.setIfInBounds (ga Γ k1) (arrV (gy Γ kd) n1 (zF (ga Γ) t1 (fun j => if j < n then σ k0 j else σ k1 j))))[q]? = H[q]? := fun q hq => by simp [Array.getElem?_setIfInBounds, Ne.symm hq]
  have hAk := hA.2 k1 _ hk1 (hN k1 _ hk1 trivial)
  obtain ⟨g1, g2⟩ := hW.setRow (r := fun j => if j < n then σ k0 j else σ k1 j) hN hA hg hk1 trivial ((zC_arr (by omega)).mpr (show (H.setIfInBounds (ga Γ k1) (arrV (gy Γ kd) n1 (zF (ga Γ) t1 (fun j => if j < n then σ k0 j else σ k1 j))))[ga Γ k1]? = some _ by simp [Array.getElem?_setIfInBounds, hlt])) oq
  obtain ⟨t, a1, b1⟩ := k9 (zcp σ k0 k1 n) h _ _ ls g1 g2 ⟨by simp; exact hS.1, fun q x1 x2 => by
      rw [oq q (fun e => x2 (by rw [e]; exact hAk))]
      exact hS.2.1 q x1 x2, fun q hq => by
      rcases List.mem_append.mp hq with h | h
      · exact hS.2.2 q h
      · obtain ⟨z, -, hz⟩ := List.mem_map.mp h
        rw [← hz]
        exact hAk⟩ hl _ hheap X'
  exact ⟨t, step t a1, b1⟩
end CPY
