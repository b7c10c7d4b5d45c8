/-! Fields -/
/-- the pool entry idx of the class own is the field j of the class ci -/
def FL (own : String) (idx ci j : Nat) : Prop := ∃ (C : String) (T : u_T) (N : Nat) (ty : Nat → FieldType), vwCl[ci]? = some (C, T, N) ∧ (∀ w ∈ u_ws C T N, w ∈ GT) ∧ (∀ k, k < N → parseFieldDescriptor (T k).2.2.1 = some (ty k)) ∧ (∀ a, a < N → ∀ b, b < N → a ≠ b → (T a).2.1 ≠ (T b).2.1) ∧ j < N ∧ (T j).1 = C ∧ (Cond.fieldLink own idx C (T j).2.1 (T j).2.2.1 ∈ GT ∨ ∃ host : String, Cond.fieldLinkNest own idx C (T j).2.1 (T j).2.2.1 host ∈ NT)
/-- and it is no final one, of that type -/
def FP (own : String) (idx ci j : Nat) (t : FieldType) : Prop := ∃ (C : String) (T : u_T) (N : Nat) (ty : Nat → FieldType), vwCl[ci]? = some (C, T, N) ∧ (∀ w ∈ u_ws C T N, w ∈ GT) ∧ (∀ k, k < N → parseFieldDescriptor (T k).2.2.1 = some (ty k)) ∧ (∀ a, a < N → ∀ b, b < N → a ≠ b → (T a).2.1 ≠ (T b).2.1) ∧ j < N ∧ (T j).1 = C ∧ (Cond.fieldLink own idx C (T j).2.1 (T j).2.2.1 ∈ GT ∨ ∃ host : String, Cond.fieldLinkNest own idx C (T j).2.1 (T j).2.2.1 host ∈ NT) ∧ (T j).2.2.2 = false ∧ parseFieldDescriptor (T j).2.2.1 = some t
theorem zC_arr {D : va_G} {y : Nat → ClassId} {a : Nat → Nat} {kd n : Nat} {t : Zc} {g : Option (Nat × Nat)} {b : Nat} {r : Nat → Int} {H : Heap} (h : kd < 10) (h6 : kd ≠ 6 := by first | decide | omega) : zC D y a (kd, n, t, g) b r H ↔ H[b]? = some (arrV (y kd) n (zF a t r)) := by
  unfold zC
  show (if kd < 10 then H[b]? = some (arrV (y kd) n (zFk kd a t r)) else _) ↔ _
  rw [if_pos h]
  unfold zFk
  rw [if_neg h6]
section MEM
variable {Γ : Cx} {cc : ByteArray} {own : String} {nL : Nat} {rm : Room} {sh : Sh} {pc : Nat} {σ : Mm} {lv : List (Nat × Value)} {st : List Value}
theorem p_get (G : Gd Γ cc own nL rm sh) {idx ci j k n : Nat} {t : Zc} (hd : decode cc pc = .ok (.getfield idx, 3)) (hL : FL own idx ci j) (hk : sh[k]? = some (10 + ci, n, t, none)) (hn : n = (vwCl.getD ci ("", TX0, 0)).2.2) (kk : PT Γ nL sh (pc + 3) σ lv (zV (ga Γ) (zt t j) (σ k j) :: st)) : PT Γ nL sh pc σ lv (.ref (ga Γ k) :: st) := fun H locs ls hW hN hS hl => by
  have kk := kk H locs ls hW hN hS hl
  obtain ⟨C, T, N, ty, hc, hin, hty, hnm, hj, hC, hlk⟩ := hL
  have hcell := hW k _ hk trivial
  unfold zC at hcell
  rw [if_neg (by show ¬ (10 + ci < 10); omega)] at hcell
  have e : 10 + ci - 10 = ci := by omega
  have hNn : n = N := by rw [hn, List.getD_eq_getElem?_getD, hc]; rfl
  subst hNn
  simp only [e] at hcell
  obtain ⟨cell, q1, q2, q3, q4⟩ := hcell
  obtain ⟨hSl, hfc, kC, hkC, hkind⟩ := G.2.2.2.2.2.1.1 ci _ hc
  obtain ⟨cf, kf, fi, f, hi, hsl⟩ := hSl j hj
  have hst := (u_facts hfc hkC (u_lays (ws := GT) G.2.2.2.2.1 hin hj) hi).1
  have hv : cell.slots[f.slot]? = some (zV (ga Γ) (zt t j) (σ k j)) := by rw [hsl]; exact q4 j hj
  have hkn : cell.vm ≠ .unknown := by rw [q3]; exact fun h => by cases h
  rw [hC] at hi
  rcases hlk with hlk | ⟨host, hlk⟩
  · exact W.getf G.1 G.2.1 G.2.2.2.1 (G.2.2.2.2.1 _ hlk) hi hst q1 hkn hv rfl rfl hd kk
  · exact va_Wgetf G.1 G.2.1 G.2.2.2.1 (gd_n G hlk) hi hst q1 hkn hv rfl rfl hd kk
theorem p_put0 (G : Gd Γ cc own nL rm sh) {idx ci j k n : Nat} {t : Zc} {ft : FieldType} {v : Int} {w : Value} (hd : decode cc pc = .ok (.putfield idx, 3)) (hL : FP own idx ci j ft) (hk : sh[k]? = some (10 + ci, n, t, none)) (hn : n = (vwCl.getD ci ("", TX0, 0)).2.2) (hw : zV (ga Γ) (zt t j) v = w) (hg : zg sh k = true) (hnw : narrow ft w = w) (hft : fits ft w = true) (kk : PT Γ nL sh (pc + 3) (zu σ k j v) lv st) : PT Γ nL sh pc σ lv (w :: .ref (ga Γ k) :: st) := fun H locs ls hW hN hS hl => by
  obtain ⟨C, T, N, ty, hc, hin, hty, hnm, hj, hC, hlk, hfin, hd2⟩ := hL
  have hcell := hW k _ hk trivial
  unfold zC at hcell
  rw [if_neg (by show ¬ (10 + ci < 10); omega)] at hcell
  have e : 10 + ci - 10 = ci := by omega
  have hNn : n = N := by rw [hn, List.getD_eq_getElem?_getD, hc]; rfl
  subst hNn
  simp only [e] at hcell
  obtain ⟨cell, q1, q2, q3, q4⟩ := hcell
  have hap := va_apart (own := own) (Ts := GT) G.2.2.2.2.1 hin ty hty hnm G.2.2.2.2.2.1 hc
  obtain ⟨hSl, hfc, kC, hkC, hkind⟩ := G.2.2.2.2.2.1.1 ci _ hc
  obtain ⟨cf, kf, fi, f, hi, hsl⟩ := hSl j hj
  have hlay := G.2.2.2.2.1 _ (hin _ (u_in_lay hj))
  unfold u_lay at hlay
  rw [if_neg (by rw [hfin]; decide)] at hlay
  have hst := (u_facts hfc hkC (u_lays (ws := GT) G.2.2.2.2.1 hin hj) hi).1
  have h6 := u_store hfc hkC hkind hlay hi hd2 hnw hft
  rw [hC] at hi
  have go : ∀ H' : Heap, H'[ga Γ k]? = some (cell.setSlot f.slot w) → H'.size = H.size → (∀ q, q ≠ ga Γ k → H'[q]? = H[q]?) → gW Γ H' (locs ++ [⟨ga Γ k, f.slot⟩]) (pc + 3) ls st := by
    intro H' e1 e2 e3
    refine kk H' _ ls (hW.set hN G.2.2.2.2.2.2.1 hg hk trivial ?_ e3) (hN.set hg) (hS.put e2 e3 (G.2.2.2.2.2.2.1.2 k _ hk (hN k _ hk trivial))) hl
    unfold zC
    rw [if_neg (by show ¬ (10 + ci < 10); omega)]
    simp only [e]
    rw [zF_zr, hw]
    rw [hsl] at e1
    exact ⟨_, e1, q2, q3, t_set q4 hap hj w⟩
  have h7 : k2_Sd (gs Γ) f cell.cls w := by rw [q2]; exact h6
  have hlt : f.slot < cell.slots.size := by rw [hsl]; exact k2_hasslot (q4 j hj)
  rcases hlk with hlk | ⟨host, hlk⟩
  · exact W.putK G.1 G.2.1 (f := f) ⟨G.2.2.2.1, G.2.2.2.2.1 _ hlk, ⟨_, _, _, hi⟩, hst⟩ h7 q1 q3 hlt rfl rfl hd go
  · exact va_WputK G.1 G.2.1 (f := f) G.2.2.2.1 (gd_n G hlk) hi hst h7 q1 q3 hlt rfl rfl hd go
theorem fits_i (x : Int32) : fits .int (.int x) = true := by first | rfl | simp [fits]
theorem fits_l (x : Int64) : fits .long (.long x) = true := by first | rfl | simp [fits]
theorem narrow_i (x : Int32) : narrow .int (.int x) = .int x := rfl
theorem narrow_l (x : Int64) : narrow .long (.long x) = .long x := rfl
theorem p_putI {β : Type} (G : Gd Γ cc own nL rm sh) {idx ci j k n : Nat} {t : Zc} {x : Int} {kk : Mm → Option β} {out : β} (hd : decode cc pc = .ok (.putfield idx, 3)) (hL : FP own idx ci j .int) (hk : sh[k]? = some (10 + ci, n, t, none)) (hn : n = (vwCl.getD ci ("", TX0, 0)).2.2) (ht : zt t j = 0) (hg : zg sh k = true) (h : bnd (zu σ k j x) kk = some out) (k9 : ∀ σ, kk σ = some out → PT Γ nL sh (pc + 3) σ lv st) : PT Γ nL sh pc σ lv (.int (zJ x) :: .ref (ga Γ k) :: st) :=
  p_put0 G (v := x) hd hL hk hn (by rw [ht]; rfl) hg (narrow_i _) (fits_i _) (k9 _ h)
theorem p_putL {β : Type} (G : Gd Γ cc own nL rm sh) {idx ci j k n : Nat} {t : Zc} {x : Int64} {kk : Mm → Option β} {out : β} (hd : decode cc pc = .ok (.putfield idx, 3)) (hL : FP own idx ci j .long) (hk : sh[k]? = some (10 + ci, n, t, none)) (hn : n = (vwCl.getD ci ("", TX0, 0)).2.2) (ht : zt t j = 1) (hg : zg sh k = true) (h : bnd (zu σ k j x.toInt) kk = some out) (k9 : ∀ σ, kk σ = some out → PT Γ nL sh (pc + 3) σ lv st) : PT Γ nL sh pc σ lv (.long x :: .ref (ga Γ k) :: st) :=
  p_put0 G (v := x.toInt) hd hL hk hn (by rw [ht]; show Value.long (zL x.toInt) = _; rw [zL_toInt]) hg (narrow_l _) (fits_l _) (k9 _ h)
theorem p_putZ {β : Type} (G : Gd Γ cc own nL rm sh) {idx ci j k n : Nat} {t : Zc} {x : Int} {kk : Mm → Option β} {out : β} (hd : decode cc pc = .ok (.putfield idx, 3)) (hL : FP own idx ci j .boolean) (hk : sh[k]? = some (10 + ci, n, t, none)) (hn : n = (vwCl.getD ci ("", TX0, 0)).2.2) (ht : zt t j = 0) (hg : zg sh k = true) (hb : narrow .boolean (.int (zJ x)) = .int (zJ x) ∧ fits .boolean (.int (zJ x)) = true) (h : bnd (zu σ k j x) kk = some out) (k9 : ∀ σ, kk σ = some out → PT Γ nL sh (pc + 3) σ lv st) : PT Γ nL sh pc σ lv (.int (zJ x) :: .ref (ga Γ k) :: st) :=
  p_put0 G (v := x) hd hL hk hn (by rw [ht]; rfl) hg hb.1 hb.2 (k9 _ h)
theorem zb_01 {x : Int} (h : zw x = 0 ∨ zw x = 1) : narrow .boolean (.int (zJ x)) = .int (zJ x) ∧ fits .boolean (.int (zJ x)) = true := by
  rcases h with h | h
  · rw [← zJ_zw x, h]; decide
  · rw [← zJ_zw x, h]; decide
theorem p_iald {β : Type} (G : Gd Γ cc own nL rm sh) {k n : Nat} {t : Zc} {x : Int} {A : Option β} {out : β} (hd : decode cc pc = .ok (.iaload, 1)) (hk : sh[k]? = some (0, n, t, none)) (ht : ∀ j, zt t j = 0) (h : (if zin x n then A else none) = some out) (kk : zin x n → A = some out → PT Γ nL sh (pc + 1) σ lv (.int (zJ (σ k (zix x))) :: st)) : PT Γ nL sh pc σ lv (.int (zJ x) :: .ref (ga Γ k) :: st) := fun H locs ls hW hN hS hl => by
  by_cases hi : zin x n
  · rw [if_pos hi] at h
    have kk := kk hi h H locs ls hW hN hS hl
    have hcell := (zC_arr (by decide)).mp (hW k _ hk trivial)
    have hlt : (zJ x).toNatClampNeg < n := Nat.not_le.mp fun q => zin_vp hi (Or.inr q)
    refine W.iald (v := .int (zJ (σ k (zix x)))) G.1 G.2.1 hcell ((G.2.2.2.2.2.1.2 0 _ rfl).1 n _) (fun q => by cases q) (by show ¬ (zJ x < 0 ∨ (arrV _ _ _).slots.size ≤ _); rw [arrV_size]; exact zin_vp hi) ?_ rfl rfl hd kk
    show (arrV _ _ _).slots[_]? = _
    rw [arrV_read _ _ hlt]
    unfold zF
    rw [ht]
    rfl
  · rw [if_neg hi] at h; cases h
theorem p_lald {β : Type} (G : Gd Γ cc own nL rm sh) {k n : Nat} {t : Zc} {x : Int} {A : Option β} {out : β} (hd : decode cc pc = .ok (.laload, 1)) (hk : sh[k]? = some (1, n, t, none)) (ht : ∀ j, zt t j = 1) (h : (if zin x n then A else none) = some out) (kk : zin x n → A = some out → PT Γ nL sh (pc + 1) σ lv (.long (zL (σ k (zix x))) :: st)) : PT Γ nL sh pc σ lv (.int (zJ x) :: .ref (ga Γ k) :: st) := fun H locs ls hW hN hS hl => by
  by_cases hi : zin x n
  · rw [if_pos hi] at h
    have kk := kk hi h H locs ls hW hN hS hl
    have hcell := (zC_arr (by decide)).mp (hW k _ hk trivial)
    have hlt : (zJ x).toNatClampNeg < n := Nat.not_le.mp fun q => zin_vp hi (Or.inr q)
    refine W.lald (v := .long (zL (σ k (zix x)))) G.1 G.2.1 hcell ((G.2.2.2.2.2.1.2 1 _ rfl).1 n _) (fun q => by cases q) (by show ¬ (zJ x < 0 ∨ (arrV _ _ _).slots.size ≤ _); rw [arrV_size]; exact zin_vp hi) ?_ rfl rfl hd kk
    show (arrV _ _ _).slots[_]? = _
    rw [arrV_read _ _ hlt]
    unfold zF
    rw [ht]
    rfl
  · rw [if_neg hi] at h; cases h
theorem p_bald {β : Type} (G : Gd Γ cc own nL rm sh) {k n : Nat} {t : Zc} {x : Int} {A : Option β} {out : β} (hd : decode cc pc = .ok (.baload, 1)) (hk : sh[k]? = some (2, n, t, none)) (ht : ∀ j, zt t j = 0) (h : (if zin x n then A else none) = some out) (kk : zin x n → A = some out → PT Γ nL sh (pc + 1) σ lv (.int (zJ (σ k (zix x))) :: st)) : PT Γ nL sh pc σ lv (.int (zJ x) :: .ref (ga Γ k) :: st) := fun H locs ls hW hN hS hl => by
  by_cases hi : zin x n
  · rw [if_pos hi] at h
    have kk := kk hi h H locs ls hW hN hS hl
    have hcell := (zC_arr (by decide)).mp (hW k _ hk trivial)
    have hlt : (zJ x).toNatClampNeg < n := Nat.not_le.mp fun q => zin_vp hi (Or.inr q)
    refine W.bald (v := .int (zJ (σ k (zix x)))) G.1 G.2.1 hcell ((G.2.2.2.2.2.1.2 2 _ rfl).1 n _) (fun q => by cases q) (by show ¬ (zJ x < 0 ∨ (arrV _ _ _).slots.size ≤ _); rw [arrV_size]; exact zin_vp hi) ?_ rfl rfl hd kk
    show (arrV _ _ _).slots[_]? = _
    rw [arrV_read _ _ hlt]
    unfold zF
    rw [ht]
    rfl
  · rw [if_neg hi] at h; cases h
theorem p_iast {β : Type} (G : Gd Γ cc own nL rm sh) {k n : Nat} {t : Zc} {x : Int} {v : Int} {kk : Mm → Option β} {out : β} (hd : decode cc pc = .ok (.iastore, 1)) (hk : sh[k]? = some (0, n, t, none)) (ht : ∀ j, zt t j = 0) (hg : zg sh k = true) (h : (if zin x n then bnd (zu σ k (zix x) v) kk else none) = some out) (k9 : ∀ σ, zin x n → kk σ = some out → PT Γ nL sh (pc + 1) σ lv st) : PT Γ nL sh pc σ lv (.int (zJ v) :: .int (zJ x) :: .ref (ga Γ k) :: st) := fun H locs ls hW hN hS hl => by
  by_cases hi : zin x n
  · rw [if_pos hi] at h
    have hcell := (zC_arr (by decide)).mp (hW k _ hk trivial)
    refine W.iast G.1 G.2.1 hcell ((G.2.2.2.2.2.1.2 0 _ rfl).1 n _) (fun q => by cases q) (by show ¬ (zJ x < 0 ∨ (arrV _ _ _).slots.size ≤ _); rw [arrV_size]; exact zin_vp hi) rfl rfl hd (fun H1 e1 e2 e3 => ?_)
    refine k9 _ hi h H1 _ ls (hW.set hN G.2.2.2.2.2.2.1 hg hk trivial ?_ e3) (hN.set hg) (hS.put e2 e3 (G.2.2.2.2.2.2.1.2 k _ hk (hN k _ hk trivial))) hl
    refine (zC_arr (by decide)).mpr ?_
    rw [e1, arrV_store, zF_zr, ht, zix_J]
    rfl
  · rw [if_neg hi] at h; cases h
theorem p_last {β : Type} (G : Gd Γ cc own nL rm sh) {k n : Nat} {t : Zc} {x : Int} {v : Int64} {kk : Mm → Option β} {out : β} (hd : decode cc pc = .ok (.lastore, 1)) (hk : sh[k]? = some (1, n, t, none)) (ht : ∀ j, zt t j = 1) (hg : zg sh k = true) (h : (if zin x n then bnd (zu σ k (zix x) v.toInt) kk else none) = some out) (k9 : ∀ σ, zin x n → kk σ = some out → PT Γ nL sh (pc + 1) σ lv st) : PT Γ nL sh pc σ lv (.long v :: .int (zJ x) :: .ref (ga Γ k) :: st) := fun H locs ls hW hN hS hl => by
  by_cases hi : zin x n
  · rw [if_pos hi] at h
    have hcell := (zC_arr (by decide)).mp (hW k _ hk trivial)
    refine W.last G.1 G.2.1 hcell ((G.2.2.2.2.2.1.2 1 _ rfl).1 n _) (fun q => by cases q) (by show ¬ (zJ x < 0 ∨ (arrV _ _ _).slots.size ≤ _); rw [arrV_size]; exact zin_vp hi) rfl rfl hd (fun H1 e1 e2 e3 => ?_)
    refine k9 _ hi h H1 _ ls (hW.set hN G.2.2.2.2.2.2.1 hg hk trivial ?_ e3) (hN.set hg) (hS.put e2 e3 (G.2.2.2.2.2.2.1.2 k _ hk (hN k _ hk trivial))) hl
    refine (zC_arr (by decide)).mpr ?_
    rw [e1, arrV_store, zF_zr, ht, zix_J]
    rw [show zV (ga Γ) 1 v.toInt = Value.long v from by show Value.long (zL v.toInt) = _; rw [zL_toInt]]
  · rw [if_neg hi] at h; cases h
theorem p_bast {β : Type} (G : Gd Γ cc own nL rm sh) {k n : Nat} {t : Zc} {x : Int} {v : Int} {kk : Mm → Option β} {out : β} (hd : decode cc pc = .ok (.bastore, 1)) (hk : sh[k]? = some (2, n, t, none)) (ht : ∀ j, zt t j = 0) (hg : zg sh k = true) (h : (if zin x n then bnd (zu σ k (zix x) (zi2b v)) kk else none) = some out) (k9 : ∀ σ, zin x n → kk σ = some out → PT Γ nL sh (pc + 1) σ lv st) : PT Γ nL sh pc σ lv (.int (zJ v) :: .int (zJ x) :: .ref (ga Γ k) :: st) := fun H locs ls hW hN hS hl => by
  by_cases hi : zin x n
  · rw [if_pos hi] at h
    have hcell := (zC_arr (by decide)).mp (hW k _ hk trivial)
    refine W.bast G.1 G.2.1 hcell ((G.2.2.2.2.2.1.2 2 _ rfl).1 n _) (fun q => by cases q) (by show ¬ (zJ x < 0 ∨ (arrV _ _ _).slots.size ≤ _); rw [arrV_size]; exact zin_vp hi) rfl rfl hd (fun H1 e1 e2 e3 => ?_)
    refine k9 _ hi h H1 _ ls (hW.set hN G.2.2.2.2.2.2.1 hg hk trivial ?_ e3) (hN.set hg) (hS.put e2 e3 (G.2.2.2.2.2.2.1.2 k _ hk (hN k _ hk trivial))) hl
    refine (zC_arr (by decide)).mpr ?_
    rw [e1, arrV_store, zF_zr, ht, zix_J]
    rw [show zV (ga Γ) 0 (zi2b v) = narrow .byte (.int (zJ v)) from by show Value.int (zJ (zi2b v)) = _; unfold zi2b; rw [zJ_toInt]; rfl]
  · rw [if_neg hi] at h; cases h
theorem p_alen (G : Gd Γ cc own nL rm sh) {k n kd : Nat} {t : Zc} (hd : decode cc pc = .ok (.arraylength, 1)) (hk : sh[k]? = some (kd, n, t, none)) (hkd : kd < 5) (hn : n < 2147483648) (kk : PT Γ nL sh (pc + 1) σ lv (.int (zJ (n : Int)) :: st)) : PT Γ nL sh pc σ lv (.ref (ga Γ k) :: st) := fun H locs ls hW hN hS hl => by
  have kk := kk H locs ls hW hN hS hl
  have hcell := (zC_arr (by omega)).mp (hW k _ hk trivial)
  have hty : ∃ ty, (zty (gy Γ))[kd]? = some (gy Γ kd, ty) := by
    match kd, hkd with
    | 0, _ => exact ⟨_, rfl⟩
    | 1, _ => exact ⟨_, rfl⟩
    | 2, _ => exact ⟨_, rfl⟩
    | 3, _ => exact ⟨_, rfl⟩
    | 4, _ => exact ⟨_, rfl⟩
  obtain ⟨ty, hty⟩ := hty
  refine W.alen (n := zJ (n : Int)) G.1 G.2.1 hcell ((G.2.2.2.2.2.1.2 kd _ hty).1 n _) ?_ rfl rfl hd kk
  rw [show (arrV (gy Γ kd) n (zF (ga Γ) t (σ k))).slots.size = n from arrV_size _ _ _]
  rfl
theorem p_aaldM {β : Type} (G : Gd Γ cc own nL rm sh) {k n b d : Nat} {t : Zc} {x : Int} {A B : Option β} {out : β} (hd : decode cc pc = .ok (.aaload, 1)) (hk : sh[k]? = some (4, n, t, none)) (ht : ∀ j, zt t j = 4 + 2 * (b + d * j)) (h : (if zin x n then (if σ k (zix x) = 0 then A else B) else none) = some out) (k1 : zin x n → σ k (zix x) = 0 → A = some out → PT Γ nL sh (pc + 1) σ lv (.null :: st)) (k2 : zin x n → σ k (zix x) ≠ 0 → B = some out → PT Γ nL sh (pc + 1) σ lv (.ref (ga Γ (b + d * zix x)) :: st)) : PT Γ nL sh pc σ lv (.int (zJ x) :: .ref (ga Γ k) :: st) := fun H locs ls hW hN hS hl => by
  by_cases hi : zin x n
  · rw [if_pos hi] at h
    have hcell := (zC_arr (by decide)).mp (hW k _ hk trivial)
    have hlt : (zJ x).toNatClampNeg < n := Nat.not_le.mp fun q => zin_vp hi (Or.inr q)
    have hrd : (arrV (gy Γ 4) n (zF (ga Γ) t (σ k))).slots[(zJ x).toNatClampNeg]? = some (if σ k (zix x) = 0 then Value.null else .ref (ga Γ (b + d * zix x))) := by
      rw [arrV_read _ _ hlt]
      unfold zF
      rw [ht, zix_J]
      unfold zV
      rw [if_neg (by omega), if_neg (by omega), if_neg (by omega), if_neg (by omega), show (4 + 2 * (b + d * zix x) - 4) / 2 = b + d * zix x by omega]
    by_cases hz : σ k (zix x) = 0
    · rw [if_pos hz] at h hrd
      exact W.aald (ty := .object RX2) G.1 G.2.1 hcell ((G.2.2.2.2.2.1.2 4 _ rfl).1 n _) rfl (fun q => by cases q) (by show ¬ (zJ x < 0 ∨ (arrV _ _ _).slots.size ≤ _); rw [arrV_size]; exact zin_vp hi) hrd rfl rfl hd (k1 hi hz h H locs ls hW hN hS hl)
    · rw [if_neg hz] at h hrd
      exact W.aald (ty := .object RX2) G.1 G.2.1 hcell ((G.2.2.2.2.2.1.2 4 _ rfl).1 n _) rfl (fun q => by cases q) (by show ¬ (zJ x < 0 ∨ (arrV _ _ _).slots.size ≤ _); rw [arrV_size]; exact zin_vp hi) hrd rfl rfl hd (k2 hi hz h H locs ls hW hN hS hl)
  · rw [if_neg hi] at h; cases h
theorem p_ifnonnull (G : Gd Γ cc own nL rm sh) {b : Nat} {off : Int} {tgt : Nat} (hd : decode cc pc = .ok (.ifnonnull off, 3)) (ht : (pc : Int) + off = (tgt : Int)) (k : PT Γ nL sh tgt σ lv st) : PT Γ nL sh pc σ lv (.ref b :: st) := fun H locs ls hW hN hS hl => lv_ifnonnull G.1 G.2.1 hd ht (k H locs ls hW hN hS hl)
theorem p_ifnonnullN (G : Gd Γ cc own nL rm sh) {off : Int} (hd : decode cc pc = .ok (.ifnonnull off, 3)) (k : PT Γ nL sh (pc + 3) σ lv st) : PT Γ nL sh pc σ lv (.null :: st) := fun H locs ls hW hN hS hl => lv_ifnonnullN G.1 G.2.1 hd (k H locs ls hW hN hS hl)
end MEM
