/-! Floats and doubles -/
section FLT
variable {Γ : Cx} {cc : ByteArray} {own : String} {nL : Nat} {rm : Room} {sh : Sh} {pc : Nat} {σ σ1 : Mm} {lv : List (Nat × Value)} {st : List Value} {β : Type} {A : Option β} {out : β} {ov : Option Value}
theorem p_fconst0 (G : Gd Γ cc own nL rm sh) (hd : decode cc pc = .ok (.fconst 0, 1)) (k : PT Γ nL sh (pc + 1) σ lv (.float FP.fconst0 :: st)) : PT Γ nL sh pc σ lv st := fun H locs ls hW hN hS hl => lv_fconst0 G.1 G.2.1 hd (k H locs ls hW hN hS hl)
theorem p_ldc2d (G : Gd Γ cc own nL rm sh) {idx : Nat} {v : UInt64} (hc : Jvm.Cond.constantDouble own idx v ∈ GT) (hd : decode cc pc = .ok (.ldc2_w idx, 3)) (k : PT Γ nL sh (pc + 3) σ lv (.double v :: st)) : PT Γ nL sh pc σ lv st := fun H locs ls hW hN hS hl => lv_ldc2d G.1 G.2.1 G.2.2.2.1 (G.2.2.2.2.1 _ hc) hd (k H locs ls hW hN hS hl)
theorem p_fdiv (G : Gd Γ cc own nL rm sh) {x y : UInt32} (hd : decode cc pc = .ok (.fdiv, 1)) (h : (if (FP.fdiv x y) &&& 0x7fffffff ≤ 0x7f800000 then A else none) = some out) (k : A = some out → PT Γ nL sh (pc + 1) σ lv (.float (FP.fdiv x y) :: st)) : PT Γ nL sh pc σ lv (.float y :: .float x :: st) := zift h (fun c h => fun H locs ls hW hN hS hl => lv_fdiv G.1 G.2.1 hd c (k h H locs ls hW hN hS hl))
theorem p_ddiv (G : Gd Γ cc own nL rm sh) {x y : UInt64} (hd : decode cc pc = .ok (.ddiv, 1)) (h : (if (FP.ddiv x y) &&& 0x7fffffffffffffff ≤ 0x7ff0000000000000 then A else none) = some out) (k : A = some out → PT Γ nL sh (pc + 1) σ lv (.double (FP.ddiv x y) :: st)) : PT Γ nL sh pc σ lv (.double y :: .double x :: st) := zift h (fun c h => fun H locs ls hW hN hS hl => lv_ddiv G.1 G.2.1 hd c (k h H locs ls hW hN hS hl))
theorem p_f2d (G : Gd Γ cc own nL rm sh) {x : UInt32} (hd : decode cc pc = .ok (.f2d, 1)) (h : (if (FP.f2d x) &&& 0x7fffffffffffffff ≤ 0x7ff0000000000000 then A else none) = some out) (k : A = some out → PT Γ nL sh (pc + 1) σ lv (.double (FP.f2d x) :: st)) : PT Γ nL sh pc σ lv (.float x :: st) := zift h (fun c h => fun H locs ls hW hN hS hl => lv_f2d G.1 G.2.1 hd c (k h H locs ls hW hN hS hl))
def zfcmp (x y : UInt32) (op : CmpOp) : Int := (Op.cmpValue (FP.fcmp x y) op).toInt
def zdcmp (x y : UInt64) (op : CmpOp) : Int := (Op.cmpValue (FP.dcmp x y) op).toInt
theorem p_fcmp (G : Gd Γ cc own nL rm sh) {x y : UInt32} {op : CmpOp} (hd : decode cc pc = .ok (.fcmp op, 1)) (k : PT Γ nL sh (pc + 1) σ lv (.int (zJ (zfcmp x y op)) :: st)) : PT Γ nL sh pc σ lv (.float y :: .float x :: st) := fun H locs ls hW hN hS hl => by
  have k := k H locs ls hW hN hS hl
  unfold zfcmp at k
  rw [zJ_toInt] at k
  exact lv_fcmp G.1 G.2.1 hd k
theorem p_dcmp (G : Gd Γ cc own nL rm sh) {x y : UInt64} {op : CmpOp} (hd : decode cc pc = .ok (.dcmp op, 1)) (k : PT Γ nL sh (pc + 1) σ lv (.int (zJ (zdcmp x y op)) :: st)) : PT Γ nL sh pc σ lv (.double y :: .double x :: st) := fun H locs ls hW hN hS hl => by
  have k := k H locs ls hW hN hS hl
  unfold zdcmp at k
  rw [zJ_toInt] at k
  exact lv_dcmp G.1 G.2.1 hd k
theorem p_fret (G : Gd Γ cc own nL rm sh) {x : UInt32} (hR : RT Γ sh (some .float) σ1 ov) (hd : decode cc pc = .ok (.freturn, 1)) (hv : some (Value.float x) = ov) (hs : σ = σ1) : PT Γ nL sh pc σ lv [.float x] := fun H locs ls hW hN hS hl =>
  gW_ret hR (W.fret G.1 G.2.1 hR.1 (rt_q G hR hv hs hW hN hS) (rt_f G hR hS) hd G.2.2.2.2.2.2.2.2.2.1)
theorem p_dret (G : Gd Γ cc own nL rm sh) {x : UInt64} (hR : RT Γ sh (some .double) σ1 ov) (hd : decode cc pc = .ok (.dreturn, 1)) (hv : some (Value.double x) = ov) (hs : σ = σ1) : PT Γ nL sh pc σ lv [.double x] := fun H locs ls hW hN hS hl =>
  gW_ret hR (W.dret G.1 G.2.1 hR.1 (rt_q G hR hv hs hW hN hS) (rt_f G hR hS) hd G.2.2.2.2.2.2.2.2.2.1)
theorem p_dald (G : Gd Γ cc own nL rm sh) {k n : Nat} {t : Zc} {x : Int} (hd : decode cc pc = .ok (.daload, 1)) (hk : sh[k]? = some (6, n, t, none)) (h : (if zin x n then A else none) = some out) (kk : zin x n → A = some out → PT Γ nL sh (pc + 1) σ lv (.double (zU (σ k (zix x))) :: st)) : PT Γ nL sh pc σ lv (.int (zJ x) :: .ref (ga Γ k) :: st) := zift h (fun hi h => fun H locs ls hW hN hS hl => by
  have hcell : H[ga Γ k]? = some (arrV (gy Γ 6) n (fun j => .double (zU (σ k j)))) := hW k _ hk trivial
  have hlt : (zJ x).toNatClampNeg < n := Nat.not_le.mp fun q => zin_vp hi (Or.inr q)
  exact W.dald (v := .double (zU (σ k (zix x)))) G.1 G.2.1 hcell ((G.2.2.2.2.2.1.2 6 _ rfl).1 n _) (fun q => by cases q) (by show ¬ (zJ x < 0 ∨ (arrV _ _ _).slots.size ≤ _); rw [arrV_size]; exact zin_vp hi) (by show (arrV _ _ _).slots[_]? = _; rw [arrV_read _ _ hlt]; rfl) rfl rfl hd (kk hi h H locs ls hW hN hS hl))
theorem p_dast (G : Gd Γ cc own nL rm sh) {k n : Nat} {t : Zc} {x : Int} {v : UInt64} {kk : Mm → Option β} (hd : decode cc pc = .ok (.dastore, 1)) (hk : sh[k]? = some (6, n, t, none)) (hg : zg sh k = true) (h : (if zin x n then bnd (zu σ k (zix x) (zUi v)) kk else none) = some out) (k9 : ∀ σ, zin x n → kk σ = some out → PT Γ nL sh (pc + 1) σ lv st) : PT Γ nL sh pc σ lv (.double v :: .int (zJ x) :: .ref (ga Γ k) :: st) := zift h (fun hi h => fun H locs ls hW hN hS hl => by
  have hcell : H[ga Γ k]? = some (arrV (gy Γ 6) n (fun j => .double (zU (σ k j)))) := hW k _ hk trivial
  refine W.dast G.1 G.2.1 hcell ((G.2.2.2.2.2.1.2 6 _ rfl).1 n _) (fun q => by cases q) (by show ¬ (zJ x < 0 ∨ (arrV _ _ _).slots.size ≤ _); rw [arrV_size]; exact zin_vp hi) rfl rfl hd (fun H1 e1 e2 e3 => ?_)
  refine k9 _ hi h H1 _ ls (hW.set hN G.2.2.2.2.2.2.1 hg hk trivial ?_ e3) (hN.set hg) (hS.put e2 e3 (G.2.2.2.2.2.2.1.2 k _ hk (hN k _ hk trivial))) hl
  show H1[ga Γ k]? = some (arrV (gy Γ 6) n (fun j => .double (zU (zr (σ k) (zix x) (zUi v) j))))
  rw [e1, arrV_store]
  refine congrArg some (arrV_congr (fun j _ => ?_))
  unfold updV zr
  rw [zix_J]
  by_cases hj : j = zix x
  · rw [if_pos hj, if_pos hj, zU_i]
  · rw [if_neg hj, if_neg hj])
end FLT
