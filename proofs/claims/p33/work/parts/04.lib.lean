/-! The walk's own words. An int is told by any whole number that it is the rest of; a world is a row of cells with shapes; memory: what whole number stands in which slot of which cell. -/
def zJ (x : Int) : Int32 := Int32.ofInt x
def zL (x : Int) : Int64 := Int64.ofInt x
def zw (x : Int) : Int := (zJ x).toInt
abbrev Mm : Type := Nat → Nat → Int
/-- one row, one place of it changed -/
def zr (r : Nat → Int) (j : Nat) (v : Int) : Nat → Int := fun i => if i = j then v else r i
def zu (σ : Mm) (k j : Nat) (v : Int) : Mm := fun c => if c = k then zr (σ k) j v else σ c
/-- a slot's value by its code: 0 an int, 1 a long, 2 the cell of that number (below 26), 3 + 2 m the cell m, 4 + 2 m the cell m or null -/
def zV (a : Nat → Nat) (c : Nat) (v : Int) : Value :=
  if c = 0 then .int (zJ v) else if c = 1 then .long (zL v) else if c = 2 then .ref (a (v.toNat % 26)) else if c % 2 = 1 then .ref (a ((c - 3) / 2)) else if v = 0 then .null else .ref (a ((c - 4) / 2))
/-- codes: those of a list, behind it c0 + c1 j -/
abbrev Zc : Type := List Nat × Nat × Nat
def zt (t : Zc) (j : Nat) : Nat := match t.1[j]? with
  | some c => c
  | none => t.2.1 + t.2.2 * j
/-- kind (below 10 an array of the kind, from 10 on an object of the class), length or number of slots, codes, and the slot that says whether the cell is there -/
abbrev Zs : Type := Nat × Nat × Zc × Option (Nat × Nat)
abbrev Sh : Type := List Zs
def zx (σ : Mm) (g : Option (Nat × Nat)) : Prop := match g with
  | none => True
  | some q => σ q.1 q.2 ≠ 0
def zF (a : Nat → Nat) (t : Zc) (r : Nat → Int) : Nat → Value := fun j => zV a (zt t j) (r j)
/-- a double by a whole number -/
def zU (v : Int) : UInt64 := (Int64.ofInt v).toUInt64
def zUi (x : UInt64) : Int := x.toInt64.toInt
theorem zU_i (x : UInt64) : zU (zUi x) = x := by
  unfold zU zUi
  rw [Int64.ofInt_toInt]
  exact UInt64.toUInt64_toInt64 x
/-- what an array of the kind holds: kind 6 are doubles -/
def zFk (kd : Nat) (a : Nat → Nat) (t : Zc) (r : Nat → Int) : Nat → Value := if kd = 6 then fun j => .double (zU (r j)) else zF a t r
def zC (D : va_G) (y : Nat → ClassId) (a : Nat → Nat) (q : Zs) (b : Nat) (r : Nat → Int) (H : Heap) : Prop :=
  if q.1 < 10 then H[b]? = some (arrV (y q.1) q.2.1 (zFk q.1 a q.2.2.1 r)) else t_OB b (D.1 (q.1 - 10)) q.2.1 (D.2 (q.1 - 10)) H (zF a q.2.2.1 r)
/-- the heap holds the world -/
def HW (D : va_G) (y : Nat → ClassId) (sh : Sh) (a : Nat → Nat) (σ : Mm) (H : Heap) : Prop := ∀ (k : Nat) (q : Zs), sh[k]? = some q → zx σ q.2.2.2 → zC D y a q (a k) (σ k) H
/-- its cells are apart, and of a kind -/
def AP (A : Nat → Prop) (sh : Sh) (a : Nat → Nat) (σ : Mm) : Prop := (∀ (i j : Nat) (p q : Zs), sh[i]? = some p → sh[j]? = some q → zx σ p.2.2.2 → zx σ q.2.2.2 → a i = a j → i = j) ∧ ∀ (k : Nat) (q : Zs), sh[k]? = some q → zx σ q.2.2.2 → A (a k)
/-- no cell is there that wasn't -/
def NE (sh : Sh) (σ0 σ : Mm) : Prop := ∀ (k : Nat) (q : Zs), sh[k]? = some q → zx σ q.2.2.2 → zx σ0 q.2.2.2
/-- no cell's being there hangs on the cell k -/
def zg (sh : Sh) (k : Nat) : Bool := sh.all (fun q => match q.2.2.2 with
  | none => true
  | some g => !(g.1 == k))
theorem zu_self (σ : Mm) (k j : Nat) (v : Int) : zu σ k j v k = zr (σ k) j v := if_pos rfl
theorem zu_ne (σ : Mm) {k c : Nat} (j : Nat) (v : Int) (h : c ≠ k) : zu σ k j v c = σ c := if_neg h
theorem zF_zr (a : Nat → Nat) (t : Zc) (r : Nat → Int) (j : Nat) (v : Int) : zF a t (zr r j v) = updV (zF a t r) j (zV a (zt t j) v) := by
  funext i
  unfold zF zr updV
  by_cases h : i = j
  · subst h
    rw [if_pos rfl, if_pos rfl]
  · rw [if_neg h, if_neg h]
theorem zx_zu {sh : Sh} {σ : Mm} {k j : Nat} {v : Int} (hg : zg sh k = true) {i : Nat} {q : Zs} (hq : sh[i]? = some q) : zx (zu σ k j v) q.2.2.2 ↔ zx σ q.2.2.2 := by
  have h1 := List.all_eq_true.mp hg q (List.mem_of_getElem? hq)
  unfold zx
  cases hc : q.2.2.2 with
  | none => exact Iff.rfl
  | some g =>
    rw [hc] at h1
    have h2 : g.1 ≠ k := by simpa using h1
    show zu σ k j v g.1 g.2 ≠ 0 ↔ σ g.1 g.2 ≠ 0
    rw [zu_ne σ j v h2]
theorem zC_kept {D : va_G} {y : Nat → ClassId} {a : Nat → Nat} {q : Zs} {b : Nat} {r : Nat → Int} {H H1 : Heap} (h : zC D y a q b r H) (e : H1[b]? = H[b]?) : zC D y a q b r H1 := by
  unfold zC at h ⊢
  by_cases c : q.1 < 10
  · rw [if_pos c] at h ⊢
    rw [e]; exact h
  · rw [if_neg c] at h ⊢
    exact h.kept e
theorem zC_lt {D : va_G} {y : Nat → ClassId} {a : Nat → Nat} {q : Zs} {b : Nat} {r : Nat → Int} {H : Heap} (h : zC D y a q b r H) : b < H.size := by
  unfold zC at h
  by_cases c : q.1 < 10
  · rw [if_pos c] at h
    exact (Array.getElem?_eq_some_iff.mp h).1
  · rw [if_neg c] at h
    obtain ⟨cell, h2, -⟩ := h
    exact (Array.getElem?_eq_some_iff.mp h2).1
/-- one slot of one cell changed -/
theorem HW.set {D : va_G} {y : Nat → ClassId} {A : Nat → Prop} {sh : Sh} {a : Nat → Nat} {σ0 σ : Mm} {H H1 : Heap} {k j : Nat} {v : Int} {q : Zs} (h : HW D y sh a σ H) (hN : NE sh σ0 σ) (hA : AP A sh a σ0) (hg : zg sh k = true) (hk : sh[k]? = some q) (hx : zx σ q.2.2.2) (hc : zC D y a q (a k) (zr (σ k) j v) H1) (oq : ∀ b : Nat, b ≠ a k → H1[b]? = H[b]?) : HW D y sh a (zu σ k j v) H1 := by
  intro i p hp hpx
  have hpx2 := (zx_zu hg hp).mp hpx
  by_cases e : i = k
  · subst e
    rw [hk] at hp
    cases hp
    rw [zu_self]
    exact hc
  · rw [zu_ne σ j v e]
    exact zC_kept (h i p hp hpx2) (oq _ (fun z => e (hA.1 i k p q hp hk (hN i p hp hpx2) (hN k q hk hx) z)))
theorem NE.set {sh : Sh} {σ0 σ : Mm} {k j : Nat} {v : Int} (hN : NE sh σ0 σ) (hg : zg sh k = true) : NE sh σ0 (zu σ k j v) := fun i p hp hx => hN i p hp ((zx_zu hg hp).mp hx)
/-! Loops -/
/-- a value by a name -/
def bnd {α β : Type} (x : α) (k : α → β) : β := k x
def itr {τ ε : Type} (f : τ → Option (τ ⊕ ε)) : Nat → τ → Option ε
  | 0, _ => none
  | n + 1, s => match f s with
    | none => none
    | some (.inl s') => itr f n s'
    | some (.inr e) => some e
noncomputable def lup {τ ε : Type} (f : τ → Option (τ ⊕ ε)) (s : τ) : Option ε := @dite _ (∃ (e : ε) (n : Nat), itr f n s = some e) (Classical.propDecidable _) (fun h => some h.choose) (fun _ => none)
theorem itr_up {τ ε : Type} {f : τ → Option (τ ⊕ ε)} : ∀ (n m : Nat) (s : τ) (e : ε), itr f n s = some e → itr f (n + m) s = some e
  | 0, _, _, _, h => by cases h
  | n + 1, m, s, e, h => by
    rw [show n + 1 + m = (n + m) + 1 by omega]
    unfold itr at h ⊢
    cases hf : f s with
    | none => rw [hf] at h; cases h
    | some r =>
      rw [hf] at h
      cases r with
      | inl s' => exact itr_up n m s' e h
      | inr e' => exact h
theorem itr_det {τ ε : Type} {f : τ → Option (τ ⊕ ε)} {n m : Nat} {s : τ} {e e' : ε} (h : itr f n s = some e) (h' : itr f m s = some e') : e = e' := by
  have h1 := itr_up n m s e h
  have h2 := itr_up m n s e' h'
  rw [Nat.add_comm m n] at h2
  exact Option.some.inj (h1.symm.trans h2)
theorem lup_of {τ ε : Type} {f : τ → Option (τ ⊕ ε)} {n : Nat} {s : τ} {e : ε} (h : itr f n s = some e) : lup f s = some e := by
  unfold lup
  have hx : ∃ (e : ε) (n : Nat), itr f n s = some e := ⟨e, n, h⟩
  rw [dif_pos hx]
  obtain ⟨m, hm⟩ := hx.choose_spec
  rw [itr_det hm h]
theorem lup_to {τ ε : Type} {f : τ → Option (τ ⊕ ε)} {s : τ} {e : ε} (h : lup f s = some e) : ∃ n, itr f n s = some e := by
  unfold lup at h
  by_cases hx : ∃ (e : ε) (n : Nat), itr f n s = some e
  · rw [dif_pos hx] at h
    cases h
    exact hx.choose_spec
  · rw [dif_neg hx] at h
    cases h
/-- a loop's body once -/
theorem lup_eq {τ ε : Type} (f : τ → Option (τ ⊕ ε)) (s : τ) : lup f s = (f s).bind (fun r => match r with
    | .inl s' => lup f s'
    | .inr e => some e) := by
  cases hf : f s with
  | none =>
    cases hl : lup f s with
    | none => rfl
    | some e =>
      obtain ⟨n, hn⟩ := lup_to hl
      cases n with
      | zero => cases hn
      | succ n => unfold itr at hn; rw [hf] at hn; cases hn
  | some r =>
    cases r with
    | inr e => exact lup_of (n := 1) (by unfold itr; rw [hf])
    | inl s' =>
      show lup f s = lup f s'
      cases hl : lup f s' with
      | some e =>
        obtain ⟨n, hn⟩ := lup_to hl
        exact lup_of (n := n + 1) (by unfold itr; rw [hf]; exact hn)
      | none =>
        cases hl2 : lup f s with
        | none => rfl
        | some e =>
          obtain ⟨n, hn⟩ := lup_to hl2
          cases n with
          | zero => cases hn
          | succ n =>
            unfold itr at hn
            rw [hf] at hn
            rw [lup_of hn] at hl
            cases hl
theorem lup_walk {τ ε : Type} {f : τ → Option (τ ⊕ ε)} {At : τ → Prop} {e : ε} (hs : ∀ s r, f s = some r → (∀ s', r = .inl s' → At s') → (∀ e', r = .inr e' → e' = e) → At s) {s : τ} (h : lup f s = some e) : At s := by
  obtain ⟨n, hn⟩ := lup_to h
  clear h
  induction n generalizing s with
  | zero => cases hn
  | succ n ih =>
    unfold itr at hn
    cases hf : f s with
    | none => rw [hf] at hn; cases hn
    | some r =>
      rw [hf] at hn
      refine hs s r hf (fun s' h' => ?_) (fun e' h' => ?_)
      · subst h'
        exact ih hn
      · subst h'
        exact Option.some.inj hn
theorem bnd_some {α β : Type} {x : Option α} {k : α → Option β} {o : β} (h : x.bind k = some o) : ∃ v, x = some v ∧ k v = some o := by
  cases x with
  | none => cases h
  | some v => exact ⟨v, rfl, h⟩
/-! Numbers -/
theorem zJ_add (x y : Int) : zJ x + zJ y = zJ (x + y) := (Int32.ofInt_add x y).symm
theorem zJ_sub (x y : Int) : zJ x - zJ y = zJ (x - y) := (Int32.ofInt_sub x y).symm
theorem zJ_mul (x y : Int) : zJ x * zJ y = zJ (x * y) := (Int32.ofInt_mul x y).symm
theorem zJ_neg (x : Int) : - zJ x = zJ (- x) := (Int32.ofInt_neg x).symm
theorem zJ_toInt (x : Int32) : zJ x.toInt = x := Int32.ofInt_toInt x
theorem zL_toInt (x : Int64) : zL x.toInt = x := Int64.ofInt_toInt x
theorem zw_def (x : Int) : zw x = (x + 2147483648) % 4294967296 - 2147483648 := by
  unfold zw zJ
  rw [Int32.toInt_ofInt]
  simp only [Int.bmod]
  have : ((Int32.size : Nat) : Int) = 4294967296 := by decide
  rw [this]
  split <;> omega
theorem zw_eq {x : Int} (h : -2147483648 ≤ x) (h2 : x < 2147483648) : zw x = x := by
  rw [zw_def]; omega
theorem zw_rng (x : Int) : -2147483648 ≤ zw x ∧ zw x < 2147483648 := by
  rw [zw_def]; omega
theorem zJ_zw (x : Int) : zJ (zw x) = zJ x := zJ_toInt _
theorem zJ_lt (x y : Int) : zJ x < zJ y ↔ zw x < zw y := Int32.lt_iff_toInt_lt
theorem zJ_le (x y : Int) : zJ x ≤ zJ y ↔ zw x ≤ zw y := Int32.le_iff_toInt_le
theorem zJ_eq (x y : Int) : zJ x = zJ y ↔ zw x = zw y := Int32.toInt_inj.symm
theorem zw_zw (x : Int) : zw (zw x) = zw x := by
  rw [zw_def, zw_def]; omega
