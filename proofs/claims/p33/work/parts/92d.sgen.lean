/-! Contracts with any end; rows of bytes -/
def CQ (l : Launch) (y : MethodName) (c : ByteArray) (n : Nat) (ret : Option FieldType) (rm : Room) (sh : Sh) (D : va_G) (yy : Nat → ClassId) (tk tv : Nat → Nat) (a : Nat → Nat) (σ : Mm) (As : List Value) (Qp : Nat → Outcome → Heap → Prop) (mc ms : Nat) : Prop :=
  ∀ sz : Nat, Met l y (WS y c n ret) rm (PcW D yy tk tv sh a σ sz As) (fun _ st oc t => Qp sz oc t.heap ∧ va_F (aW sh a σ sz) st t) mc ms (aW sh a σ sz)
def RTQ (Γ : Cx) (ret : Option FieldType) (Qp : Outcome → Heap → Prop) (mc ms : Nat) (A0 : Nat → Prop) : Prop :=
  (gmeth Γ).sig.returnType = ret ∧ gA Γ = A0 ∧ gQ Γ = MQ (gbelow Γ) (fun _ st oc t => Qp oc t.heap ∧ va_F A0 st t) (gargs Γ) (gs Γ) mc ms A0
set_option maxHeartbeats 1000000 in
theorem cq_of {l : Launch} {y : MethodName} {c : ByteArray} {n : Nat} {ret : Option FieldType} {rm : Room} {sh : Sh} {D : va_G} {yy : Nat → ClassId} {tk tv a : Nat → Nat} {σ : Mm} {Ar : (Nat → Nat) → (Nat → Nat) → List Value} {Qp : Nat → Outcome → Heap → Prop} {mc ms : Nat} (hy : plainName y.cls = true) (hn : (lg_sl (Ar a tk)).length ≤ n)
    (body : ∀ Γ : Cx, Gd Γ c y.cls n rm sh → go Γ = σ → Mk Γ (l, tk, tv) y.name 0 0 → gD Γ = D → gy Γ = yy → ga Γ = a → RTQ Γ ret (Qp (gs Γ).heap.size) mc ms (aW sh a σ (gs Γ).heap.size) → HW D yy sh a σ (gs Γ).heap → PT Γ n sh 0 σ (lv_args 0 (Ar (ga Γ) (gk Γ))) []) : CQ l y c n ret rm sh D yy tk tv a σ (Ar a tk) Qp mc ms := by
  intro sz
  refine Met.ofW (cc := c) (maxL := n) (ret := ret) hy rfl ?_
  intro p e s m9 args below meth c9 s₁ B hml hv
  obtain ⟨rfl, rfl, hW, hK, hP, hO⟩ := hv
  have hts : ∀ w ∈ WS y c n ret, w.before (Ar a tk).toArray s = true := atoms_spec (ws := WS y c n ret) B.pre
  have hown : s.vm.findClass y.cls = some m9.cls := findClass_of_methodNamed B.named
  have hl := lv_entry (Ar a tk) (n := n) hn
  rw [lg_entry_eq]
  have h := body (p, l, e, (headSpec (WS y c n ret) rm).room, s, m9, (Ar a tk).toArray, below, meth, c9, D, yy, tk, tv, a, aW sh a σ s.heap.size, σ, 0, 0, MQ below (fun _ st oc t => Qp s.heap.size oc t.heap ∧ va_F (aW sh a σ s.heap.size) st t) (Ar a tk).toArray s mc ms (aW sh a σ s.heap.size))
    ⟨B.exec, B.bytes, hml, hown, fun w hw => hts w (List.mem_cons_of_mem _ hw), hK, ⟨hP.1, fun k q hq hx => Or.inl ⟨k, q, hq, hx, rfl⟩⟩, fun q hq => Or.inr hq, rfl, B.notSynchronized, hO⟩ rfl ⟨⟨rfl, rfl, rfl⟩, (name_of_methodNamed B.named B.method).1, rfl, rfl⟩ rfl rfl rfl
    ⟨B.returns, rfl, rfl⟩ hW
  exact h s.heap [] _ hW (fun _ _ _ h => h) va_S.rf hl
section CQG
variable {Γ : Cx} {cc : ByteArray} {own : String} {nL : Nat} {rm : Room} {sh : Sh} {pc : Nat} {σ : Mm} {lv : List (Nat × Value)} {st : List Value} {ret : Option FieldType} {Qp : Outcome → Heap → Prop} {A0 : Nat → Prop} {mc ms m n : Nat} {lc : Lc} {nm : String}
theorem gW_retQ (hM : Mk Γ lc nm m n) (hm : m ≤ mc) (hn : n ≤ ms) (hR : RTQ Γ ret Qp mc ms A0) {v : Option Value} {H : Heap} {locs : List Loc} {ls : Array Slot} {st : List Value} (hq : Qp (.returned v) H) (hS : va_S (gA Γ) (gs Γ).heap H locs)
    (h : (gmeth Γ).sig.returnType = ret → ∀ (Qc : Array Value → State → Outcome → State → Prop) (free : Addr → Prop), (∀ t : State, t.heap = H → (gs Γ).WarmedH t.vm → Qc (gargs Γ) (gs Γ) (.returned v) t) → (∀ q ∈ locs, free q.base) → W (gp Γ) (gl Γ) (ge Γ) (gR Γ) (gs Γ) (gm Γ) (gargs Γ) (gbelow Γ) (gmeth Γ) (gc Γ) H locs mc ms (MQ (gbelow Γ) Qc (gargs Γ) (gs Γ) mc ms free) (F0 (gm Γ) pc ls st)) : gW Γ H locs pc ls st := by
  obtain ⟨h1, h2, h3⟩ := hR
  unfold gW
  rw [hM.2.2.1, hM.2.2.2, h3]
  refine W.widen hm hn (h h1 _ _ ?_ ?_)
  · intro t ht hw
    subst ht
    refine ⟨hq, ?_⟩
    have h := hS.F (s := gs Γ) rfl
    rw [h2] at h
    exact h
  · intro q hq
    have h := hS.2.2 q hq
    rw [h2] at h
    exact h
theorem p_aretQ (G : Gd Γ cc own nL rm sh) {rt : FieldType} {x : Nat} (hM : Mk Γ lc nm m n) (hm : m ≤ mc) (hn : n ≤ ms) (hR : RTQ Γ (some rt) Qp mc ms A0) (hrt : (∃ n, rt = .object n) ∨ ∃ t, rt = .array t) (hd : decode cc pc = .ok (.areturn, 1)) (hq : ∀ H, HW (gD Γ) (gy Γ) sh (ga Γ) σ H → Qp (.returned (some (.ref x))) H) : PT Γ nL sh pc σ lv [.ref x] := fun H locs ls hW hN hS hl =>
  gW_retQ hM hm hn hR (hq H hW) hS (fun hr Qc free hq hf => W.aret G.1 G.2.1 hr hrt (Or.inr ⟨_, rfl⟩) hq hf hd G.2.2.2.2.2.2.2.2.2.1)
theorem p_vretQ (G : Gd Γ cc own nL rm sh) (hM : Mk Γ lc nm m n) (hm : m ≤ mc) (hn : n ≤ ms) (hR : RTQ Γ none Qp mc ms A0) (hd : decode cc pc = .ok (.return_, 1)) (hq : ∀ H, HW (gD Γ) (gy Γ) sh (ga Γ) σ H → Qp (.returned none) H) : PT Γ nL sh pc σ lv [] := fun H locs ls hW hN hS hl =>
  gW_retQ hM hm hn hR (hq H hW) hS (fun hr Qc free hq hf => W.vret G.1 G.2.1 hr hq hf hd G.2.2.2.2.2.2.2.2.2.1)
set_option maxHeartbeats 1000000 in
/-- behind a call -/
theorem w_goQ (G : Gd Γ cc own nL rm sh) {H : Heap} {locs : List Loc} {ls : Array Slot} {stk rest : List Value} {A1 : Nat → Prop} {mc1 ms1 : Nat} (hS : va_S (gA Γ) (gs Γ).heap H locs) (hA : ∀ q, A1 q → gA Γ q)
    (hr : va_Run (gp Γ) (gl Γ) (ge Γ) (gR Γ) (gs Γ) (gm Γ) (gargs Γ) (gbelow Γ) (gmeth Γ) (gc Γ) H locs (gmc Γ) (gms Γ) mc1 ms1 (F0 (gm Γ) pc ls stk) rest (fun st oc t => Qp oc t.heap ∧ va_F A1 st t) A1)
    (k : ∀ (v : Option Value) (H1 : Heap) (locs1 : List Loc), Qp (.returned v) H1 → H.size ≤ H1.size → (∀ q : Nat, q < H.size → ¬ A1 q → H1[q]? = H[q]?) → va_S (gA Γ) (gs Γ).heap H1 locs1 → W (gp Γ) (gl Γ) (ge Γ) (gR Γ) (gs Γ) (gm Γ) (gargs Γ) (gbelow Γ) (gmeth Γ) (gc Γ) H1 locs1 (gmc Γ + mc1) (gms Γ + ms1) (gQ Γ) (F0 (gm Γ) (pc + 3) ls (v.toList ++ rest))) : gW Γ H locs pc ls stk := by
  intro T hT X
  obtain ⟨v, st₀, t, T', L, h0, X', hL, e1, e2, ⟨hp, hz1, hF⟩, stp⟩ := hr T hT X
  rw [h0] at hz1 hF
  rw [← e1] at hp hz1 hF
  have hS1 : va_S (gA Γ) (gs Γ).heap T'.heap (locs ++ L) := ⟨Nat.le_trans hS.1 hz1, fun q h1 h2 => by
    rw [hF q (Nat.lt_of_lt_of_le h1 hS.1) (fun z => h2 (hA q z))]
    exact hS.2.1 q h1 h2, fun q hq => by
    rcases List.mem_append.mp hq with h | h
    · exact hS.2.2 q h
    · exact hA _ (hL q h)⟩
  obtain ⟨t2, a3, b1⟩ := k v T'.heap (locs ++ L) hp hz1 hF hS1 T' rfl X'
  exact ⟨t2, stp t2 a3, b1⟩
end CQG
def shW (m q : Nat) : Sh := [(2, m, ([], 0, 0), none), (2, q, ([], 0, 0), none)]
theorem shV_at {m k : Nat} {q : Zs} (h : (shV m)[k]? = some q) : k = 0 ∧ q = (2, m, ([], 0, 0), none) := by
  match k, h with
  | 0, h => cases h; exact ⟨rfl, rfl⟩
  | k + 1, h => simp [shV] at h
theorem shW_at {m w k : Nat} {q : Zs} (h : (shW m w)[k]? = some q) : (k = 0 ∧ q = (2, m, ([], 0, 0), none)) ∨ (k = 1 ∧ q = (2, w, ([], 0, 0), none)) := by
  match k, h with
  | 0, h => cases h; exact .inl ⟨rfl, rfl⟩
  | 1, h => cases h; exact .inr ⟨rfl, rfl⟩
  | k + 2, h => simp [shW] at h
/-- a row of bytes, whatever the addresses -/
theorem zC_byt {D : va_G} {y : Nat → ClassId} {a : Nat → Nat} {n : Nat} {g : Option (Nat × Nat)} {b : Nat} {r : Nat → Int} {H : Heap} : zC D y a (2, n, ([], 0, 0), g) b r H ↔ H[b]? = some (arrV (y 2) n (fun j => .int (zJ (r j)))) := by
  rw [zC_arr (by decide)]
  have e : zF a ([], 0, 0) r = fun j => Value.int (zJ (r j)) := by
    funext j
    unfold zF
    rw [zt_c]
    rfl
  rw [e]
section SBN
variable {Γ : Cx} {cc : ByteArray} {own : String} {nL : Nat} {rm : Room} {pc : Nat} {σ : Mm} {lv : List (Nat × Value)} {st : List Value} {mc ms m n : Nat} {lc : Lc} {nm : String}
set_option maxHeartbeats 1000000 in
theorem p_newaV {m1 N : Nat} (G : Gd Γ cc own nL rm (shV m1)) (hM : Mk Γ lc nm m n) (ha : Cond.arrayClass (newarray.typeOf .byte) ∈ GT) (hd : decode cc pc = .ok (.newarray .byte, 2)) (hN : N < 1000) (hrc : m + 1 ≤ rm.cells) (hrs : n + N ≤ rm.slots) {lv' : (Nat → Nat) → List (Nat × Value)} {st' : (Nat → Nat) → List Value} (hlv : ∀ a : Nat → Nat, a 0 = ga Γ 0 → lv = lv' a ∧ st = st' a)
    (k9 : ∀ Γ' : Cx, Gd Γ' cc own nL rm (shW m1 N) → (∀ {ret : Option FieldType} {Qp : Outcome → Heap → Prop} {mc ms : Nat} {A0 : Nat → Prop}, RTQ Γ ret Qp mc ms A0 → RTQ Γ' ret Qp mc ms A0) → Mk Γ' lc nm (m + 1) (n + N) → gD Γ' = gD Γ → gy Γ' = gy Γ → ga Γ' 0 = ga Γ 0 → (gs Γ).heap.size ≤ ga Γ' 1 → PT Γ' nL (shW m1 N) (pc + 2) (fun c => if c = 0 then σ 0 else fun _ => 0) (lv' (ga Γ')) (.ref (ga Γ' 1) :: st' (ga Γ'))) : PT Γ nL (shV m1) pc σ lv (.int (zJ (N : Int)) :: st) := fun H locs ls hW hN9 hS hl => by
  obtain ⟨znn, zn0⟩ := zw_nat (N := N) (by omega)
  refine va_newaK G.1 G.2.1 (G.2.2.2.2.1 _ ha) rfl hd rfl zn0 znn (by show N * 1 ≤ _; omega) (by rw [hM.2.2.1, G.2.2.2.2.2.2.2.2.1]; exact hrc) (by rw [hM.2.2.2, G.2.2.2.2.2.2.2.2.1]; exact hrs) rfl (fun H1 cA e1 z1 o1 hAr hNm => ?_)
  have hcA : cA = gy Γ 2 := Option.some.inj (hNm.symm.trans ((G.2.2.2.2.2.1.2 2 _ rfl).2))
  subst hcA
  have hlt : ga Γ 0 < H.size := zC_lt (hW 0 _ rfl trivial)
  have hs := hS.1
  have hgA : ∀ q, H.size ≤ q → gA Γ q := fun q hq => G.2.2.2.2.2.2.2.1 q (Nat.le_trans hS.1 hq)
  obtain ⟨el, es⟩ := hlv (adB (ga Γ 0) H.size) rfl
  have k8 := k9 (gN Γ (adB (ga Γ 0) H.size) (fun c => if c = 0 then σ 0 else fun _ => 0) (gmc Γ + 1) (gms Γ + N)) (gd_N G _ _ ⟨fun i j p q hp hq _ _ e => by
      rcases shW_at hp with ⟨ei, -⟩ | ⟨ei, -⟩ <;> rcases shW_at hq with ⟨ej, -⟩ | ⟨ej, -⟩ <;> subst ei ej
      · rfl
      · exact absurd (show ga Γ 0 = H.size from e) (by omega)
      · exact absurd (show H.size = ga Γ 0 from e) (by omega)
      · rfl, fun k q hq _ => by
      rcases shW_at hq with ⟨ei, -⟩ | ⟨ei, -⟩ <;> subst ei
      · exact G.2.2.2.2.2.2.1.2 0 _ rfl (hN9 0 _ rfl trivial)
      · exact hgA _ (Nat.le_refl _)⟩) (fun h => h) ⟨hM.1, hM.2.1, by show gmc Γ + 1 = _; rw [hM.2.2.1], by show gms Γ + N = _; rw [hM.2.2.2]⟩ rfl rfl rfl hS.1 H1 locs ls (fun i q hq _ => by
      rcases shW_at hq with ⟨ei, eq⟩ | ⟨ei, eq⟩ <;> subst ei eq
      · exact zC_byt.mpr (by
          show H1[ga Γ 0]? = some (arrV (gy Γ 2) m1 fun j => Value.int (zJ (σ 0 j)))
          rw [o1 _ hlt]; exact zC_byt.mp (hW 0 _ rfl trivial))
      · exact zC_byt.mpr e1) (fun _ _ _ h => h) ⟨Nat.le_trans hS.1 (by rw [z1]; exact Nat.le_succ _), fun q h1 h2 => by rw [o1 q (Nat.lt_of_lt_of_le h1 hS.1)]; exact hS.2.1 q h1 h2, hS.2.2⟩ (show lv_has ls nL (lv' (adB (ga Γ 0) H.size)) by rw [← el]; exact hl)
  have k7 : gW (gN Γ (adB (ga Γ 0) H.size) (fun c => if c = 0 then σ 0 else fun _ => 0) (gmc Γ + 1) (gms Γ + N)) H1 locs (pc + 2) ls (.ref H.size :: st' (adB (ga Γ 0) H.size)) := k8
  rw [← es] at k7
  exact k7
variable {sh : Sh}
set_option maxHeartbeats 2000000 in
/-- System.arraycopy of bytes from the first on -/
theorem p_copyB (G : Gd Γ cc own nL rm sh) {idx k0 k1 n n0 n1 : Nat} (w1 : Cond.methodLink own idx arraycopyName ∈ GT) (hk0 : sh[k0]? = some (2, n0, ([], 0, 0), none)) (hk1 : sh[k1]? = some (2, n1, ([], 0, 0), none)) (h0 : n ≤ n0) (h1 : n ≤ n1) (hg : zg sh k1 = true) (hn : n < 1000) (hfit : ∀ j, fits .byte (.int (zJ (σ k0 j))) = true) (hr : 1 ≤ rm.frames ∧ 8 + (nativeFrameWords "java/lang/System" "arraycopy" 5 + 11) ≤ rm.locals) (hd : decode cc pc = .ok (.invokestatic idx, 3)) (k9 : PT Γ nL sh (pc + 3) (zcp σ k0 k1 n) lv st) (h8 : (st.map fun v => v.category).sum ≤ 8 := by exact Nat.le_of_ble_eq_true rfl) : PT Γ nL sh pc σ lv (.int (zJ (n : Int)) :: .int (zJ 0) :: .ref (ga Γ k1) :: .int (zJ 0) :: .ref (ga Γ k0) :: st) := fun H locs ls hW hN hS hl => by
  have hR := G.2.2.2.2.2.2.2.2.1
  have hA := G.2.2.2.2.2.2.1
  have hc0 := zC_byt.mp (hW k0 _ hk0 trivial)
  have hc1 := zC_byt.mp (hW k1 _ hk1 trivial)
  have hty : (zty (gy Γ))[2]? = some (gy Γ 2, .byte) := rfl
  obtain ⟨-, q0, hq0, cm0, hkk0⟩ := (G.2.2.2.2.2.1.2 2 _ hty).1 n0 (fun j => .int (zJ (σ k0 j)))
  obtain ⟨-, q1, hq1, cm1, hkk1⟩ := (G.2.2.2.2.2.1.2 2 _ hty).1 n1 (fun j => .int (zJ (σ k1 j)))
  have z0 : ¬ zJ 0 < 0 := by decide
  have zn : (zJ (n : Int)).toInt = (n : Int) := zw_eq (by omega) (by omega)
  have zn0 : ¬ zJ (n : Int) < 0 := by
    intro q
    have := (zJ_lt0 _).mp q
    unfold zw at this
    omega
  have znn : (zJ (n : Int)).toNatClampNeg = n := by
    show (zJ (n : Int)).toInt.toNat = n
    omega
  have zz : (zJ 0).toNatClampNeg = 0 := by decide
  intro T hT X
  obtain ⟨vm', X', step⟩ := X.arraycopy G.1 G.2.2.2.1 (G.2.2.2.2.1 _ w1) (G.2.2.2.2.1 _ wj_ac_n) (G.2.2.2.2.1 _ wj_ac_s) (G.2.2.2.2.1 _ wj_ac_i) (src := ga Γ k0) (dst := ga Γ k1) (cs := arrV (gy Γ 2) n0 (fun j => .int (zJ (σ k0 j)))) (cd := arrV (gy Γ 2) n1 (fun j => .int (zJ (σ k1 j)))) (srcPos := zJ 0) (destPos := zJ 0) (n := zJ (n : Int)) (by rw [hT]; exact hc0) (by rw [hT]; exact hc1)
    (fun _ h => by cases h) (fun _ h => by cases h) (fun h => by cases h) (fun h => by cases h) hq0 hq1 hkk0 hkk1 (by simp [refKind]) z0 z0 zn0
    (by rw [zn, arrV_size]; show ¬ (0 : Int) + n > n0; omega)
    (by rw [zn, arrV_size]; show ¬ (0 : Int) + n > n1; omega)
    (fun vm₁ _ i hi => by
      rw [znn] at hi
      have e : (arrV (gy Γ 2) n0 (fun j => Value.int (zJ (σ k0 j)))).slots.getD ((zJ 0).toNatClampNeg + i) .null = .int (zJ (σ k0 i)) := by
        rw [zz, Nat.zero_add, Array.getD_eq_getD_getElem?, arrV_read _ _ (by omega)]
        rfl
      refine ⟨?_, ?_⟩
      · rw [e]
        exact hfit _
      · rw [e]
        exact trivial)
    (g := F0 (gm Γ) pc ls (.int (zJ (n : Int)) :: .int (zJ 0) :: .ref (ga Γ k1) :: .int (zJ 0) :: .ref (ga Γ k0) :: st)) rfl (by rw [G.2.2.1]; exact hl.1) (rest := st) rfl (by rw [G.2.1]; exact hd) (by rw [hR]; exact hr.1) (by rw [hR]; show 2 * 0 + _ + _ ≤ _; have := hr.2; omega)
  have e1 : copied (arrV (gy Γ 2) n0 (fun j => .int (zJ (σ k0 j)))) (arrV (gy Γ 2) n1 (fun j => .int (zJ (σ k1 j)))) (zJ 0) (zJ 0) (zJ (n : Int)) = arrV (gy Γ 2) n1 (fun j => .int (zJ ((fun j => if j < n then σ k0 j else σ k1 j) j))) := by
    have e2 := va_copied (fun z : Value => z) (gy Γ 2) (gy Γ 2) (n0 := n0) (n1 := n1) (sp := 0) (dp := 0) (n := n) (fun j => .int (zJ (σ k0 j))) (fun j => .int (zJ (σ k1 j))) (by omega)
    have e3 : copied (arrV (gy Γ 2) n0 (fun j => .int (zJ (σ k0 j)))) (arrV (gy Γ 2) n1 (fun j => .int (zJ (σ k1 j)))) (zJ 0) (zJ 0) (zJ (n : Int)) = (arrV (gy Γ 2) n1 (fun j => .int (zJ (σ k1 j)))).storeRun 0 ((arrV (gy Γ 2) n0 (fun j => .int (zJ (σ k0 j)))).stretch 0 n) := by
      unfold copied
      rw [znn, zz]
    rw [e3]
    refine e2.trans (arrV_congr fun j _ => ?_)
    show va_cpy _ _ 0 0 n j = _
    unfold va_cpy
    by_cases hj : j < n
    · rw [if_pos ⟨Nat.zero_le _, by omega⟩]
      simp only [hj, if_true, Nat.zero_add, Nat.sub_zero]
    · rw [if_neg (fun q => hj (by omega))]
      simp only [hj, if_false]
  rw [e1] at X' step
  have hlt : ga Γ k1 < H.size := (Array.getElem?_eq_some_iff.mp hc1).1
  have hheap : ((T.setVm vm').setCell (ga Γ k1) (arrV (gy Γ 2) n1 (fun j => .int (zJ ((fun j => if j < n then σ k0 j else σ k1 j) j))))).heap = H.setIfInBounds (ga Γ k1) (arrV (gy Γ 2) n1 (fun j => .int (zJ ((fun j => if j < n then σ k0 j else σ k1 j) j)))) := by rw [← hT]; rfl
  have oq : ∀ q : Nat, q ≠ ga Γ k1 → (H.setIfInBounds (ga Γ k1) (arrV (gy Γ 2) n1 (fun j => Value.int (zJ ((fun j => if j < n then σ k0 j else σ k1 j) j)))))[q]? = H[q]? := fun q hq => by simp [Array.getElem?_setIfInBounds, Ne.symm hq]
  have hAk := hA.2 k1 _ hk1 (hN k1 _ hk1 trivial)
  obtain ⟨g1, g2⟩ := hW.setRow (r := fun j => if j < n then σ k0 j else σ k1 j) hN hA hg hk1 trivial (zC_byt.mpr (show (H.setIfInBounds (ga Γ k1) (arrV (gy Γ 2) n1 (fun j => Value.int (zJ ((fun j => if j < n then σ k0 j else σ k1 j) j)))))[ga Γ k1]? = some _ by simp [Array.getElem?_setIfInBounds, hlt])) oq
  obtain ⟨t, a1, b1⟩ := k9 _ _ ls g1 g2 ⟨by simp; exact hS.1, fun q x1 x2 => by
      rw [oq q (fun e => x2 (by rw [e]; exact hAk))]
      exact hS.2.1 q x1 x2, fun q hq => by
      rcases List.mem_append.mp hq with h | h
      · exact hS.2.2 q h
      · obtain ⟨z, -, hz⟩ := List.mem_map.mp h
        rw [← hz]
        exact hAk⟩ hl _ hheap X'
  exact ⟨t, step t a1, b1⟩
theorem p_valB {m1 idx : Nat} (G : Gd Γ cc own nL rm (shB m1)) (hd : decode cc pc = .ok (.getfield idx, 3)) (hL : FLU own idx 1 0) (k : PT Γ nL (shB m1) (pc + 3) σ lv (.ref (ga Γ 1) :: st)) : PT Γ nL (shB m1) pc σ lv (.ref (ga Γ 0) :: st) := p_getU G hd hL (k := 0) rfl rfl k
theorem p_fldB {m1 idx j : Nat} (G : Gd Γ cc own nL rm (shB m1)) (hj : zt ([5, 0, 0, 0], 0, 0) j = 0) (hd : decode cc pc = .ok (.getfield idx, 3)) (hL : FLU own idx 1 j) (k : PT Γ nL (shB m1) (pc + 3) σ lv (.int (zJ (σ 0 j)) :: st)) : PT Γ nL (shB m1) pc σ lv (.ref (ga Γ 0) :: st) := p_getU G hd hL (k := 0) rfl rfl (by rw [hj]; exact k)
end SBN
