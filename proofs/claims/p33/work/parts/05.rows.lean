/-! The constant texts -/
def zsN : Nat := 14
def zsM : Nat := 14
def zsLen : List Nat := [60, 5, 4, 5, 4, 4, 5, 4, 27, 31, 6, 1, 1, 3]
def zsByt : List (List Int32) := [[99, 97, 114, 100, 115, 32, 49, 32, 55, 32, 49, 48, 32, 49, 48, 48, 59, 32, 100, 101, 99, 107, 32, 49, 50, 32, 48, 32, 49, 32, 50, 54, 32, 51, 57, 32, 49, 51, 32, 52, 53, 32, 50, 53, 32, 49, 49, 32, 50, 52, 32, 50, 32, 51, 32, 52, 32, 51, 48, 59], [99, 97, 114, 100, 115], [100, 101, 99, 107], [115, 116, 111, 99, 107], [112, 105, 108, 101], [100, 114, 111, 112], [107, 110, 111, 99, 107], [100, 101, 97, 108], [116, 104, 101, 32, 112, 108, 97, 121, 101, 114, 32, 104, 97, 115, 32, 110, 111, 32, 115, 117, 99, 104, 32, 99, 97, 114, 100], [97, 110, 32, 97, 114, 103, 117, 109, 101, 110, 116, 32, 105, 115, 32, 111, 117, 116, 32, 111, 102, 32, 105, 116, 115, 32, 114, 97, 110, 103, 101], [99, 97, 114, 100, 115, 32], [32], [59], [32, 62, 32]]
def zsU : List Nat := [0, 1, 2, 10, 11, 12, 13, 3, 4, 5, 6, 7, 9, 8]
def zsOwn : List String := ["WrapRuns", "WrapRuns$Reader", "WrapRuns$Reader", "WrapRunsLaw", "WrapRunsLaw", "WrapRunsLaw", "java/util/Arrays", "WrapRuns$Reader", "WrapRuns$Reader", "WrapRuns$Reader", "WrapRuns$Reader", "WrapRuns$Reader", "WrapRuns", "WrapRuns"]
def zsIdx : List Nat := [58, 67, 104, 65, 79, 81, 337, 138, 140, 142, 144, 146, 315, 320]
def zsTx : List String := ["cards 1 7 10 100; deck 12 0 1 26 39 13 45 25 11 24 2 3 4 30;", "cards", "deck", "cards ", " ", ";", " > ", "stock", "pile", "drop", "knock", "deal", "an argument is out of its range", "the player has no such card"]
/-! The words of the tables that stay -/
def GT : List Cond := lw_tbl.filter goodWord
theorem gt_mem {w : Cond} (i : Nat) (h : lw_tbl[i]? = some w) (hg : goodWord w = true) : w ∈ GT := List.mem_filter.mpr ⟨List.mem_of_getElem? h, hg⟩
theorem gt_good {w : Cond} (h : w ∈ GT) : goodWord w = true := (List.mem_filter.mp h).2
theorem gt_in {w : Cond} (h : w ∈ GT) : w ∈ lw_tbl := (List.mem_filter.mp h).1
theorem gt_sub {ws : List Cond} (h : ∀ w ∈ ws, w ∈ GT) : GoodIn GT ws := fun w hw => ⟨h w hw, good_of_word (gt_good (h w hw))⟩
/-- the words on nest mates, which stay too -/
def isN : Cond → Bool
  | .fieldLinkNest _ _ _ _ _ _ => true
  | .methodLinkNest _ _ _ _ => true
  | .castable _ _ => true
  | .declares _ => true
  | _ => false
def NT : List Cond := lw_tbl.filter isN
theorem nt_mem {w : Cond} (i : Nat) (h : lw_tbl[i]? = some w) (hg : isN w = true) : w ∈ NT := List.mem_filter.mpr ⟨List.mem_of_getElem? h, hg⟩
theorem nt_on {w : Cond} (h : w ∈ NT) : w.onTables = true := by
  have h1 := (List.mem_filter.mp h).2
  cases w <;> first | rfl | (simp [isN] at h1)
theorem nt_warm {w : Cond} (h : w ∈ NT) {s U : State} (hW : s.WarmedH U.vm) (hZ : va_Nw w s) : va_Nw w U := by
  have h1 := (List.mem_filter.mp h).2
  cases w <;> first | (simp [isN] at h1; done) | exact va_Nw.warmF hW hZ | exact va_Nw.warmM hW hZ | exact va_Nw.warmC hW hZ | exact va_Nw.warmD hW hZ
/-- the law's script and the digits' tables, which lie outside every world: the script's cell k 1000, of k 1001 ints, v (1000 + j) -/
def SX (k v : Nat → Nat) (A : Nat → Prop) (U : State) (H : Heap) : Prop := (va_T .int (k 1000) (k 1001) (fun j => .int (zJ ((v (1000 + j) : Nat) : Int))) A U H ∧ k 1001 ≤ 260) ∧ (va_Z "java/lang/Integer" "DigitOnes" "[B" (.ref (k 1002)) A U H ∧ va_T .byte (k 1002) 100 (fun j => .int (zJ ((48 + j % 10 : Nat) : Int))) A U H) ∧ va_Z "java/lang/Integer" "DigitTens" "[B" (.ref (k 1003)) A U H ∧ va_T .byte (k 1003) 100 (fun j => .int (zJ ((48 + j / 10 : Nat) : Int))) A U H
theorem SX.moved {k v : Nat → Nat} {A : Nat → Prop} {u U : State} {H : Heap} (hvm : u.vm.Alike U.vm) (h : SX k v A u H) : SX k v A U H := ⟨⟨h.1.1.moved hvm, h.1.2⟩, ⟨h.2.1.1.moved hvm, h.2.1.2.moved hvm⟩, h.2.2.1.moved hvm, h.2.2.2.moved hvm⟩
theorem SX.kept {k v : Nat → Nat} {A : Nat → Prop} {U : State} {H H1 : Heap} (h : SX k v A U H) (hq : ∀ a : Nat, a < H.size → ¬ A a → H1[a]? = H[a]?) : SX k v A U H1 := ⟨⟨h.1.1.kept hq, h.1.2⟩, ⟨h.2.1.1.kept hq, h.2.1.2.kept hq⟩, h.2.2.1.kept hq, h.2.2.2.kept hq⟩
theorem SX.narrow {k v : Nat → Nat} {A B : Nat → Prop} {U : State} {H : Heap} (h : SX k v A U H) (hAB : ∀ q, B q → A q) : SX k v B U H := ⟨⟨h.1.1.narrow hAB, h.1.2⟩, ⟨h.2.1.1.narrow hAB, h.2.1.2.narrow hAB⟩, h.2.2.1.narrow hAB, h.2.2.2.narrow hAB⟩
/-- the class of the rows of matches, and what is not castable -/
def va_R2 (U : State) : Prop := va_AO RX2 U ∧ va_Nc "java/util/NoSuchElementException" "java/lang/IllegalArgumentException" U
theorem va_R2.moved {u U : State} (hvm : u.vm.Alike U.vm) (h : va_R2 u) : va_R2 U := ⟨va_AO.moved hvm h.1, va_Nc.moved hvm h.2⟩
/-- what lies outside every world: the constant texts, the JDK's statics -/
def OX (k v : Nat → Nat) (A : Nat → Prop) (U : State) (H : Heap) : Prop := vk_S zsN zsLen zsByt k v A U H ∧ (∀ i : Nat, i < zsM → vk_R (zsOwn.getD i "") (zsIdx.getD i 0) (zsTx.getD i "") (k (zsU.getD i 0)) U) ∧ va_Z "java/lang/String" "COMPACT_STRINGS" "Z" (.int 1) A U H ∧ va_Zq "jdk/internal/util/Preconditions" "SIOOBE_FORMATTER" "Ljava/util/function/BiFunction;" A U H ∧ vx_Zq Bundle.tN "UNASSIGNED_STACK" Bundle.steD A U H ∧ vx_Zq Bundle.tN "SUPPRESSED_SENTINEL" Bundle.listD A U H ∧ (∀ w ∈ NT, va_Nw w U) ∧ va_R2 U ∧ SX k v A U H
theorem OX.warm {k v : Nat → Nat} {A : Nat → Prop} {s U : State} {H : Heap} (hW : s.WarmedH U.vm) (h : OX k v A s H) : OX k v A U H := ⟨h.1.moved hW.alike, fun i hi => (h.2.1 i hi).warm hW, h.2.2.1.moved hW.alike, h.2.2.2.1.moved hW.alike, h.2.2.2.2.1.moved hW.alike, h.2.2.2.2.2.1.moved hW.alike, fun w hw => nt_warm hw hW (h.2.2.2.2.2.2.1 w hw), h.2.2.2.2.2.2.2.1.moved hW.alike, h.2.2.2.2.2.2.2.2.moved hW.alike⟩
theorem OX.same {k v : Nat → Nat} {A : Nat → Prop} {s U : State} {H : Heap} (hv : U.vm = s.vm) (h : OX k v A s H) : OX k v A U H := ⟨h.1.moved (by rw [hv]; exact Vm.Alike.refl _), fun i hi => (h.2.1 i hi).same hv, h.2.2.1.moved (by rw [hv]; exact Vm.Alike.refl _), h.2.2.2.1.moved (by rw [hv]; exact Vm.Alike.refl _), h.2.2.2.2.1.moved (by rw [hv]; exact Vm.Alike.refl _), h.2.2.2.2.2.1.moved (by rw [hv]; exact Vm.Alike.refl _), fun w hw => va_Nw.same (nt_on hw) hv.symm (h.2.2.2.2.2.2.1 w hw), h.2.2.2.2.2.2.2.1.moved (by rw [hv]; exact Vm.Alike.refl _), h.2.2.2.2.2.2.2.2.moved (by rw [hv]; exact Vm.Alike.refl _)⟩
theorem OX.kept {k v : Nat → Nat} {A : Nat → Prop} {U : State} {H H1 : Heap} (h : OX k v A U H) (hq : ∀ a : Nat, a < H.size → ¬ A a → H1[a]? = H[a]?) : OX k v A U H1 := ⟨h.1.kept hq, h.2.1, h.2.2.1.kept hq, h.2.2.2.1.kept hq, h.2.2.2.2.1.kept hq, h.2.2.2.2.2.1.kept hq, h.2.2.2.2.2.2.1, h.2.2.2.2.2.2.2.1, h.2.2.2.2.2.2.2.2.kept hq⟩
theorem OX.narrow {k v : Nat → Nat} {A B : Nat → Prop} {U : State} {H : Heap} (h : OX k v A U H) (hAB : ∀ q, B q → A q) : OX k v B U H := ⟨h.1.narrow hAB, h.2.1, h.2.2.1.narrow hAB, h.2.2.2.1.narrow hAB, h.2.2.2.2.1.narrow hAB, h.2.2.2.2.2.1.narrow hAB, h.2.2.2.2.2.2.1, h.2.2.2.2.2.2.2.1, h.2.2.2.2.2.2.2.2.narrow hAB⟩
/-- where a walk stands: program, launch, environment, room, start, method, arguments, frames below, the method's own, classes, array classes, the constant texts' cells and bytes, addresses, own cells, the memory at first, cells and slots made, goal -/
abbrev Cx : Type := Program × Launch × Env × Room × State × MethodId × Array Value × List Frame × Method × Code × va_G × (Nat → ClassId) × (Nat → Nat) × (Nat → Nat) × (Nat → Nat) × (Nat → Prop) × Mm × Nat × Nat × (State → Prop)
abbrev gp (Γ : Cx) : Program := Γ.1
abbrev gl (Γ : Cx) : Launch := Γ.2.1
abbrev ge (Γ : Cx) : Env := Γ.2.2.1
abbrev gR (Γ : Cx) : Room := Γ.2.2.2.1
abbrev gs (Γ : Cx) : State := Γ.2.2.2.2.1
abbrev gm (Γ : Cx) : MethodId := Γ.2.2.2.2.2.1
abbrev gargs (Γ : Cx) : Array Value := Γ.2.2.2.2.2.2.1
abbrev gbelow (Γ : Cx) : List Frame := Γ.2.2.2.2.2.2.2.1
abbrev gmeth (Γ : Cx) : Method := Γ.2.2.2.2.2.2.2.2.1
abbrev gc (Γ : Cx) : Code := Γ.2.2.2.2.2.2.2.2.2.1
abbrev gD (Γ : Cx) : va_G := Γ.2.2.2.2.2.2.2.2.2.2.1
abbrev gy (Γ : Cx) : Nat → ClassId := Γ.2.2.2.2.2.2.2.2.2.2.2.1
abbrev gk (Γ : Cx) : Nat → Nat := Γ.2.2.2.2.2.2.2.2.2.2.2.2.1
abbrev gv (Γ : Cx) : Nat → Nat := Γ.2.2.2.2.2.2.2.2.2.2.2.2.2.1
abbrev ga (Γ : Cx) : Nat → Nat := Γ.2.2.2.2.2.2.2.2.2.2.2.2.2.2.1
abbrev gA (Γ : Cx) : Nat → Prop := Γ.2.2.2.2.2.2.2.2.2.2.2.2.2.2.2.1
abbrev go (Γ : Cx) : Mm := Γ.2.2.2.2.2.2.2.2.2.2.2.2.2.2.2.2.1
abbrev gmc (Γ : Cx) : Nat := Γ.2.2.2.2.2.2.2.2.2.2.2.2.2.2.2.2.2.1
abbrev gms (Γ : Cx) : Nat := Γ.2.2.2.2.2.2.2.2.2.2.2.2.2.2.2.2.2.2.1
abbrev gQ (Γ : Cx) : State → Prop := Γ.2.2.2.2.2.2.2.2.2.2.2.2.2.2.2.2.2.2.2
abbrev gW (Γ : Cx) (H : Heap) (locs : List Loc) (pc : Nat) (ls : Array Slot) (st : List Value) : Prop := W (gp Γ) (gl Γ) (ge Γ) (gR Γ) (gs Γ) (gm Γ) (gargs Γ) (gbelow Γ) (gmeth Γ) (gc Γ) H locs (gmc Γ) (gms Γ) (gQ Γ) (F0 (gm Γ) pc ls st)
def zty (y : Nat → ClassId) : List (ClassId × FieldType) := [(y 0, .int), (y 1, .long), (y 2, .byte), (y 3, .int), (y 4, .object RX2)]
/-- what a walk always has: code, class, locals, room, words, classes, cells apart -/
def Gd (Γ : Cx) (cc : ByteArray) (own : String) (nL : Nat) (rm : Room) (sh : Sh) : Prop :=
  (gp Γ).tables.exec = Jvm.exec ∧ (gc Γ).code = cc ∧ (gc Γ).maxLocals = nL ∧ (gs Γ).vm.findClass own = some (gm Γ).cls ∧ (∀ w ∈ GT, w.before (gargs Γ) (gs Γ) = true) ∧ va_K (gD Γ) vwCl (zty (gy Γ)) (gs Γ) ∧ AP (gA Γ) sh (ga Γ) (go Γ) ∧ (∀ q, (gs Γ).heap.size ≤ q → gA Γ q) ∧ gR Γ = rm ∧ (gmeth Γ).locks = false ∧ OX (gk Γ) (gv Γ) (gA Γ) (gs Γ) (gs Γ).heap
/-- at pc, with memory σ, locals and stack, the goal is reached -/
def PT (Γ : Cx) (nL : Nat) (sh : Sh) (pc : Nat) (σ : Mm) (lv : List (Nat × Value)) (st : List Value) : Prop :=
  ∀ (H : Heap) (locs : List Loc) (ls : Array Slot), HW (gD Γ) (gy Γ) sh (ga Γ) σ H → NE sh (go Γ) σ → va_S (gA Γ) (gs Γ).heap H locs → lv_has ls nL lv → gW Γ H locs pc ls st
theorem gd_n {Γ : Cx} {cc : ByteArray} {own : String} {nL : Nat} {rm : Room} {sh : Sh} (G : Gd Γ cc own nL rm sh) {w : Cond} (h : w ∈ NT) : w.before (gargs Γ) (gs Γ) = true := va_Nw.use (nt_on h) (G.2.2.2.2.2.2.2.2.2.2.2.2.2.2.2.2.1 w h)
section RWS
variable {Γ : Cx} {cc : ByteArray} {own : String} {nL : Nat} {rm : Room} {sh : Sh} {pc : Nat} {σ : Mm} {lv : List (Nat × Value)} {st : List Value}
theorem p_iconst (G : Gd Γ cc own nL rm sh) {n x : Int} (hx : n = x) (hd : decode cc pc = .ok (.iconst n, 1)) (k : PT Γ nL sh (pc + 1) σ lv (.int (zJ x) :: st)) : PT Γ nL sh pc σ lv st := fun H locs ls hW hN hS hl => by
  have k := k H locs ls hW hN hS hl
  subst hx
  exact lv_iconst G.1 G.2.1 hd rfl k
theorem zJ_byte {n : Int} (h : -128 ≤ n) (h2 : n ≤ 127) : (Int8.ofInt n).toInt32 = zJ n := by
  apply Int32.toInt_inj.mp
  rw [Int8.toInt_toInt32, Int8.toInt_ofInt]
  show _ = zw n
  rw [zw_eq (by omega) (by omega)]
  simp only [Int.bmod]
  have : ((Int8.size : Nat) : Int) = 256 := by decide
  rw [this]
  split <;> omega
theorem zJ_short {n : Int} (h : -32768 ≤ n) (h2 : n ≤ 32767) : (Int16.ofInt n).toInt32 = zJ n := by
  apply Int32.toInt_inj.mp
  rw [Int16.toInt_toInt32, Int16.toInt_ofInt]
  show _ = zw n
  rw [zw_eq (by omega) (by omega)]
  simp only [Int.bmod]
  have : ((Int16.size : Nat) : Int) = 65536 := by decide
  rw [this]
  split <;> omega
theorem p_bipush (G : Gd Γ cc own nL rm sh) {n : Int} (h1 : -128 ≤ n) (h2 : n ≤ 127) (hd : decode cc pc = .ok (.bipush n, 2)) (k : PT Γ nL sh (pc + 2) σ lv (.int (zJ n) :: st)) : PT Γ nL sh pc σ lv st := fun H locs ls hW hN hS hl => by
  have k := k H locs ls hW hN hS hl
  exact lv_bipush G.1 G.2.1 hd (zJ_byte h1 h2) k
theorem p_sipush (G : Gd Γ cc own nL rm sh) {n : Int} (h1 : -32768 ≤ n) (h2 : n ≤ 32767) (hd : decode cc pc = .ok (.sipush n, 3)) (k : PT Γ nL sh (pc + 3) σ lv (.int (zJ n) :: st)) : PT Γ nL sh pc σ lv st := fun H locs ls hW hN hS hl => by
  have k := k H locs ls hW hN hS hl
  exact lv_sipush G.1 G.2.1 hd (zJ_short h1 h2) k
theorem p_lconst (G : Gd Γ cc own nL rm sh) {n : Fin 2} {v : Int64} (hv : Int64.ofNat (n : Nat) = v) (hd : decode cc pc = .ok (.lconst n, 1)) (k : PT Γ nL sh (pc + 1) σ lv (.long v :: st)) : PT Γ nL sh pc σ lv st := fun H locs ls hW hN hS hl => by
  have k := k H locs ls hW hN hS hl
  exact lv_lconst G.1 G.2.1 hd hv k
theorem p_ldc2 (G : Gd Γ cc own nL rm sh) {idx : Nat} {v : Int64} (hc : Jvm.Cond.constantLong own idx v ∈ GT) (hd : decode cc pc = .ok (.ldc2_w idx, 3)) (k : PT Γ nL sh (pc + 3) σ lv (.long v :: st)) : PT Γ nL sh pc σ lv st := fun H locs ls hW hN hS hl => by
  have k := k H locs ls hW hN hS hl
  exact lv_ldc2 G.1 G.2.1 G.2.2.2.1 (G.2.2.2.2.1 _ hc) hd k
theorem p_ldc (G : Gd Γ cc own nL rm sh) {idx : Nat} {v : Int32} {x : Int} (hc : Jvm.Cond.constant own idx v ∈ GT) (hv : v = zJ x) (hd : decode cc pc = .ok (.ldc idx, 2)) (k : PT Γ nL sh (pc + 2) σ lv (.int (zJ x) :: st)) : PT Γ nL sh pc σ lv st := fun H locs ls hW hN hS hl => by
  have k := k H locs ls hW hN hS hl
  subst hv
  exact lv_ldc G.1 G.2.1 G.2.2.2.1 (G.2.2.2.2.1 _ hc) hd k
theorem p_iload_n (G : Gd Γ cc own nL rm sh) {f : Fin 4} {i : Nat} {x : Int} (hi : (f : Nat) = i) (q : Nat) (hq : lv[q]? = some (i, .int (zJ x))) (hd : decode cc pc = .ok (.iload_n f, 1)) (k : PT Γ nL sh (pc + 1) σ lv (.int (zJ x) :: st)) : PT Γ nL sh pc σ lv st := fun H locs ls hW hN hS hl => by
  have k := k H locs ls hW hN hS hl
  exact lv_iload_n G.1 G.2.1 hd hi (lv_at hl q hq) k
theorem p_iload (G : Gd Γ cc own nL rm sh) {i : Nat} {x : Int} (q : Nat) (hq : lv[q]? = some (i, .int (zJ x))) (hd : decode cc pc = .ok (.iload i, 2)) (k : PT Γ nL sh (pc + 2) σ lv (.int (zJ x) :: st)) : PT Γ nL sh pc σ lv st := fun H locs ls hW hN hS hl => by
  have k := k H locs ls hW hN hS hl
  exact lv_iload G.1 G.2.1 hd (lv_at hl q hq) k
theorem p_lload_n (G : Gd Γ cc own nL rm sh) {f : Fin 4} {i : Nat} {x : Int64} (hi : (f : Nat) = i) (q : Nat) (hq : lv[q]? = some (i, .long x)) (hd : decode cc pc = .ok (.lload_n f, 1)) (k : PT Γ nL sh (pc + 1) σ lv (.long x :: st)) : PT Γ nL sh pc σ lv st := fun H locs ls hW hN hS hl => by
  have k := k H locs ls hW hN hS hl
  exact lv_lload_n G.1 G.2.1 hd hi (lv_at hl q hq) k
theorem p_lload (G : Gd Γ cc own nL rm sh) {i : Nat} {x : Int64} (q : Nat) (hq : lv[q]? = some (i, .long x)) (hd : decode cc pc = .ok (.lload i, 2)) (k : PT Γ nL sh (pc + 2) σ lv (.long x :: st)) : PT Γ nL sh pc σ lv st := fun H locs ls hW hN hS hl => by
  have k := k H locs ls hW hN hS hl
  exact lv_lload G.1 G.2.1 hd (lv_at hl q hq) k
theorem p_aload_n (G : Gd Γ cc own nL rm sh) {f : Fin 4} {i : Nat} {b : Nat} (hi : (f : Nat) = i) (q : Nat) (hq : lv[q]? = some (i, .ref b)) (hd : decode cc pc = .ok (.aload_n f, 1)) (k : PT Γ nL sh (pc + 1) σ lv (.ref b :: st)) : PT Γ nL sh pc σ lv st := fun H locs ls hW hN hS hl => by
  have k := k H locs ls hW hN hS hl
  exact lv_aload_n G.1 G.2.1 hd hi (lv_at hl q hq) k
theorem p_aload (G : Gd Γ cc own nL rm sh) {i : Nat} {b : Nat} (q : Nat) (hq : lv[q]? = some (i, .ref b)) (hd : decode cc pc = .ok (.aload i, 2)) (k : PT Γ nL sh (pc + 2) σ lv (.ref b :: st)) : PT Γ nL sh pc σ lv st := fun H locs ls hW hN hS hl => by
  have k := k H locs ls hW hN hS hl
  exact lv_aload G.1 G.2.1 hd (lv_at hl q hq) k
theorem p_fload (G : Gd Γ cc own nL rm sh) {i : Nat} {x : UInt32} (q : Nat) (hq : lv[q]? = some (i, .float x)) (hd : decode cc pc = .ok (.fload i, 2)) (k : PT Γ nL sh (pc + 2) σ lv (.float x :: st)) : PT Γ nL sh pc σ lv st := fun H locs ls hW hN hS hl => by
  have k := k H locs ls hW hN hS hl
  exact lv_fload G.1 G.2.1 hd (lv_at hl q hq) k
theorem p_dload (G : Gd Γ cc own nL rm sh) {i : Nat} {x : UInt64} (q : Nat) (hq : lv[q]? = some (i, .double x)) (hd : decode cc pc = .ok (.dload i, 2)) (k : PT Γ nL sh (pc + 2) σ lv (.double x :: st)) : PT Γ nL sh pc σ lv st := fun H locs ls hW hN hS hl => by
  have k := k H locs ls hW hN hS hl
  exact lv_dload G.1 G.2.1 hd (lv_at hl q hq) k
theorem p_istore_n {β : Type} (G : Gd Γ cc own nL rm sh) {f : Fin 4} {i : Nat} (hi : (f : Nat) = i) {x : Int} {kk : Int → Option β} {out : β} {lv' : Int → List (Nat × Value)} (hd : decode cc pc = .ok (.istore_n f, 1)) (h : bnd x kk = some out) (hn : i < nL) (hlv : ∀ x : Int, (i, .int (zJ x)) :: lv.filter (fun q => !(q.1 == i) && !(q.1 + 1 == i && q.2.category == 2)) = lv' x) (k : ∀ x : Int, kk x = some out → PT Γ nL sh (pc + 1) σ (lv' x) st) : PT Γ nL sh pc σ lv (.int (zJ x) :: st) := fun H locs ls hW hN hS hl =>
  lv_istore_n G.1 G.2.1 hd hi hl hn (hlv x) (fun ls' hl' => k x h H locs ls' hW hN hS hl')
theorem p_istore_nU (G : Gd Γ cc own nL rm sh) {f : Fin 4} {i : Nat} (hi : (f : Nat) = i) {x : Int} {lv' : List (Nat × Value)} (hd : decode cc pc = .ok (.istore_n f, 1)) (hn : i < nL) (hlv : (i, .int (zJ x)) :: lv.filter (fun q => !(q.1 == i) && !(q.1 + 1 == i && q.2.category == 2)) = lv') (k : PT Γ nL sh (pc + 1) σ lv' st) : PT Γ nL sh pc σ lv (.int (zJ x) :: st) := fun H locs ls hW hN hS hl =>
  lv_istore_n G.1 G.2.1 hd hi hl hn hlv (fun ls' hl' => k H locs ls' hW hN hS hl')
theorem p_istore {β : Type} (G : Gd Γ cc own nL rm sh) {i : Nat} {x : Int} {kk : Int → Option β} {out : β} {lv' : Int → List (Nat × Value)} (hd : decode cc pc = .ok (.istore i, 2)) (h : bnd x kk = some out) (hn : i < nL) (hlv : ∀ x : Int, (i, .int (zJ x)) :: lv.filter (fun q => !(q.1 == i) && !(q.1 + 1 == i && q.2.category == 2)) = lv' x) (k : ∀ x : Int, kk x = some out → PT Γ nL sh (pc + 2) σ (lv' x) st) : PT Γ nL sh pc σ lv (.int (zJ x) :: st) := fun H locs ls hW hN hS hl =>
  lv_istore G.1 G.2.1 hd hl hn (hlv x) (fun ls' hl' => k x h H locs ls' hW hN hS hl')
theorem p_istoreU (G : Gd Γ cc own nL rm sh) {i : Nat} {x : Int} {lv' : List (Nat × Value)} (hd : decode cc pc = .ok (.istore i, 2)) (hn : i < nL) (hlv : (i, .int (zJ x)) :: lv.filter (fun q => !(q.1 == i) && !(q.1 + 1 == i && q.2.category == 2)) = lv') (k : PT Γ nL sh (pc + 2) σ lv' st) : PT Γ nL sh pc σ lv (.int (zJ x) :: st) := fun H locs ls hW hN hS hl =>
  lv_istore G.1 G.2.1 hd hl hn hlv (fun ls' hl' => k H locs ls' hW hN hS hl')
theorem p_lstore_n {β : Type} (G : Gd Γ cc own nL rm sh) {f : Fin 4} {i : Nat} (hi : (f : Nat) = i) {x : Int64} {kk : Int64 → Option β} {out : β} {lv' : Int64 → List (Nat × Value)} (hd : decode cc pc = .ok (.lstore_n f, 1)) (h : bnd x kk = some out) (hn : i + 1 < nL) (hlv : ∀ x : Int64, (i, .long x) :: lv.filter (fun q => !(q.1 == i) && (!(q.1 == i + 1) && !(q.1 + 1 == i && q.2.category == 2))) = lv' x) (k : ∀ x : Int64, kk x = some out → PT Γ nL sh (pc + 1) σ (lv' x) st) : PT Γ nL sh pc σ lv (.long x :: st) := fun H locs ls hW hN hS hl =>
  lv_lstore_n G.1 G.2.1 hd hi hl hn (hlv x) (fun ls' hl' => k x h H locs ls' hW hN hS hl')
theorem p_lstore_nU (G : Gd Γ cc own nL rm sh) {f : Fin 4} {i : Nat} (hi : (f : Nat) = i) {x : Int64} {lv' : List (Nat × Value)} (hd : decode cc pc = .ok (.lstore_n f, 1)) (hn : i + 1 < nL) (hlv : (i, .long x) :: lv.filter (fun q => !(q.1 == i) && (!(q.1 == i + 1) && !(q.1 + 1 == i && q.2.category == 2))) = lv') (k : PT Γ nL sh (pc + 1) σ lv' st) : PT Γ nL sh pc σ lv (.long x :: st) := fun H locs ls hW hN hS hl =>
  lv_lstore_n G.1 G.2.1 hd hi hl hn hlv (fun ls' hl' => k H locs ls' hW hN hS hl')
theorem p_lstore {β : Type} (G : Gd Γ cc own nL rm sh) {i : Nat} {x : Int64} {kk : Int64 → Option β} {out : β} {lv' : Int64 → List (Nat × Value)} (hd : decode cc pc = .ok (.lstore i, 2)) (h : bnd x kk = some out) (hn : i + 1 < nL) (hlv : ∀ x : Int64, (i, .long x) :: lv.filter (fun q => !(q.1 == i) && (!(q.1 == i + 1) && !(q.1 + 1 == i && q.2.category == 2))) = lv' x) (k : ∀ x : Int64, kk x = some out → PT Γ nL sh (pc + 2) σ (lv' x) st) : PT Γ nL sh pc σ lv (.long x :: st) := fun H locs ls hW hN hS hl =>
  lv_lstore G.1 G.2.1 hd hl hn (hlv x) (fun ls' hl' => k x h H locs ls' hW hN hS hl')
theorem p_lstoreU (G : Gd Γ cc own nL rm sh) {i : Nat} {x : Int64} {lv' : List (Nat × Value)} (hd : decode cc pc = .ok (.lstore i, 2)) (hn : i + 1 < nL) (hlv : (i, .long x) :: lv.filter (fun q => !(q.1 == i) && (!(q.1 == i + 1) && !(q.1 + 1 == i && q.2.category == 2))) = lv') (k : PT Γ nL sh (pc + 2) σ lv' st) : PT Γ nL sh pc σ lv (.long x :: st) := fun H locs ls hW hN hS hl =>
  lv_lstore G.1 G.2.1 hd hl hn hlv (fun ls' hl' => k H locs ls' hW hN hS hl')
theorem p_fstore {β : Type} (G : Gd Γ cc own nL rm sh) {i : Nat} {x : UInt32} {kk : UInt32 → Option β} {out : β} {lv' : UInt32 → List (Nat × Value)} (hd : decode cc pc = .ok (.fstore i, 2)) (h : bnd x kk = some out) (hn : i < nL) (hlv : ∀ x : UInt32, (i, .float x) :: lv.filter (fun q => !(q.1 == i) && !(q.1 + 1 == i && q.2.category == 2)) = lv' x) (k : ∀ x : UInt32, kk x = some out → PT Γ nL sh (pc + 2) σ (lv' x) st) : PT Γ nL sh pc σ lv (.float x :: st) := fun H locs ls hW hN hS hl =>
  lv_fstore G.1 G.2.1 hd hl hn (hlv x) (fun ls' hl' => k x h H locs ls' hW hN hS hl')
theorem p_fstoreU (G : Gd Γ cc own nL rm sh) {i : Nat} {x : UInt32} {lv' : List (Nat × Value)} (hd : decode cc pc = .ok (.fstore i, 2)) (hn : i < nL) (hlv : (i, .float x) :: lv.filter (fun q => !(q.1 == i) && !(q.1 + 1 == i && q.2.category == 2)) = lv') (k : PT Γ nL sh (pc + 2) σ lv' st) : PT Γ nL sh pc σ lv (.float x :: st) := fun H locs ls hW hN hS hl =>
  lv_fstore G.1 G.2.1 hd hl hn hlv (fun ls' hl' => k H locs ls' hW hN hS hl')
theorem p_dstore {β : Type} (G : Gd Γ cc own nL rm sh) {i : Nat} {x : UInt64} {kk : UInt64 → Option β} {out : β} {lv' : UInt64 → List (Nat × Value)} (hd : decode cc pc = .ok (.dstore i, 2)) (h : bnd x kk = some out) (hn : i + 1 < nL) (hlv : ∀ x : UInt64, (i, .double x) :: lv.filter (fun q => !(q.1 == i) && (!(q.1 == i + 1) && !(q.1 + 1 == i && q.2.category == 2))) = lv' x) (k : ∀ x : UInt64, kk x = some out → PT Γ nL sh (pc + 2) σ (lv' x) st) : PT Γ nL sh pc σ lv (.double x :: st) := fun H locs ls hW hN hS hl =>
  lv_dstore G.1 G.2.1 hd hl hn (hlv x) (fun ls' hl' => k x h H locs ls' hW hN hS hl')
theorem p_dstoreU (G : Gd Γ cc own nL rm sh) {i : Nat} {x : UInt64} {lv' : List (Nat × Value)} (hd : decode cc pc = .ok (.dstore i, 2)) (hn : i + 1 < nL) (hlv : (i, .double x) :: lv.filter (fun q => !(q.1 == i) && (!(q.1 == i + 1) && !(q.1 + 1 == i && q.2.category == 2))) = lv') (k : PT Γ nL sh (pc + 2) σ lv' st) : PT Γ nL sh pc σ lv (.double x :: st) := fun H locs ls hW hN hS hl =>
  lv_dstore G.1 G.2.1 hd hl hn hlv (fun ls' hl' => k H locs ls' hW hN hS hl')
theorem p_astore_n (G : Gd Γ cc own nL rm sh) {f : Fin 4} {i : Nat} (hi : (f : Nat) = i) {x : Nat} {lv' : List (Nat × Value)} (hd : decode cc pc = .ok (.astore_n f, 1)) (hn : i < nL) (hlv : (i, .ref x) :: lv.filter (fun q => !(q.1 == i) && !(q.1 + 1 == i && q.2.category == 2)) = lv') (k : PT Γ nL sh (pc + 1) σ lv' st) : PT Γ nL sh pc σ lv (.ref x :: st) := fun H locs ls hW hN hS hl =>
  lv_astore_n G.1 G.2.1 hd hi hl hn hlv (fun ls' hl' => k H locs ls' hW hN hS hl')
theorem p_astore (G : Gd Γ cc own nL rm sh) {i : Nat} {x : Nat} {lv' : List (Nat × Value)} (hd : decode cc pc = .ok (.astore i, 2)) (hn : i < nL) (hlv : (i, .ref x) :: lv.filter (fun q => !(q.1 == i) && !(q.1 + 1 == i && q.2.category == 2)) = lv') (k : PT Γ nL sh (pc + 2) σ lv' st) : PT Γ nL sh pc σ lv (.ref x :: st) := fun H locs ls hW hN hS hl =>
  lv_astore G.1 G.2.1 hd hl hn hlv (fun ls' hl' => k H locs ls' hW hN hS hl')
theorem p_iinc {β : Type} (G : Gd Γ cc own nL rm sh) {i : Nat} {n x : Int} {kk : Int → Option β} {out : β} {lv' : Int → List (Nat × Value)} (hd : decode cc pc = .ok (.iinc i n, 3)) (h : bnd (x + n) kk = some out) (q : Nat) (hq : lv[q]? = some (i, .int (zJ x))) (hn : i < nL) (hlv : ∀ x : Int, (i, .int (zJ x)) :: lv.filter (fun q => !(q.1 == i) && !(q.1 + 1 == i && q.2.category == 2)) = lv' x) (k : ∀ x : Int, kk x = some out → PT Γ nL sh (pc + 3) σ (lv' x) st) : PT Γ nL sh pc σ lv st := fun H locs ls hW hN hS hl =>
  lv_iinc (v := zJ (x + n)) G.1 G.2.1 hd hl hq (zJ_add x n) hn (hlv (x + n)) (fun ls' hl' => k (x + n) h H locs ls' hW hN hS hl')
theorem p_iadd (G : Gd Γ cc own nL rm sh) {x y : Int} (hd : decode cc pc = .ok (.iadd, 1)) (k : PT Γ nL sh (pc + 1) σ lv (.int (zJ (x + y)) :: st)) : PT Γ nL sh pc σ lv (.int (zJ y) :: .int (zJ x) :: st) := fun H locs ls hW hN hS hl => by
  have k := k H locs ls hW hN hS hl
  rw [← zJ_add] at k
  exact lv_iadd G.1 G.2.1 hd k
theorem p_isub (G : Gd Γ cc own nL rm sh) {x y : Int} (hd : decode cc pc = .ok (.isub, 1)) (k : PT Γ nL sh (pc + 1) σ lv (.int (zJ (x - y)) :: st)) : PT Γ nL sh pc σ lv (.int (zJ y) :: .int (zJ x) :: st) := fun H locs ls hW hN hS hl => by
  have k := k H locs ls hW hN hS hl
  rw [← zJ_sub] at k
  exact lv_isub G.1 G.2.1 hd k
theorem p_imul (G : Gd Γ cc own nL rm sh) {x y : Int} (hd : decode cc pc = .ok (.imul, 1)) (k : PT Γ nL sh (pc + 1) σ lv (.int (zJ (x * y)) :: st)) : PT Γ nL sh pc σ lv (.int (zJ y) :: .int (zJ x) :: st) := fun H locs ls hW hN hS hl => by
  have k := k H locs ls hW hN hS hl
  rw [← zJ_mul] at k
  exact lv_imul G.1 G.2.1 hd k
theorem p_ineg (G : Gd Γ cc own nL rm sh) {x : Int} (hd : decode cc pc = .ok (.ineg, 1)) (k : PT Γ nL sh (pc + 1) σ lv (.int (zJ (-x)) :: st)) : PT Γ nL sh pc σ lv (.int (zJ x) :: st) := fun H locs ls hW hN hS hl => by
  have k := k H locs ls hW hN hS hl
  rw [← zJ_neg] at k
  exact lv_ineg G.1 G.2.1 hd k
end RWS
def zand (x y : Int) : Int := (zJ x &&& zJ y).toInt
theorem zand_J (x y : Int) : zJ (zand x y) = zJ x &&& zJ y := zJ_toInt _
def zor (x y : Int) : Int := (zJ x ||| zJ y).toInt
theorem zor_J (x y : Int) : zJ (zor x y) = zJ x ||| zJ y := zJ_toInt _
def zxor (x y : Int) : Int := (zJ x ^^^ zJ y).toInt
theorem zxor_J (x y : Int) : zJ (zxor x y) = zJ x ^^^ zJ y := zJ_toInt _
def zshl (x y : Int) : Int := (zJ x <<< (zJ y &&& 31)).toInt
theorem zshl_J (x y : Int) : zJ (zshl x y) = zJ x <<< (zJ y &&& 31) := zJ_toInt _
def zshr (x y : Int) : Int := (zJ x >>> (zJ y &&& 31)).toInt
theorem zshr_J (x y : Int) : zJ (zshr x y) = zJ x >>> (zJ y &&& 31) := zJ_toInt _
def zushr (x y : Int) : Int := (((zJ x).toUInt32 >>> ((zJ y).toUInt32 &&& Int32.toUInt32 31)).toInt32).toInt
theorem zushr_J (x y : Int) : zJ (zushr x y) = ((zJ x).toUInt32 >>> ((zJ y).toUInt32 &&& Int32.toUInt32 31)).toInt32 := zJ_toInt _
def zdiv (x y : Int) : Int := (zJ x / zJ y).toInt
theorem zdiv_J (x y : Int) : zJ (zdiv x y) = zJ x / zJ y := zJ_toInt _
def zrem (x y : Int) : Int := (zJ x - zJ x / zJ y * zJ y).toInt
theorem zrem_J (x y : Int) : zJ (zrem x y) = zJ x - zJ x / zJ y * zJ y := zJ_toInt _
def zlshl (x : Int64) (y : Int) : Int64 := x <<< ((zJ y).toInt64 &&& 63)
def zlshr (x : Int64) (y : Int) : Int64 := x >>> ((zJ y).toInt64 &&& 63)
def zlushr (x : Int64) (y : Int) : Int64 := (x.toUInt64 >>> ((zJ y).toInt64.toUInt64 &&& Int64.toUInt64 63)).toInt64
def zi2l (x : Int) : Int64 := (zJ x).toInt64
def zl2i (x : Int64) : Int := x.toInt32.toInt
def zi2b (x : Int) : Int := (zJ x).toInt8.toInt32.toInt
def zlrem (x y : Int64) : Int64 := x - x / y * y
/-- whether an index is within, by its number -/
abbrev zin (x : Int) (n : Nat) : Prop := 0 ≤ zw x ∧ zw x < (n : Int)
def zix (x : Int) : Nat := (zw x).toNat
theorem zin_vp {x : Int} {n : Nat} (h : zin x n) : vp_in (zJ x) n := vp_in_iff.mpr h
theorem zix_J (x : Int) : (zJ x).toNatClampNeg = zix x := rfl
section RWT
variable {Γ : Cx} {cc : ByteArray} {own : String} {nL : Nat} {rm : Room} {sh : Sh} {pc : Nat} {σ : Mm} {lv : List (Nat × Value)} {st : List Value}
theorem p_iand (G : Gd Γ cc own nL rm sh) {x y : Int} (hd : decode cc pc = .ok (.iand, 1)) (k : PT Γ nL sh (pc + 1) σ lv (.int (zJ (zand x y)) :: st)) : PT Γ nL sh pc σ lv (.int (zJ y) :: .int (zJ x) :: st) := fun H locs ls hW hN hS hl => by
  have k := k H locs ls hW hN hS hl
  rw [zand_J] at k
  exact lv_iand G.1 G.2.1 hd k
theorem p_ior (G : Gd Γ cc own nL rm sh) {x y : Int} (hd : decode cc pc = .ok (.ior, 1)) (k : PT Γ nL sh (pc + 1) σ lv (.int (zJ (zor x y)) :: st)) : PT Γ nL sh pc σ lv (.int (zJ y) :: .int (zJ x) :: st) := fun H locs ls hW hN hS hl => by
  have k := k H locs ls hW hN hS hl
  rw [zor_J] at k
  exact lv_ior G.1 G.2.1 hd k
theorem p_ixor (G : Gd Γ cc own nL rm sh) {x y : Int} (hd : decode cc pc = .ok (.ixor, 1)) (k : PT Γ nL sh (pc + 1) σ lv (.int (zJ (zxor x y)) :: st)) : PT Γ nL sh pc σ lv (.int (zJ y) :: .int (zJ x) :: st) := fun H locs ls hW hN hS hl => by
  have k := k H locs ls hW hN hS hl
  rw [zxor_J] at k
  exact lv_ixor G.1 G.2.1 hd k
theorem p_ishl (G : Gd Γ cc own nL rm sh) {x y : Int} (hd : decode cc pc = .ok (.ishl, 1)) (k : PT Γ nL sh (pc + 1) σ lv (.int (zJ (zshl x y)) :: st)) : PT Γ nL sh pc σ lv (.int (zJ y) :: .int (zJ x) :: st) := fun H locs ls hW hN hS hl => by
  have k := k H locs ls hW hN hS hl
  rw [zshl_J] at k
  exact lv_ishl G.1 G.2.1 hd k
theorem p_ishr (G : Gd Γ cc own nL rm sh) {x y : Int} (hd : decode cc pc = .ok (.ishr, 1)) (k : PT Γ nL sh (pc + 1) σ lv (.int (zJ (zshr x y)) :: st)) : PT Γ nL sh pc σ lv (.int (zJ y) :: .int (zJ x) :: st) := fun H locs ls hW hN hS hl => by
  have k := k H locs ls hW hN hS hl
  rw [zshr_J] at k
  exact lv_ishr G.1 G.2.1 hd k
theorem p_iushr (G : Gd Γ cc own nL rm sh) {x y : Int} (hd : decode cc pc = .ok (.iushr, 1)) (k : PT Γ nL sh (pc + 1) σ lv (.int (zJ (zushr x y)) :: st)) : PT Γ nL sh pc σ lv (.int (zJ y) :: .int (zJ x) :: st) := fun H locs ls hW hN hS hl => by
  have k := k H locs ls hW hN hS hl
  rw [zushr_J] at k
  exact lv_iushr G.1 G.2.1 hd rfl k
theorem p_idiv {β : Type} (G : Gd Γ cc own nL rm sh) {x y : Int} {A : Option β} {out : β} (hd : decode cc pc = .ok (.idiv, 1)) (h : (if zw y = 0 then none else A) = some out) (k : A = some out → PT Γ nL sh (pc + 1) σ lv (.int (zJ (zdiv x y)) :: st)) : PT Γ nL sh pc σ lv (.int (zJ y) :: .int (zJ x) :: st) := fun H locs ls hW hN hS hl => by
  by_cases hy : zw y = 0
  · rw [if_pos hy] at h; cases h
  · rw [if_neg hy] at h
    have k := k h H locs ls hW hN hS hl
    rw [zdiv_J] at k
    exact lv_idiv G.1 G.2.1 hd (fun e => hy (by unfold zw; rw [e]; rfl)) k
theorem p_idivK (G : Gd Γ cc own nL rm sh) {x y : Int} (hd : decode cc pc = .ok (.idiv, 1)) (hy : zJ y ≠ 0) (k : PT Γ nL sh (pc + 1) σ lv (.int (zJ (zdiv x y)) :: st)) : PT Γ nL sh pc σ lv (.int (zJ y) :: .int (zJ x) :: st) := fun H locs ls hW hN hS hl => by
  have k := k H locs ls hW hN hS hl
  rw [zdiv_J] at k
  exact lv_idiv G.1 G.2.1 hd hy k
theorem p_irem {β : Type} (G : Gd Γ cc own nL rm sh) {x y : Int} {A : Option β} {out : β} (hd : decode cc pc = .ok (.irem, 1)) (h : (if zw y = 0 then none else A) = some out) (k : A = some out → PT Γ nL sh (pc + 1) σ lv (.int (zJ (zrem x y)) :: st)) : PT Γ nL sh pc σ lv (.int (zJ y) :: .int (zJ x) :: st) := fun H locs ls hW hN hS hl => by
  by_cases hy : zw y = 0
  · rw [if_pos hy] at h; cases h
  · rw [if_neg hy] at h
    have k := k h H locs ls hW hN hS hl
    rw [zrem_J] at k
    exact lv_irem G.1 G.2.1 hd (fun e => hy (by unfold zw; rw [e]; rfl)) k
theorem p_iremK (G : Gd Γ cc own nL rm sh) {x y : Int} (hd : decode cc pc = .ok (.irem, 1)) (hy : zJ y ≠ 0) (k : PT Γ nL sh (pc + 1) σ lv (.int (zJ (zrem x y)) :: st)) : PT Γ nL sh pc σ lv (.int (zJ y) :: .int (zJ x) :: st) := fun H locs ls hW hN hS hl => by
  have k := k H locs ls hW hN hS hl
  rw [zrem_J] at k
  exact lv_irem G.1 G.2.1 hd hy k
theorem p_ladd (G : Gd Γ cc own nL rm sh) {x y : Int64} (hd : decode cc pc = .ok (.ladd, 1)) (k : PT Γ nL sh (pc + 1) σ lv (.long (x + y) :: st)) : PT Γ nL sh pc σ lv (.long y :: .long x :: st) := fun H locs ls hW hN hS hl => by
  have k := k H locs ls hW hN hS hl
  exact lv_ladd G.1 G.2.1 hd k
theorem p_lsub (G : Gd Γ cc own nL rm sh) {x y : Int64} (hd : decode cc pc = .ok (.lsub, 1)) (k : PT Γ nL sh (pc + 1) σ lv (.long (x - y) :: st)) : PT Γ nL sh pc σ lv (.long y :: .long x :: st) := fun H locs ls hW hN hS hl => by
  have k := k H locs ls hW hN hS hl
  exact lv_lsub G.1 G.2.1 hd k
theorem p_lmul (G : Gd Γ cc own nL rm sh) {x y : Int64} (hd : decode cc pc = .ok (.lmul, 1)) (k : PT Γ nL sh (pc + 1) σ lv (.long (x * y) :: st)) : PT Γ nL sh pc σ lv (.long y :: .long x :: st) := fun H locs ls hW hN hS hl => by
  have k := k H locs ls hW hN hS hl
  exact lv_lmul G.1 G.2.1 hd k
theorem p_land (G : Gd Γ cc own nL rm sh) {x y : Int64} (hd : decode cc pc = .ok (.land, 1)) (k : PT Γ nL sh (pc + 1) σ lv (.long (x &&& y) :: st)) : PT Γ nL sh pc σ lv (.long y :: .long x :: st) := fun H locs ls hW hN hS hl => by
  have k := k H locs ls hW hN hS hl
  exact lv_land G.1 G.2.1 hd k
theorem p_lor (G : Gd Γ cc own nL rm sh) {x y : Int64} (hd : decode cc pc = .ok (.lor, 1)) (k : PT Γ nL sh (pc + 1) σ lv (.long (x ||| y) :: st)) : PT Γ nL sh pc σ lv (.long y :: .long x :: st) := fun H locs ls hW hN hS hl => by
  have k := k H locs ls hW hN hS hl
  exact lv_lor G.1 G.2.1 hd k
theorem p_lxor (G : Gd Γ cc own nL rm sh) {x y : Int64} (hd : decode cc pc = .ok (.lxor, 1)) (k : PT Γ nL sh (pc + 1) σ lv (.long (x ^^^ y) :: st)) : PT Γ nL sh pc σ lv (.long y :: .long x :: st) := fun H locs ls hW hN hS hl => by
  have k := k H locs ls hW hN hS hl
  exact lv_lxor G.1 G.2.1 hd k
theorem p_lneg (G : Gd Γ cc own nL rm sh) {x : Int64} (hd : decode cc pc = .ok (.lneg, 1)) (k : PT Γ nL sh (pc + 1) σ lv (.long (-x) :: st)) : PT Γ nL sh pc σ lv (.long x :: st) := fun H locs ls hW hN hS hl => by
  have k := k H locs ls hW hN hS hl
  exact lv_lneg G.1 G.2.1 hd k
theorem p_ldivK (G : Gd Γ cc own nL rm sh) {x y : Int64} (hy : y ≠ 0) (hd : decode cc pc = .ok (.ldiv, 1)) (k : PT Γ nL sh (pc + 1) σ lv (.long (x / y) :: st)) : PT Γ nL sh pc σ lv (.long y :: .long x :: st) := fun H locs ls hW hN hS hl => by
  have k := k H locs ls hW hN hS hl
  exact lv_ldiv G.1 G.2.1 hd hy k
theorem p_lremK (G : Gd Γ cc own nL rm sh) {x y : Int64} (hy : y ≠ 0) (hd : decode cc pc = .ok (.lrem, 1)) (k : PT Γ nL sh (pc + 1) σ lv (.long (zlrem x y) :: st)) : PT Γ nL sh pc σ lv (.long y :: .long x :: st) := fun H locs ls hW hN hS hl => by
  have k := k H locs ls hW hN hS hl
  exact lv_lrem G.1 G.2.1 hd hy k
theorem p_lshl (G : Gd Γ cc own nL rm sh) {x : Int64} {y : Int} (hd : decode cc pc = .ok (.lshl, 1)) (k : PT Γ nL sh (pc + 1) σ lv (.long (zlshl x y) :: st)) : PT Γ nL sh pc σ lv (.int (zJ y) :: .long x :: st) := fun H locs ls hW hN hS hl => by
  have k := k H locs ls hW hN hS hl
  exact lv_lshl G.1 G.2.1 hd rfl k
theorem p_lshr (G : Gd Γ cc own nL rm sh) {x : Int64} {y : Int} (hd : decode cc pc = .ok (.lshr, 1)) (k : PT Γ nL sh (pc + 1) σ lv (.long (zlshr x y) :: st)) : PT Γ nL sh pc σ lv (.int (zJ y) :: .long x :: st) := fun H locs ls hW hN hS hl => by
  have k := k H locs ls hW hN hS hl
  exact lv_lshr G.1 G.2.1 hd rfl k
theorem p_lushr (G : Gd Γ cc own nL rm sh) {x : Int64} {y : Int} (hd : decode cc pc = .ok (.lushr, 1)) (k : PT Γ nL sh (pc + 1) σ lv (.long (zlushr x y) :: st)) : PT Γ nL sh pc σ lv (.int (zJ y) :: .long x :: st) := fun H locs ls hW hN hS hl => by
  have k := k H locs ls hW hN hS hl
  exact lv_lushr G.1 G.2.1 hd rfl k
theorem p_i2l (G : Gd Γ cc own nL rm sh) {x : Int} (hd : decode cc pc = .ok (.i2l, 1)) (k : PT Γ nL sh (pc + 1) σ lv (.long (zi2l x) :: st)) : PT Γ nL sh pc σ lv (.int (zJ x) :: st) := fun H locs ls hW hN hS hl => by
  have k := k H locs ls hW hN hS hl
  exact lv_i2l G.1 G.2.1 hd rfl k
theorem p_l2i (G : Gd Γ cc own nL rm sh) {x : Int64} (hd : decode cc pc = .ok (.l2i, 1)) (k : PT Γ nL sh (pc + 1) σ lv (.int (zJ (zl2i x)) :: st)) : PT Γ nL sh pc σ lv (.long x :: st) := fun H locs ls hW hN hS hl => by
  have k := k H locs ls hW hN hS hl
  unfold zl2i at k
  rw [zJ_toInt] at k
  exact lv_l2i G.1 G.2.1 hd rfl k
theorem p_i2b (G : Gd Γ cc own nL rm sh) {x : Int} (hd : decode cc pc = .ok (.i2b, 1)) (k : PT Γ nL sh (pc + 1) σ lv (.int (zJ (zi2b x)) :: st)) : PT Γ nL sh pc σ lv (.int (zJ x) :: st) := fun H locs ls hW hN hS hl => by
  have k := k H locs ls hW hN hS hl
  unfold zi2b at k
  rw [zJ_toInt] at k
  exact lv_i2b G.1 G.2.1 hd rfl k
theorem p_dup (G : Gd Γ cc own nL rm sh) {v : Value} (hv : v.category = 1) (hd : decode cc pc = .ok (.dup, 1)) (k : PT Γ nL sh (pc + 1) σ lv (v :: v :: st)) : PT Γ nL sh pc σ lv (v :: st) := fun H locs ls hW hN hS hl => by
  have k := k H locs ls hW hN hS hl
  exact lv_dup G.1 G.2.1 hd hv k
theorem p_dup2L (G : Gd Γ cc own nL rm sh) {v : Value} (hv : v.category = 2) (hd : decode cc pc = .ok (.dup2, 1)) (k : PT Γ nL sh (pc + 1) σ lv (v :: v :: st)) : PT Γ nL sh pc σ lv (v :: st) := fun H locs ls hW hN hS hl => by
  have k := k H locs ls hW hN hS hl
  exact lv_dup2_2 G.1 G.2.1 hd hv k
theorem p_dup2 (G : Gd Γ cc own nL rm sh) {v u : Value} (hv : v.category = 1) (hu : u.category = 1) (hd : decode cc pc = .ok (.dup2, 1)) (k : PT Γ nL sh (pc + 1) σ lv (v :: u :: v :: u :: st)) : PT Γ nL sh pc σ lv (v :: u :: st) := fun H locs ls hW hN hS hl => by
  have k := k H locs ls hW hN hS hl
  exact lv_dup2_11 G.1 G.2.1 hd hv hu k
theorem p_pop (G : Gd Γ cc own nL rm sh) {v : Value} (hv : v.category = 1) (hd : decode cc pc = .ok (.pop, 1)) (k : PT Γ nL sh (pc + 1) σ lv st) : PT Γ nL sh pc σ lv (v :: st) := fun H locs ls hW hN hS hl => by
  have k := k H locs ls hW hN hS hl
  exact lv_pop G.1 G.2.1 hd hv k
theorem p_i2f (G : Gd Γ cc own nL rm sh) {x : Int} (hd : decode cc pc = .ok (.i2f, 1)) (k : PT Γ nL sh (pc + 1) σ lv (.float (FP.i2f (zJ x)) :: st)) : PT Γ nL sh pc σ lv (.int (zJ x) :: st) := fun H locs ls hW hN hS hl => by
  have k := k H locs ls hW hN hS hl
  exact lv_i2f G.1 G.2.1 hd k
theorem p_i2d (G : Gd Γ cc own nL rm sh) {x : Int} (hd : decode cc pc = .ok (.i2d, 1)) (k : PT Γ nL sh (pc + 1) σ lv (.double (FP.i2d (zJ x)) :: st)) : PT Γ nL sh pc σ lv (.int (zJ x) :: st) := fun H locs ls hW hN hS hl => by
  have k := k H locs ls hW hN hS hl
  exact lv_i2d G.1 G.2.1 hd k
theorem p_goto (G : Gd Γ cc own nL rm sh) {off : Int} {tgt : Nat} (hd : decode cc pc = .ok (.goto off, 3)) (ht : (pc : Int) + off = (tgt : Int)) (k : PT Γ nL sh tgt σ lv st) : PT Γ nL sh pc σ lv st := fun H locs ls hW hN hS hl => lv_goto G.1 G.2.1 hd ht (k H locs ls hW hN hS hl)
theorem zJ_zero : (0 : Int32) = zJ 0 := by decide
theorem zw_0 : zw 0 = 0 := by decide
theorem zJ_eq0 (x : Int) : zJ x = 0 ↔ zw x = 0 := by
  rw [zJ_zero, zJ_eq, zw_0]
theorem zJ_ge0 (x : Int) : 0 ≤ zJ x ↔ 0 ≤ zw x := by
  rw [zJ_zero, zJ_le, zw_0]
theorem zJ_lt0 (x : Int) : zJ x < 0 ↔ zw x < 0 := by
  rw [zJ_zero, zJ_lt, zw_0]
theorem zJ_gt0 (x : Int) : 0 < zJ x ↔ 0 < zw x := by
  rw [zJ_zero, zJ_lt, zw_0]
theorem zJ_le0 (x : Int) : zJ x ≤ 0 ↔ zw x ≤ 0 := by
  rw [zJ_zero, zJ_le, zw_0]
theorem zJ_ne0 (x : Int) : (¬ zJ x = 0) ↔ zw x ≠ 0 := not_congr (zJ_eq0 x)
theorem zJ_ne (x y : Int) : (¬ zJ x = zJ y) ↔ zw x ≠ zw y := not_congr (zJ_eq x y)
theorem p_ifeq {β : Type} (G : Gd Γ cc own nL rm sh) {x : Int} {off : Int} {tgt : Nat} {A B : Option β} {out : β} (hd : decode cc pc = .ok (.ifCond .eq off, 3)) (ht : (pc : Int) + off = (tgt : Int)) (h : (if zw x = 0 then A else B) = some out) (k1 : zw x = 0 → A = some out → PT Γ nL sh tgt σ lv st) (k2 : ¬ (zw x = 0) → B = some out → PT Γ nL sh (pc + 3) σ lv st) : PT Γ nL sh pc σ lv (.int (zJ x) :: st) := fun H locs ls hW hN hS hl => by
  by_cases c : zw x = 0
  · rw [if_pos c] at h
    exact lv_if_eq G.1 G.2.1 hd ht (fun _ => k1 c h H locs ls hW hN hS hl) (fun n => absurd ((zJ_eq0 x).mpr c) n)
  · rw [if_neg c] at h
    exact lv_if_eq G.1 G.2.1 hd ht (fun n => absurd ((zJ_eq0 x).mp n) c) (fun _ => k2 c h H locs ls hW hN hS hl)
theorem p_ifne {β : Type} (G : Gd Γ cc own nL rm sh) {x : Int} {off : Int} {tgt : Nat} {A B : Option β} {out : β} (hd : decode cc pc = .ok (.ifCond .ne off, 3)) (ht : (pc : Int) + off = (tgt : Int)) (h : (if zw x ≠ 0 then A else B) = some out) (k1 : zw x ≠ 0 → A = some out → PT Γ nL sh tgt σ lv st) (k2 : ¬ (zw x ≠ 0) → B = some out → PT Γ nL sh (pc + 3) σ lv st) : PT Γ nL sh pc σ lv (.int (zJ x) :: st) := fun H locs ls hW hN hS hl => by
  by_cases c : zw x ≠ 0
  · rw [if_pos c] at h
    exact lv_if_ne G.1 G.2.1 hd ht (fun _ => k1 c h H locs ls hW hN hS hl) (fun n => absurd n ((zJ_ne0 x).mpr c))
  · rw [if_neg c] at h
    exact lv_if_ne G.1 G.2.1 hd ht (fun n => absurd ((zJ_ne0 x).mp n) c) (fun _ => k2 c h H locs ls hW hN hS hl)
theorem p_iflt {β : Type} (G : Gd Γ cc own nL rm sh) {x : Int} {off : Int} {tgt : Nat} {A B : Option β} {out : β} (hd : decode cc pc = .ok (.ifCond .lt off, 3)) (ht : (pc : Int) + off = (tgt : Int)) (h : (if zw x < 0 then A else B) = some out) (k1 : zw x < 0 → A = some out → PT Γ nL sh tgt σ lv st) (k2 : ¬ (zw x < 0) → B = some out → PT Γ nL sh (pc + 3) σ lv st) : PT Γ nL sh pc σ lv (.int (zJ x) :: st) := fun H locs ls hW hN hS hl => by
  by_cases c : zw x < 0
  · rw [if_pos c] at h
    exact lv_if_lt G.1 G.2.1 hd ht (fun _ => k1 c h H locs ls hW hN hS hl) (fun n => absurd ((zJ_lt0 x).mpr c) n)
  · rw [if_neg c] at h
    exact lv_if_lt G.1 G.2.1 hd ht (fun n => absurd ((zJ_lt0 x).mp n) c) (fun _ => k2 c h H locs ls hW hN hS hl)
theorem p_ifge {β : Type} (G : Gd Γ cc own nL rm sh) {x : Int} {off : Int} {tgt : Nat} {A B : Option β} {out : β} (hd : decode cc pc = .ok (.ifCond .ge off, 3)) (ht : (pc : Int) + off = (tgt : Int)) (h : (if 0 ≤ zw x then A else B) = some out) (k1 : 0 ≤ zw x → A = some out → PT Γ nL sh tgt σ lv st) (k2 : ¬ (0 ≤ zw x) → B = some out → PT Γ nL sh (pc + 3) σ lv st) : PT Γ nL sh pc σ lv (.int (zJ x) :: st) := fun H locs ls hW hN hS hl => by
  by_cases c : 0 ≤ zw x
  · rw [if_pos c] at h
    exact lv_if_ge G.1 G.2.1 hd ht (fun _ => k1 c h H locs ls hW hN hS hl) (fun n => absurd ((zJ_ge0 x).mpr c) n)
  · rw [if_neg c] at h
    exact lv_if_ge G.1 G.2.1 hd ht (fun n => absurd ((zJ_ge0 x).mp n) c) (fun _ => k2 c h H locs ls hW hN hS hl)
theorem p_ifgt {β : Type} (G : Gd Γ cc own nL rm sh) {x : Int} {off : Int} {tgt : Nat} {A B : Option β} {out : β} (hd : decode cc pc = .ok (.ifCond .gt off, 3)) (ht : (pc : Int) + off = (tgt : Int)) (h : (if 0 < zw x then A else B) = some out) (k1 : 0 < zw x → A = some out → PT Γ nL sh tgt σ lv st) (k2 : ¬ (0 < zw x) → B = some out → PT Γ nL sh (pc + 3) σ lv st) : PT Γ nL sh pc σ lv (.int (zJ x) :: st) := fun H locs ls hW hN hS hl => by
  by_cases c : 0 < zw x
  · rw [if_pos c] at h
    exact lv_if_gt G.1 G.2.1 hd ht (fun _ => k1 c h H locs ls hW hN hS hl) (fun n => absurd ((zJ_gt0 x).mpr c) n)
  · rw [if_neg c] at h
    exact lv_if_gt G.1 G.2.1 hd ht (fun n => absurd ((zJ_gt0 x).mp n) c) (fun _ => k2 c h H locs ls hW hN hS hl)
theorem p_ifle {β : Type} (G : Gd Γ cc own nL rm sh) {x : Int} {off : Int} {tgt : Nat} {A B : Option β} {out : β} (hd : decode cc pc = .ok (.ifCond .le off, 3)) (ht : (pc : Int) + off = (tgt : Int)) (h : (if zw x ≤ 0 then A else B) = some out) (k1 : zw x ≤ 0 → A = some out → PT Γ nL sh tgt σ lv st) (k2 : ¬ (zw x ≤ 0) → B = some out → PT Γ nL sh (pc + 3) σ lv st) : PT Γ nL sh pc σ lv (.int (zJ x) :: st) := fun H locs ls hW hN hS hl => by
  by_cases c : zw x ≤ 0
  · rw [if_pos c] at h
    exact lv_if_le G.1 G.2.1 hd ht (fun _ => k1 c h H locs ls hW hN hS hl) (fun n => absurd ((zJ_le0 x).mpr c) n)
  · rw [if_neg c] at h
    exact lv_if_le G.1 G.2.1 hd ht (fun n => absurd ((zJ_le0 x).mp n) c) (fun _ => k2 c h H locs ls hW hN hS hl)
theorem p_icmpeq {β : Type} (G : Gd Γ cc own nL rm sh) {x y : Int} {off : Int} {tgt : Nat} {A B : Option β} {out : β} (hd : decode cc pc = .ok (.if_icmp .eq off, 3)) (ht : (pc : Int) + off = (tgt : Int)) (h : (if zw x = zw y then A else B) = some out) (k1 : zw x = zw y → A = some out → PT Γ nL sh tgt σ lv st) (k2 : ¬ (zw x = zw y) → B = some out → PT Γ nL sh (pc + 3) σ lv st) : PT Γ nL sh pc σ lv (.int (zJ y) :: .int (zJ x) :: st) := fun H locs ls hW hN hS hl => by
  by_cases c : zw x = zw y
  · rw [if_pos c] at h
    exact lv_icmp_eq G.1 G.2.1 hd ht (fun _ => k1 c h H locs ls hW hN hS hl) (fun n => absurd ((zJ_eq x y).mpr c) n)
  · rw [if_neg c] at h
    exact lv_icmp_eq G.1 G.2.1 hd ht (fun n => absurd ((zJ_eq x y).mp n) c) (fun _ => k2 c h H locs ls hW hN hS hl)
theorem p_icmpne {β : Type} (G : Gd Γ cc own nL rm sh) {x y : Int} {off : Int} {tgt : Nat} {A B : Option β} {out : β} (hd : decode cc pc = .ok (.if_icmp .ne off, 3)) (ht : (pc : Int) + off = (tgt : Int)) (h : (if zw x ≠ zw y then A else B) = some out) (k1 : zw x ≠ zw y → A = some out → PT Γ nL sh tgt σ lv st) (k2 : ¬ (zw x ≠ zw y) → B = some out → PT Γ nL sh (pc + 3) σ lv st) : PT Γ nL sh pc σ lv (.int (zJ y) :: .int (zJ x) :: st) := fun H locs ls hW hN hS hl => by
  by_cases c : zw x ≠ zw y
  · rw [if_pos c] at h
    exact lv_icmp_ne G.1 G.2.1 hd ht (fun _ => k1 c h H locs ls hW hN hS hl) (fun n => absurd n ((zJ_ne x y).mpr c))
  · rw [if_neg c] at h
    exact lv_icmp_ne G.1 G.2.1 hd ht (fun n => absurd ((zJ_ne x y).mp n) c) (fun _ => k2 c h H locs ls hW hN hS hl)
theorem p_icmplt {β : Type} (G : Gd Γ cc own nL rm sh) {x y : Int} {off : Int} {tgt : Nat} {A B : Option β} {out : β} (hd : decode cc pc = .ok (.if_icmp .lt off, 3)) (ht : (pc : Int) + off = (tgt : Int)) (h : (if zw x < zw y then A else B) = some out) (k1 : zw x < zw y → A = some out → PT Γ nL sh tgt σ lv st) (k2 : ¬ (zw x < zw y) → B = some out → PT Γ nL sh (pc + 3) σ lv st) : PT Γ nL sh pc σ lv (.int (zJ y) :: .int (zJ x) :: st) := fun H locs ls hW hN hS hl => by
  by_cases c : zw x < zw y
  · rw [if_pos c] at h
    exact lv_icmp_lt G.1 G.2.1 hd ht (fun _ => k1 c h H locs ls hW hN hS hl) (fun n => absurd ((zJ_lt x y).mpr c) n)
  · rw [if_neg c] at h
    exact lv_icmp_lt G.1 G.2.1 hd ht (fun n => absurd ((zJ_lt x y).mp n) c) (fun _ => k2 c h H locs ls hW hN hS hl)
theorem p_icmpge {β : Type} (G : Gd Γ cc own nL rm sh) {x y : Int} {off : Int} {tgt : Nat} {A B : Option β} {out : β} (hd : decode cc pc = .ok (.if_icmp .ge off, 3)) (ht : (pc : Int) + off = (tgt : Int)) (h : (if zw y ≤ zw x then A else B) = some out) (k1 : zw y ≤ zw x → A = some out → PT Γ nL sh tgt σ lv st) (k2 : ¬ (zw y ≤ zw x) → B = some out → PT Γ nL sh (pc + 3) σ lv st) : PT Γ nL sh pc σ lv (.int (zJ y) :: .int (zJ x) :: st) := fun H locs ls hW hN hS hl => by
  by_cases c : zw y ≤ zw x
  · rw [if_pos c] at h
    exact lv_icmp_ge G.1 G.2.1 hd ht (fun _ => k1 c h H locs ls hW hN hS hl) (fun n => absurd ((zJ_le y x).mpr c) n)
  · rw [if_neg c] at h
    exact lv_icmp_ge G.1 G.2.1 hd ht (fun n => absurd ((zJ_le y x).mp n) c) (fun _ => k2 c h H locs ls hW hN hS hl)
theorem p_icmpgt {β : Type} (G : Gd Γ cc own nL rm sh) {x y : Int} {off : Int} {tgt : Nat} {A B : Option β} {out : β} (hd : decode cc pc = .ok (.if_icmp .gt off, 3)) (ht : (pc : Int) + off = (tgt : Int)) (h : (if zw y < zw x then A else B) = some out) (k1 : zw y < zw x → A = some out → PT Γ nL sh tgt σ lv st) (k2 : ¬ (zw y < zw x) → B = some out → PT Γ nL sh (pc + 3) σ lv st) : PT Γ nL sh pc σ lv (.int (zJ y) :: .int (zJ x) :: st) := fun H locs ls hW hN hS hl => by
  by_cases c : zw y < zw x
  · rw [if_pos c] at h
    exact lv_icmp_gt G.1 G.2.1 hd ht (fun _ => k1 c h H locs ls hW hN hS hl) (fun n => absurd ((zJ_lt y x).mpr c) n)
  · rw [if_neg c] at h
    exact lv_icmp_gt G.1 G.2.1 hd ht (fun n => absurd ((zJ_lt y x).mp n) c) (fun _ => k2 c h H locs ls hW hN hS hl)
theorem p_icmple {β : Type} (G : Gd Γ cc own nL rm sh) {x y : Int} {off : Int} {tgt : Nat} {A B : Option β} {out : β} (hd : decode cc pc = .ok (.if_icmp .le off, 3)) (ht : (pc : Int) + off = (tgt : Int)) (h : (if zw x ≤ zw y then A else B) = some out) (k1 : zw x ≤ zw y → A = some out → PT Γ nL sh tgt σ lv st) (k2 : ¬ (zw x ≤ zw y) → B = some out → PT Γ nL sh (pc + 3) σ lv st) : PT Γ nL sh pc σ lv (.int (zJ y) :: .int (zJ x) :: st) := fun H locs ls hW hN hS hl => by
  by_cases c : zw x ≤ zw y
  · rw [if_pos c] at h
    exact lv_icmp_le G.1 G.2.1 hd ht (fun _ => k1 c h H locs ls hW hN hS hl) (fun n => absurd ((zJ_le x y).mpr c) n)
  · rw [if_neg c] at h
    exact lv_icmp_le G.1 G.2.1 hd ht (fun n => absurd ((zJ_le x y).mp n) c) (fun _ => k2 c h H locs ls hW hN hS hl)
def zcmp (x y : Int64) : Int := (lg_cmp x y).toInt
theorem zcmp_J (x y : Int64) : zJ (zcmp x y) = lg_cmp x y := zJ_toInt _
theorem p_lcmp (G : Gd Γ cc own nL rm sh) {x y : Int64} (hd : decode cc pc = .ok (.lcmp, 1)) (k : PT Γ nL sh (pc + 1) σ lv (.int (zJ (zcmp x y)) :: st)) : PT Γ nL sh pc σ lv (.long y :: .long x :: st) := fun H locs ls hW hN hS hl => by
  have k := k H locs ls hW hN hS hl
  rw [zcmp_J] at k
  exact W.lcmp G.1 G.2.1 hd k
end RWT
