/-! one command of the script on both sides -/
theorem HK_up {N M : Nat} {x y : Option (Mm × Int)} (h : HK N x y) (hm : N ≤ M) : HK M x y := by
  obtain ⟨τ', m', w, v, h1, h2, h3, h4, h5, h6⟩ := h
  exact ⟨τ', m', w, v, h1, h2, h3, h4, h5, REL_up h6 hm⟩
theorem zc_0 (x : Int64) : zw (zcmp x x) = 0 := by
  unfold zcmp lg_cmp
  simp
  decide
theorem s_drop {N : Nat} {σ : Mm} (h : LR N σ) {a : Int} (ha : zw a = a) : HK N (x_L_drop (zb zl_74 σ) a) (x_X7_drop (zb zl_73 σ) a) := h_2 (τ := zb zl_74 σ) (EX := fun e => (if e = 1 then some (zb zl_74 σ, (1 : Int)) else none)) (fun q hq => by
    rcases List.mem_cons.mp hq with rfl | hq
    · exact ⟨rfl, by decide⟩
    cases hq) (c_drop (HV h) ha)
theorem s_knock {N : Nat} {σ : Mm} (h : LR N σ) {a : Int} (ha : zw a = a) : HK N (x_L_knock (zb zl_74 σ) a) (x_X7_knock (zb zl_73 σ) a) := h_2 (τ := zb zl_74 σ) (EX := fun e => (if e = 1 then some (zb zl_74 σ, (1 : Int)) else none)) (fun q hq => by
    rcases List.mem_cons.mp hq with rfl | hq
    · exact ⟨rfl, by decide⟩
    cases hq) (c_knock (HV h) ha)
theorem s_keep {N : Nat} {σ : Mm} (h : LR N σ) {a : Int} (ha : zw a = a) : HK N (x_L_keep (zb zl_74 σ) a) (x_X7_keep (zb zl_73 σ) a) := h_2 (τ := zb zl_74 σ) (EX := fun e => (if e = 0 then some (zb zl_74 σ, (1 : Int)) else none)) (fun q hq => by
    rcases List.mem_cons.mp hq with rfl | hq
    · exact ⟨rfl, by decide⟩
    cases hq) (c_keep (HV h) ha)
theorem s_restore {N : Nat} {σ : Mm} (h : LR N σ) {a : Int} (ha : zw a = a) : HK N (x_L_restore (zb zl_74 σ) a) (x_X7_restore (zb zl_73 σ) a) := h_2 (τ := zb zl_74 σ) (EX := fun e => (if e = 0 then some (zb zl_74 σ, (1 : Int)) else (if e = 2 then some (zb zl_74 σ, (2 : Int)) else none))) (fun q hq => by
    rcases List.mem_cons.mp hq with rfl | hq
    · exact ⟨rfl, by decide⟩
    rcases List.mem_cons.mp hq with rfl | hq
    · exact ⟨rfl, by decide⟩
    cases hq) (c_restore (HV h) ha)
theorem s_truncate {N : Nat} {σ : Mm} (h : LR N σ) {a : Int} (ha : zw a = a) : HK N (x_L_truncate (zb zl_74 σ) a) (x_X7_truncate (zb zl_73 σ) a) := h_2 (τ := zb zl_74 σ) (EX := fun e => (if e = 0 then some (zb zl_74 σ, (1 : Int)) else none)) (fun q hq => by
    rcases List.mem_cons.mp hq with rfl | hq
    · exact ⟨rfl, by decide⟩
    cases hq) (c_truncate (HV h) ha)
theorem s_match {N : Nat} {σ : Mm} (h : LR N σ) {a : Int} (ha : zw a = a) : HK N (x_L_match (zb zl_74 σ) a) (x_X7_match (zb zl_73 σ) a) := h_3 (τ := zb zl_74 σ) (EX := fun e => (if e = 0 then some (zb zl_74 σ, (1 : Int)) else none)) (fun q hq => by
    rcases List.mem_cons.mp hq with rfl | hq
    · exact ⟨rfl, by decide⟩
    cases hq) (c_match (HV h) ha)
theorem s_player {N : Nat} {σ : Mm} (h : LR N σ) {a b : Int} (ha : zw a = a) (hb : zw b = b) : HK N (x_L_player (zb zl_74 σ) a b) (x_X7_player (zb zl_73 σ) a b) := h_2 (τ := zb zl_74 σ) (EX := fun e => (if e = 0 then some (zb zl_74 σ, (1 : Int)) else none)) (fun q hq => by
    rcases List.mem_cons.mp hq with rfl | hq
    · exact ⟨rfl, by decide⟩
    cases hq) (c_player (HV h) ha hb)
theorem s_card {N : Nat} {σ : Mm} (h : LR N σ) {a b : Int} (ha : zw a = a) (hb : zw b = b) : HK N (x_L_card (zb zl_74 σ) a b) (x_X7_card (zb zl_73 σ) a b) := h_3 (τ := zb zl_74 σ) (EX := fun e => (if e = 0 then some (zb zl_74 σ, (1 : Int)) else none)) (fun q hq => by
    rcases List.mem_cons.mp hq with rfl | hq
    · exact ⟨rfl, by decide⟩
    cases hq) (c_card (HV h) ha hb)
theorem s_where {N : Nat} {σ : Mm} (h : LR N σ) {a : Int} (ha : zw a = a) : HK N (x_L_where (zb zl_74 σ) a) (x_X7_where (zb zl_73 σ) a) := h_3 (τ := zb zl_74 σ) (EX := fun e => (if e = 0 then some (zb zl_74 σ, (1 : Int)) else none)) (fun q hq => by
    rcases List.mem_cons.mp hq with rfl | hq
    · exact ⟨rfl, by decide⟩
    cases hq) (c_where (HV h) ha)
theorem s_meldOf {N : Nat} {σ : Mm} (h : LR N σ) {a b : Int} (ha : zw a = a) (hb : zw b = b) : HK N (x_L_meldOf (zb zl_74 σ) a b) (x_X7_meldOf (zb zl_73 σ) a b) := h_2 (τ := zb zl_74 σ) (EX := fun e => (if e = 0 then some (zb zl_74 σ, (1 : Int)) else (if e = 1 then some (zb zl_74 σ, (2 : Int)) else none))) (fun q hq => by
    rcases List.mem_cons.mp hq with rfl | hq
    · exact ⟨rfl, by decide⟩
    rcases List.mem_cons.mp hq with rfl | hq
    · exact ⟨rfl, by decide⟩
    cases hq) (c_meldOf (HV h) ha hb)
theorem s_meld {N : Nat} {σ : Mm} (h : LR N σ) {a b d : Int} (ha : zw a = a) (hb : zw b = b) (hd : zw d = d) : HK N (x_L_meld (zb zl_74 σ) a b d) (x_X7_meld (zb zl_73 σ) a b d) := h_2 (τ := zb zl_74 σ) (EX := fun e => (if e = 0 then some (zb zl_74 σ, (1 : Int)) else none)) (fun q hq => by
    rcases List.mem_cons.mp hq with rfl | hq
    · exact ⟨rfl, by decide⟩
    cases hq) (c_meld (HV h) ha hb hd)
theorem s_restWithout {N : Nat} {σ : Mm} (h : LR N σ) {a : Int} (ha : zw a = a) : HK N (x_L_restWithout (zb zl_74 σ) a) (x_X7_restWithout (zb zl_73 σ) a) := h_2 (τ := zb zl_74 σ) (EX := fun e => (if e = 1 then some (zb zl_74 σ, (1 : Int)) else none)) (fun q hq => by
    rcases List.mem_cons.mp hq with rfl | hq
    · exact ⟨rfl, by decide⟩
    cases hq) (c_restWithout (HV h) ha)
theorem s_helping {N : Nat} {σ : Mm} (h : LR N σ) {a : Int} (ha : zw a = a) : HK N (x_L_helping (zb zl_74 σ) a) (x_X7_helping (zb zl_73 σ) a) := h_2 (τ := zb zl_74 σ) (EX := fun e => (if e = 0 then some (zb zl_74 σ, (1 : Int)) else none)) (fun q hq => by
    rcases List.mem_cons.mp hq with rfl | hq
    · exact ⟨rfl, by decide⟩
    cases hq) (c_helping (HV h) ha)
theorem s_ifKnock {N : Nat} {σ : Mm} (h : LR N σ) {a b : Int} (ha : zw a = a) (hb : zw b = b) : HK N (x_L_ifKnock (zb zl_74 σ) a b) (x_X7_ifKnock (zb zl_73 σ) a b) := h_2 (τ := zb zl_74 σ) (EX := fun e => (if e = 1 then some (zb zl_74 σ, (1 : Int)) else (if e = 0 then some (zb zl_74 σ, (2 : Int)) else none))) (fun q hq => by
    rcases List.mem_cons.mp hq with rfl | hq
    · exact ⟨rfl, by decide⟩
    rcases List.mem_cons.mp hq with rfl | hq
    · exact ⟨rfl, by decide⟩
    cases hq) (c_ifKnock (HV h) ha hb)
theorem s_writeLaying {N : Nat} {σ : Mm} (h : LR N σ) {a : Int} (ha : zw a = a) : HK N (x_L_writeLaying (zb zl_74 σ) a) (x_X7_writeLaying (zb zl_73 σ) a) := h_2 (τ := zb zl_74 σ) (EX := fun e => (if e = 0 then some (zb zl_74 σ, (1 : Int)) else none)) (fun q hq => by
    rcases List.mem_cons.mp hq with rfl | hq
    · exact ⟨rfl, by decide⟩
    cases hq) (c_writeLaying (HV h) ha)
theorem s_set {N : Nat} {σ : Mm} (h : LR N σ) {p a : Int} (hp : p = 0 ∨ p = 1) (ha : zw a = a) : HK N (x_L_set (zb zl_74 σ) p a) (x_X7_set (zb zl_73 σ) p a) := h_2 (τ := zb zl_74 σ) (EX := fun e => (if e = 0 then some (zb zl_74 σ, (1 : Int)) else none)) (fun q hq => by
    rcases List.mem_cons.mp hq with rfl | hq
    · exact ⟨rfl, by decide⟩
    cases hq) (cl_set (HV h) hp ha)
theorem s_kind {N : Nat} {σ : Mm} (h : LR N σ) (x : Int64) : HK N (x_L_kind (zb zl_74 σ) x) (x_X7_kind (zb zl_73 σ) x) := h_3 (τ := zb zl_74 σ) (EX := fun e => (if e = 0 then some (zb zl_74 σ, (1 : Int)) else none)) (fun q hq => by
    rcases List.mem_cons.mp hq with rfl | hq
    · exact ⟨rfl, by decide⟩
    cases hq) (c_kind (HV h) x)
theorem fp_m2 : ∀ n : Nat, n < 221 → zw (zdcmp (FP.ddiv (FP.i2d (zJ (n : Int))) (4611686018427387904 : UInt64)) (FP.ddiv (FP.i2d (zJ (n : Int))) (4611686018427387904 : UInt64)) .l) = 0 := by decide +kernel
theorem fp_l2 : ∀ n : Nat, n < 12 → 1 ≤ n → ∀ k : Nat, k < 12 → zw (zdcmp (FP.f2d (FP.fdiv (FP.i2f (zJ (k : Int))) (FP.i2f (zJ (n : Int))))) (FP.f2d (FP.fdiv (FP.i2f (zJ (k : Int))) (FP.i2f (zJ (n : Int))))) .l) = 0 := by decide +kernel
theorem l_number {N : Nat} {σ : Mm} {u : Int} (h : LR N σ) : ∃ σ', ((x_X6_number (zb zl_72 σ)).bind fun v224 => (x_X7_number (zb zl_73 σ)).bind fun o => un2 o fun σ225 v226 => bnd (zj zl_73 σ σ225) fun σ227 => (if zw (zcmp v224 v226) = 0 then bnd (u + 6) fun v8 => some (.inl (σ227, v8)) else none)) = (some (.inl (σ', u + 6)) : Option ((Mm × Int) ⊕ Mm)) ∧ LR N σ' := by
  obtain ⟨m', v, h1, h2, h3⟩ := c_number h
  rw [h1, h2, Option.bind_some, Option.bind_some, un2_mk, bnd_eq, if_pos (zc_0 v), bnd_eq]
  exact ⟨_, rfl, LR_one h3⟩
theorem l_byte {N : Nat} {σ : Mm} {u a : Int} (h : LR N σ) (ha : zw a = a) : ∃ σ', ((x_X6_reportByte (zb zl_72 σ) a).bind fun v458 => (x_X7_reportByte (zb zl_73 σ) a).bind fun o => un2 o fun σ460 v461 => bnd (zj zl_73 σ σ460) fun σ462 => (if zw v458 = zw v461 then bnd (u + 6) fun v8 => some (.inl (σ462, v8)) else none)) = (some (.inl (σ', u + 6)) : Option ((Mm × Int) ⊕ Mm)) ∧ LR N σ' := by
  obtain ⟨m', v, h1, h2, h3⟩ := c_byte h ha
  rw [h1, h2, Option.bind_some, Option.bind_some, un2_mk, bnd_eq, if_pos rfl, bnd_eq]
  exact ⟨_, rfl, LR_one h3⟩
theorem l_mean {N : Nat} {σ : Mm} {u : Int} (h : LR N σ) : ∃ σ', ((x_X6_meanRest (zb zl_72 σ)).bind fun o => un2 o fun σ411 v412 => bnd (zj zl_72 σ σ411) fun σ413 => (x_X7_meanRest (zb zl_73 σ413)).bind fun o => un2 o fun σ414 v415 => bnd (zj zl_73 σ413 σ414) fun σ416 => (if zw (zdcmp v412 v415 .l) = 0 then bnd (u + 6) fun v8 => some (.inl (σ416, v8)) else (if zw (zdcmp v412 v412 .l) = 0 then none else (if zw (zdcmp v415 v415 .l) ≠ 0 then bnd (u + 6) fun v8 => some (.inl (σ416, v8)) else none)))) = (some (.inl (σ', u + 6)) : Option ((Mm × Int) ⊕ Mm)) ∧ LR N σ' := by
  obtain ⟨c', m', n, hn, h1, h2, h3⟩ := c_meanRest h
  rw [h1, Option.bind_some, un2_mk, bnd_eq, far CL_72, h2, Option.bind_some, un2_mk, bnd_eq, if_pos (fp_m2 n hn), bnd_eq]
  exact ⟨_, rfl, LR_join CL_72 h3⟩

