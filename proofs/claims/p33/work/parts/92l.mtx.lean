/-! A made text's own methods -/
theorem d_ok : ∀ d : Nat, d < 128 → zand (d : Int) 255 = d ∧ ((zJ (d : Int)).toUInt32 % 65536).toInt32 = zJ (d : Int) ∧ narrow .char (.int (zJ (d : Int))) = .int (zJ (d : Int)) := by decide +kernel
theorem c_mCoder (l : Launch) {D : va_G} {yy : Nat → ClassId} {tk tv a : Nat → Nat} {σ : Mm} {n : Nat} (h1 : σ 0 1 = 0) : CT l yJ_String_coder cJ_String_coder 1 (some .byte) (rmS 0 0 0 0) (shU n) D yy tk tv a σ [.ref (a 0)] σ (some (.int (zJ 0))) := by
  refine ct_of (Ar := fun a tk => [.ref (a 0)]) (by decide) (Nat.le_of_ble_eq_true rfl) (fun Γ G _ _ hR => ?_)
  refine (?_ : PT Γ 1 (shU n) 0 σ [(0, .ref (ga Γ 0))] [])
  refine p_getsCS G dJ_String_coder_0 gm_295 ?_
  refine p_ifeq (tgt := 13) (A := (none : Option Unit)) (B := some ()) (out := ()) G dJ_String_coder_3 (by decide) (by decide) (fun c _ => absurd c (by decide)) (fun _ _ => ?_)
  refine p_aload_n G rfl 0 rfl dJ_String_coder_6 ?_
  refine p_getU (k := 0) G dJ_String_coder_7 flu_String_15 rfl rfl ?_
  refine (?_ : PT Γ 1 (shU n) 10 σ [(0, .ref (ga Γ 0))] [.int (zJ (σ 0 1))])
  rw [h1]
  refine p_goto (tgt := 14) G dJ_String_coder_10 (by decide) ?_
  exact p_nret G hR dJ_String_coder_14 (by decide) rfl rfl
theorem c_mIsLatin1 (l : Launch) {D : va_G} {yy : Nat → ClassId} {tk tv a : Nat → Nat} {σ : Mm} {n : Nat} (h1 : σ 0 1 = 0) : CT l yJ_String_isLatin1 cJ_String_isLatin1 1 (some .boolean) (rmS 0 0 0 0) (shU n) D yy tk tv a σ [.ref (a 0)] σ (some (.int (zJ 1))) := by
  refine ct_of (Ar := fun a tk => [.ref (a 0)]) (by decide) (Nat.le_of_ble_eq_true rfl) (fun Γ G _ _ hR => ?_)
  refine (?_ : PT Γ 1 (shU n) 0 σ [(0, .ref (ga Γ 0))] [])
  refine p_getsCS G dJ_String_isLatin1_0 gm_295 ?_
  refine p_ifeq (tgt := 17) (A := (none : Option Unit)) (B := some ()) (out := ()) G dJ_String_isLatin1_3 (by decide) (by decide) (fun c _ => absurd c (by decide)) (fun _ _ => ?_)
  refine p_aload_n G rfl 0 rfl dJ_String_isLatin1_6 ?_
  refine p_getU (k := 0) G dJ_String_isLatin1_7 flu_String_15 rfl rfl ?_
  refine (?_ : PT Γ 1 (shU n) 10 σ [(0, .ref (ga Γ 0))] [.int (zJ (σ 0 1))])
  rw [h1]
  refine p_ifne (tgt := 17) (A := (none : Option Unit)) (B := some ()) (out := ()) G dJ_String_isLatin1_10 (by decide) (by decide) (fun c _ => absurd c (by decide)) (fun _ _ => ?_)
  refine p_iconst G rfl dJ_String_isLatin1_13 ?_
  refine p_goto (tgt := 18) G dJ_String_isLatin1_14 (by decide) ?_
  exact p_nret G hR dJ_String_isLatin1_18 (by decide) rfl rfl
theorem c_mLength (l : Launch) {D : va_G} {yy : Nat → ClassId} {tk tv a : Nat → Nat} {σ : Mm} {n : Nat} (hn : n ≤ 34) (h1 : σ 0 1 = 0) : CT l yJ_String_length cJ_String_length 1 (some .int) (rmS 1 0 0 20) (shU n) D yy tk tv a σ [.ref (a 0)] σ (some (.int (zJ (n : Int)))) := by
  refine ct_of (Ar := fun a tk => [.ref (a 0)]) (by decide) (Nat.le_of_ble_eq_true rfl) (fun Γ G _ _ hR => ?_)
  refine (?_ : PT Γ 1 (shU n) 0 σ [(0, .ref (ga Γ 0))] [])
  have hcs := rt_cs hR
  refine p_aload_n G rfl 0 rfl dJ_String_length_0 ?_
  refine p_getU (k := 0) G dJ_String_length_1 flu_String_9 rfl rfl ?_
  refine (?_ : PT Γ 1 (shU n) 4 σ [(0, .ref (ga Γ 0))] [.ref (ga Γ 1)])
  refine p_alen (k := 1) G dJ_String_length_4 rfl (by decide) (by omega) ?_
  refine p_aload_n G rfl 0 rfl dJ_String_length_5 ?_
  refine p_callVi (k0 := 0) (ci := 0) (As := []) G dJ_String_length_6 lk_java_lang_String_335 (c_mCoder (gl Γ) h1) rfl rfl rfl rfl (Nat.le_of_ble_eq_true rfl) ⟨rfl, rfl, Nat.le_of_ble_eq_true rfl, Nat.le_of_ble_eq_true rfl⟩ hcs ?_
  refine p_ishr G dJ_String_length_9 ?_
  rw [(sh_s n (by omega)).2]
  exact p_iret G hR dJ_String_length_10 rfl rfl
theorem c_mCharL (l : Launch) {D : va_G} {yy : Nat → ClassId} {tk tv a : Nat → Nat} {σ : Mm} {n i d : Nat} (hn : n ≤ 34) (hi : i < n) (hd : d < 128) (ht : σ 0 i = (d : Int)) : CT l yJ_StringLatin1_charAt cJ_StringLatin1_charAt 2 (some .char) (rmS 2 0 0 43) (shV n) D yy tk tv a σ [.ref (a 0), .int (zJ (i : Int))] σ (some (.int (zJ (d : Int)))) := by
  refine ct_of (Ar := fun a tk => [.ref (a 0), .int (zJ (i : Int))]) (by decide) (Nat.le_of_ble_eq_true rfl) (fun Γ G _ _ hR => ?_)
  refine (?_ : PT Γ 2 (shV n) 0 σ [(0, .ref (ga Γ 0)), (1, .int (zJ (i : Int)))] [])
  have hcs := rt_cs hR
  obtain ⟨e1, e2, e3⟩ := d_ok d hd
  have hz : zin (i : Int) n := ⟨by rw [zw_n (by omega)]; omega, by rw [zw_n (by omega)]; omega⟩
  refine p_iload_n G rfl 1 rfl dJ_StringLatin1_charAt_0 ?_
  refine p_aload_n G rfl 0 rfl dJ_StringLatin1_charAt_1 ?_
  refine p_alen (k := 0) G dJ_StringLatin1_charAt_2 rfl (by decide) (by omega) ?_
  refine p_callS0 G dJ_StringLatin1_charAt_3 lk_java_lang_StringLatin1_9 (c_J_String_checkIndex (gl Γ) (n := (n : Int)) hz.1 (by rw [zw_n (q := n) (by omega)]; exact hz.2)) (As := [.int (zJ (i : Int)), .int (zJ (n : Int))]) rfl rfl rfl (Nat.le_of_ble_eq_true rfl) ⟨rfl, rfl, Nat.le_of_ble_eq_true rfl, Nat.le_of_ble_eq_true rfl⟩ hcs ?_
  refine p_aload_n G rfl 0 rfl dJ_StringLatin1_charAt_6 ?_
  refine p_iload_n G rfl 1 rfl dJ_StringLatin1_charAt_7 ?_
  refine p_bald (k := 0) (A := some ()) (out := ()) G dJ_StringLatin1_charAt_8 rfl (zt_c _) (if_pos hz) (fun _ _ => ?_)
  rw [show zix (i : Int) = i from by unfold zix; rw [zw_n (by omega)]; rfl, ht]
  refine p_sipush G (by decide) (by decide) dJ_StringLatin1_charAt_9 ?_
  refine p_iand G dJ_StringLatin1_charAt_12 ?_
  rw [e1]
  refine p_i2c G e2 dJ_StringLatin1_charAt_13 ?_
  exact p_nret G hR dJ_StringLatin1_charAt_14 e3 rfl rfl
theorem zk_U : ∀ n : Nat, n < 35 → zk (shV n) (shU n) [1] = true ∧ zs (shU n) [1] = true := by decide +kernel
theorem c_mCharAt (l : Launch) {D : va_G} {yy : Nat → ClassId} {tk tv a : Nat → Nat} {σ : Mm} {n i d : Nat} (hn : n ≤ 34) (h1 : σ 0 1 = 0) (hi : i < n) (hd : d < 128) (ht : σ 1 i = (d : Int)) : CT l yJ_String_charAt cJ_String_charAt 2 (some .char) (rmS 3 0 0 64) (shU n) D yy tk tv a σ [.ref (a 0), .int (zJ (i : Int))] σ (some (.int (zJ (d : Int)))) := by
  refine ct_of (Ar := fun a tk => [.ref (a 0), .int (zJ (i : Int))]) (by decide) (Nat.le_of_ble_eq_true rfl) (fun Γ G _ _ hR => ?_)
  refine (?_ : PT Γ 2 (shU n) 0 σ [(0, .ref (ga Γ 0)), (1, .int (zJ (i : Int)))] [])
  have hcs := rt_cs hR
  obtain ⟨e1, e2, e3⟩ := d_ok d hd
  refine p_aload_n G rfl 0 rfl dJ_String_charAt_0 ?_
  refine p_callVi (k0 := 0) (ci := 0) (As := []) G dJ_String_charAt_1 lk_java_lang_String_492 (c_mIsLatin1 (gl Γ) h1) rfl rfl rfl rfl (Nat.le_of_ble_eq_true rfl) ⟨rfl, rfl, Nat.le_of_ble_eq_true rfl, Nat.le_of_ble_eq_true rfl⟩ hcs ?_
  refine p_ifeq (tgt := 16) (A := (none : Option Unit)) (B := some ()) (out := ()) G dJ_String_charAt_4 (by decide) (by decide) (fun c _ => absurd c (by decide)) (fun _ _ => ?_)
  refine p_aload_n G rfl 0 rfl dJ_String_charAt_7 ?_
  refine p_getU (k := 0) G dJ_String_charAt_8 flu_String_9 rfl rfl ?_
  refine (?_ : PT Γ 2 (shU n) 11 σ [(0, .ref (ga Γ 0)), (1, .int (zJ (i : Int)))] [.ref (ga Γ 1)])
  refine p_iload_n G rfl 1 rfl dJ_String_charAt_11 ?_
  refine p_callSr G [1] dJ_String_charAt_12 lk_java_lang_String_495 (c_mCharL (gl Γ) hn hi hd ht) (As := [.ref (ga Γ 1), .int (zJ (i : Int))]) rfl (zk_U n (by omega)).1 (zs_x (zk_U n (by omega)).2 σ) rfl (Nat.le_of_ble_eq_true rfl) ⟨rfl, rfl, Nat.le_of_ble_eq_true rfl, Nat.le_of_ble_eq_true rfl⟩ hcs ?_
  exact p_nret G hR dJ_String_charAt_15 e3 rfl rfl
/-! the worlds of the beginning -/
def shE0 (n : Nat) : Sh := shX ++ [(10, 4, ([207, 0, 0, 0], 0, 0), none), (2, n, ([], 0, 0), none)]
def shE0g (n : Nat) : Sh := shX ++ [(10, 4, ([207, 0, 0, 0], 0, 0), some (200, 0)), (2, n, ([], 0, 0), some (200, 0))]
def shE1 (n : Nat) : Sh := shX ++ [(10, 4, ([207, 0, 0, 0], 0, 0), none), (2, n, ([], 0, 0), none), (0, 5, ([], 0, 0), none)]
def shE1g (n : Nat) : Sh := shX ++ [(10, 4, ([207, 0, 0, 0], 0, 0), none), (2, n, ([], 0, 0), none), (0, 5, ([], 0, 0), some (200, 0))]
