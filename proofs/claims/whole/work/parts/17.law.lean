theorem p_iincE {β : Type} {Γ : Cx} {cc : ByteArray} {own : String} {nL : Nat} {rm : Room} {sh : Sh} {pc : Nat} {σ : Mm} {lv : List (Nat × Value)} {st : List Value} (G : Gd Γ cc own nL rm sh) {i : Nat} {n x : Int} {kk : Int → Option β} {out : β} {lv' : Int → List (Nat × Value)} (hd : decode cc pc = .ok (.iinc i n, 3)) (h : bnd (x + n) kk = some out) (q : Nat) (hq : lv[q]? = some (i, .int (zJ x))) (hn : i < nL) (hlv : ∀ x : Int, (i, .int (zJ x)) :: lv.filter (fun q => !(q.1 == i) && !(q.1 + 1 == i && q.2.category == 2)) = lv' x) (k : ∀ v : Int, v = x + n → kk v = some out → PT Γ nL sh (pc + 3) σ (lv' v) st) : PT Γ nL sh pc σ lv st := p_iinc (kk := fun v => if v = x + n then kk v else none) G hd ((if_pos rfl).trans h) q hq hn hlv (fun v h => by
  by_cases c : v = x + n
  · exact k v c ((if_pos c).symm.trans h)
  · exact absurd ((if_neg c).symm.trans h) (by intro z; cases z))
theorem le_rc {x : Nat} (h : x ≤ 600000) : x ≤ room_1.cells := Nat.le_trans h (Nat.le_of_ble_eq_true rfl)
theorem le_rs {x : Nat} (h : x ≤ 7000000) : x ≤ room_1.slots := Nat.le_trans h (Nat.le_of_ble_eq_true rfl)
theorem law_u {L : Nat} {u : Int} (hL : L ≤ 3072) (h0 : 0 ≤ u) (h1 : u ≤ 3072) (c : ¬ zw ((L : Int) - (6 : Int)) < zw u) : u + 6 ≤ 3072 := by
  rw [zw_eq (by omega) (by omega), zw_eq (by omega) (by omega)] at c
  omega
set_option maxHeartbeats 40000000 in
set_option maxRecDepth 100000 in
theorem law_loop (l : Launch) (hl : l.stackTraces = false) {xs : Mm} {L b : Nat} {nm : String} {e : Mm} {s : Mm × Int} (h : lup (fun (s : Mm × Int) => x_L_law_b28 xs L s.1 s.2) s = some e) : ∀ (Γ : Cx) (m n : Nat), Gd Γ code R_law 10 room_1 shLaw → RTN Γ shLaw shLaw lawR xs none L b → Mk Γ l nm m n → 0 ≤ s.2 → s.2 ≤ 3072 → (m : Int) + 12 * (3100 - s.2) ≤ 600000 → (n : Int) + 500 * (3100 - s.2) ≤ 7000000 → PT Γ 10 shLaw 28 s.1 [(0, .ref b), (1, .ref (ga Γ 26)), (2, .ref (ga Γ 0)), (3, .ref (ga Γ 127)), (4, .ref (ga Γ 128)), (5, .int (zJ s.2))] [] := by
  refine lup_walk (At := fun s => ∀ (Γ : Cx) (m n : Nat), Gd Γ code R_law 10 room_1 shLaw → RTN Γ shLaw shLaw lawR xs none L b → Mk Γ l nm m n → 0 ≤ s.2 → s.2 ≤ 3072 → (m : Int) + 12 * (3100 - s.2) ≤ 600000 → (n : Int) + 500 * (3100 - s.2) ≤ 7000000 → PT Γ 10 shLaw 28 s.1 [(0, .ref b), (1, .ref (ga Γ 26)), (2, .ref (ga Γ 0)), (3, .ref (ga Γ 127)), (4, .ref (ga Γ 128)), (5, .int (zJ s.2))] []) (fun s r hf hin28 _ => ?_) h
  obtain ⟨σ28, u5_28⟩ := s
  clear h
  intro Γ m n G hR hM hu0 hu1 hm hn
  have hu0 : 0 ≤ u5_28 := hu0
  have hu1 : u5_28 ≤ 3072 := hu1
  have hm : (m : Int) + 12 * (3100 - u5_28) ≤ 600000 := hm
  have hn : (n : Int) + 500 * (3100 - u5_28) ≤ 7000000 := hn
  have h : x_L_law_b28 xs L σ28 u5_28 = some r := hf
  clear hf
  unfold x_L_law_b28 at h
  have hcs := mk_cs G hM (le_rc (by omega)) (le_rs (by omega))
  refine (?_ : PT Γ 10 shLaw 28 σ28 [(0, .ref b), (1, .ref (ga Γ 26)), (2, .ref (ga Γ 0)), (3, .ref (ga Γ 127)), (4, .ref (ga Γ 128)), (5, .int (zJ u5_28))] [])
  refine p_iload G 5 rfl dL_law_28 ?_
  refine p_aload_n G rfl 0 rfl dL_law_30 ?_
  refine p_slen G hR dL_law_31 ?_
  refine p_bipush G (by decide) (by decide) dL_law_32 ?_
  refine p_isub G dL_law_34 ?_
  refine p_icmpgt (tgt := 1633) G dL_law_35 (by decide) h (fun c466 h => ?_) (fun c466 h => ?_)
  · refine p_iconst G rfl dL_law_1633 ?_
    exact p_lawret G hR hM (le_rc (by omega)) (le_rs (by omega)) dL_law_1634
  · have hu6 := law_u (rtn_law (s1 := shLaw) (s8 := shLaw) hR).2.2.2.2.2.2.2 hu0 hu1 c466
    refine p_aload_n G rfl 0 rfl dL_law_38 ?_
    refine p_iload G 5 rfl dL_law_39 ?_
    refine p_sld G hR dL_law_41 h (fun c1 h => ?_)
    refine p_bipush G (by decide) (by decide) dL_law_42 ?_
    refine p_iand G dL_law_44 ?_
    refine zite h (fun c0_45 h => ?_) (fun c0_45 h => ?_)
    · refine p_tin (tgt := 180) (off := 135) G dL_law_45 c0_45 (by decide) (by decide) rfl (by decide) ?_
      refine p_aload_n G rfl 1 rfl dL_law_180 ?_
      obtain ⟨⟨σ2, v3⟩, hc, h⟩ := bnd_some h
      rw [un2_mk] at h
      refine p_callVN (lv' := fun a => [(0, .ref b), (1, .ref (a 26)), (2, .ref (a 0)), (3, .ref (a 127)), (4, .ref (a 128)), (5, .int (zJ u5_28))]) (st' := fun a => []) G hR hM zl_72 dL_law_181 lk_L_79 (c_X6_load (gl Γ) hc) (As := []) (ci := 6) rfl zk_72 (by decide +kernel) (by decide +kernel) (zs_x zs_72 _) rfl rfl rfl (Nat.le_of_ble_eq_true rfl) ⟨rfl, rfl, Nat.le_of_ble_eq_true rfl, Nat.le_of_ble_eq_true rfl⟩ (le_rc (by omega)) (le_rs (by omega)) h (fun a e => by have q0 := e 0 _ rfl rfl; have q26 := e 26 _ rfl rfl; have q127 := e 127 _ rfl rfl; have q128 := e 128 _ rfl rfl; exact ⟨by simp only [q0, q26, q127, q128], by rfl⟩) (fun Γ G hR hM σ4 h => ?_)
      refine (?_ : PT Γ 10 shLaw 184 σ4 [(0, .ref b), (1, .ref (ga Γ 26)), (2, .ref (ga Γ 0)), (3, .ref (ga Γ 127)), (4, .ref (ga Γ 128)), (5, .int (zJ u5_28))] [.int (zJ v3)])
      have hcs := mk_cs G hM (le_rc (by omega)) (le_rs (by omega))
      refine p_aload_n G rfl 2 rfl dL_law_184 ?_
      obtain ⟨⟨σ5, v6⟩, hc, h⟩ := bnd_some h
      rw [un2_mk] at h
      refine p_callV G zl_73 dL_law_185 lk_L_83 (c_X7_load (gl Γ) hc) (As := []) (ci := 7) rfl zk_73 (zs_x zs_73 _) rfl rfl rfl (Nat.le_of_ble_eq_true rfl) ⟨rfl, rfl, Nat.le_of_ble_eq_true rfl, Nat.le_of_ble_eq_true rfl⟩ hcs ?_
      refine p_nm h (fun σ7 h => ?_)
      refine p_icmpeq (tgt := 1627) G dL_law_188 (by decide) h (fun c9 h => ?_) (fun c9 h => ?_)
      · refine p_iincE (lv' := fun v8 => [(5, .int (zJ v8)), (0, .ref b), (1, .ref (ga Γ 26)), (2, .ref (ga Γ 0)), (3, .ref (ga Γ 127)), (4, .ref (ga Γ 128))]) G dL_law_1627 h 5 rfl (by decide) (fun _ => rfl) (fun v8 hv8 h => ?_)
        refine p_goto (tgt := 28) G dL_law_1630 (by decide) ?_
        refine p_lv [1, 2, 3, 4, 5, 0] rfl ?_
        exact hin28 _ (Option.some.inj h).symm Γ _ _ G hR hM (by show 0 ≤ _ ; omega) (by show _ ≤ (3072 : Int); omega) (by show _ ≤ (600000 : Int); push_cast; omega) (by show _ ≤ (7000000 : Int); push_cast; omega)
      · cases h
    · refine zite h (fun c1_45 h => ?_) (fun c1_45 h => ?_)
      · refine p_tin (tgt := 193) (off := 148) G dL_law_45 c1_45 (by decide) (by decide) rfl (by decide) ?_
        refine p_aload_n G rfl 1 rfl dL_law_193 ?_
        refine p_aload_n G rfl 0 rfl dL_law_194 ?_
        refine p_iload G 5 rfl dL_law_195 ?_
        refine p_iconst G rfl dL_law_197 ?_
        refine p_iadd G dL_law_198 ?_
        refine p_sld G hR dL_law_199 h (fun c10 h => ?_)
        refine p_ifeq (tgt := 207) G dL_law_200 (by decide) h (fun c41 h => ?_) (fun c41 h => ?_)
        · refine p_iconst G rfl dL_law_207 ?_
          obtain ⟨⟨σ11, v12⟩, hc, h⟩ := bnd_some h
          rw [un2_mk] at h
          refine p_callVN (lv' := fun a => [(0, .ref b), (1, .ref (a 26)), (2, .ref (a 0)), (3, .ref (a 127)), (4, .ref (a 128)), (5, .int (zJ u5_28))]) (st' := fun a => []) G hR hM zl_72 dL_law_208 lk_L_84 (c_X6_draw (gl Γ) hc) (As := [.int (zJ (0 : Int))]) (ci := 6) rfl zk_72 (by decide +kernel) (by decide +kernel) (zs_x zs_72 _) rfl rfl rfl (Nat.le_of_ble_eq_true rfl) ⟨rfl, rfl, Nat.le_of_ble_eq_true rfl, Nat.le_of_ble_eq_true rfl⟩ (le_rc (by omega)) (le_rs (by omega)) h (fun a e => by have q0 := e 0 _ rfl rfl; have q26 := e 26 _ rfl rfl; have q127 := e 127 _ rfl rfl; have q128 := e 128 _ rfl rfl; exact ⟨by simp only [q0, q26, q127, q128], by rfl⟩) (fun Γ G hR hM σ13 h => ?_)
          refine (?_ : PT Γ 10 shLaw 211 σ13 [(0, .ref b), (1, .ref (ga Γ 26)), (2, .ref (ga Γ 0)), (3, .ref (ga Γ 127)), (4, .ref (ga Γ 128)), (5, .int (zJ u5_28))] [.int (zJ v12)])
          have hcs := mk_cs G hM (le_rc (by omega)) (le_rs (by omega))
          refine p_aload_n G rfl 2 rfl dL_law_211 ?_
          refine p_aload_n G rfl 0 rfl dL_law_212 ?_
          refine p_iload G 5 rfl dL_law_213 ?_
          refine p_iconst G rfl dL_law_215 ?_
          refine p_iadd G dL_law_216 ?_
          refine p_sld G hR dL_law_217 h (fun c14 h => ?_)
          refine p_ifeq (tgt := 225) G dL_law_218 (by decide) h (fun c25 h => ?_) (fun c25 h => ?_)
          · refine p_iconst G rfl dL_law_225 ?_
            obtain ⟨⟨σ15, v16⟩, hc, h⟩ := bnd_some h
            rw [un2_mk] at h
            refine p_callV G zl_73 dL_law_226 lk_L_88 (c_X7_draw (gl Γ) hc) (As := [.int (zJ (0 : Int))]) (ci := 7) rfl zk_73 (zs_x zs_73 _) rfl rfl rfl (Nat.le_of_ble_eq_true rfl) ⟨rfl, rfl, Nat.le_of_ble_eq_true rfl, Nat.le_of_ble_eq_true rfl⟩ hcs ?_
            refine p_nm h (fun σ17 h => ?_)
            refine p_icmpeq (tgt := 1627) G dL_law_229 (by decide) h (fun c19 h => ?_) (fun c19 h => ?_)
            · refine p_iincE (lv' := fun v18 => [(5, .int (zJ v18)), (0, .ref b), (1, .ref (ga Γ 26)), (2, .ref (ga Γ 0)), (3, .ref (ga Γ 127)), (4, .ref (ga Γ 128))]) G dL_law_1627 h 5 rfl (by decide) (fun _ => rfl) (fun v18 hv18 h => ?_)
              refine p_goto (tgt := 28) G dL_law_1630 (by decide) ?_
              refine p_lv [1, 2, 3, 4, 5, 0] rfl ?_
              exact hin28 _ (Option.some.inj h).symm Γ _ _ G hR hM (by show 0 ≤ _ ; omega) (by show _ ≤ (3072 : Int); omega) (by show _ ≤ (600000 : Int); push_cast; omega) (by show _ ≤ (7000000 : Int); push_cast; omega)
            · cases h
          · refine p_iconst G rfl dL_law_221 ?_
            refine p_goto (tgt := 226) G dL_law_222 (by decide) ?_
            obtain ⟨⟨σ20, v21⟩, hc, h⟩ := bnd_some h
            rw [un2_mk] at h
            refine p_callV G zl_73 dL_law_226 lk_L_88 (c_X7_draw (gl Γ) hc) (As := [.int (zJ (1 : Int))]) (ci := 7) rfl zk_73 (zs_x zs_73 _) rfl rfl rfl (Nat.le_of_ble_eq_true rfl) ⟨rfl, rfl, Nat.le_of_ble_eq_true rfl, Nat.le_of_ble_eq_true rfl⟩ hcs ?_
            refine p_nm h (fun σ22 h => ?_)
            refine p_icmpeq (tgt := 1627) G dL_law_229 (by decide) h (fun c24 h => ?_) (fun c24 h => ?_)
            · refine p_iincE (lv' := fun v23 => [(5, .int (zJ v23)), (0, .ref b), (1, .ref (ga Γ 26)), (2, .ref (ga Γ 0)), (3, .ref (ga Γ 127)), (4, .ref (ga Γ 128))]) G dL_law_1627 h 5 rfl (by decide) (fun _ => rfl) (fun v23 hv23 h => ?_)
              refine p_goto (tgt := 28) G dL_law_1630 (by decide) ?_
              refine p_lv [1, 2, 3, 4, 5, 0] rfl ?_
              exact hin28 _ (Option.some.inj h).symm Γ _ _ G hR hM (by show 0 ≤ _ ; omega) (by show _ ≤ (3072 : Int); omega) (by show _ ≤ (600000 : Int); push_cast; omega) (by show _ ≤ (7000000 : Int); push_cast; omega)
            · cases h
        · refine p_iconst G rfl dL_law_203 ?_
          refine p_goto (tgt := 208) G dL_law_204 (by decide) ?_
          obtain ⟨⟨σ26, v27⟩, hc, h⟩ := bnd_some h
          rw [un2_mk] at h
          refine p_callVN (lv' := fun a => [(0, .ref b), (1, .ref (a 26)), (2, .ref (a 0)), (3, .ref (a 127)), (4, .ref (a 128)), (5, .int (zJ u5_28))]) (st' := fun a => []) G hR hM zl_72 dL_law_208 lk_L_84 (c_X6_draw (gl Γ) hc) (As := [.int (zJ (1 : Int))]) (ci := 6) rfl zk_72 (by decide +kernel) (by decide +kernel) (zs_x zs_72 _) rfl rfl rfl (Nat.le_of_ble_eq_true rfl) ⟨rfl, rfl, Nat.le_of_ble_eq_true rfl, Nat.le_of_ble_eq_true rfl⟩ (le_rc (by omega)) (le_rs (by omega)) h (fun a e => by have q0 := e 0 _ rfl rfl; have q26 := e 26 _ rfl rfl; have q127 := e 127 _ rfl rfl; have q128 := e 128 _ rfl rfl; exact ⟨by simp only [q0, q26, q127, q128], by rfl⟩) (fun Γ G hR hM σ28 h => ?_)
          refine (?_ : PT Γ 10 shLaw 211 σ28 [(0, .ref b), (1, .ref (ga Γ 26)), (2, .ref (ga Γ 0)), (3, .ref (ga Γ 127)), (4, .ref (ga Γ 128)), (5, .int (zJ u5_28))] [.int (zJ v27)])
          have hcs := mk_cs G hM (le_rc (by omega)) (le_rs (by omega))
          refine p_aload_n G rfl 2 rfl dL_law_211 ?_
          refine p_aload_n G rfl 0 rfl dL_law_212 ?_
          refine p_iload G 5 rfl dL_law_213 ?_
          refine p_iconst G rfl dL_law_215 ?_
          refine p_iadd G dL_law_216 ?_
          refine p_sld G hR dL_law_217 h (fun c29 h => ?_)
          refine p_ifeq (tgt := 225) G dL_law_218 (by decide) h (fun c40 h => ?_) (fun c40 h => ?_)
          · refine p_iconst G rfl dL_law_225 ?_
            obtain ⟨⟨σ30, v31⟩, hc, h⟩ := bnd_some h
            rw [un2_mk] at h
            refine p_callV G zl_73 dL_law_226 lk_L_88 (c_X7_draw (gl Γ) hc) (As := [.int (zJ (0 : Int))]) (ci := 7) rfl zk_73 (zs_x zs_73 _) rfl rfl rfl (Nat.le_of_ble_eq_true rfl) ⟨rfl, rfl, Nat.le_of_ble_eq_true rfl, Nat.le_of_ble_eq_true rfl⟩ hcs ?_
            refine p_nm h (fun σ32 h => ?_)
            refine p_icmpeq (tgt := 1627) G dL_law_229 (by decide) h (fun c34 h => ?_) (fun c34 h => ?_)
            · refine p_iincE (lv' := fun v33 => [(5, .int (zJ v33)), (0, .ref b), (1, .ref (ga Γ 26)), (2, .ref (ga Γ 0)), (3, .ref (ga Γ 127)), (4, .ref (ga Γ 128))]) G dL_law_1627 h 5 rfl (by decide) (fun _ => rfl) (fun v33 hv33 h => ?_)
              refine p_goto (tgt := 28) G dL_law_1630 (by decide) ?_
              refine p_lv [1, 2, 3, 4, 5, 0] rfl ?_
              exact hin28 _ (Option.some.inj h).symm Γ _ _ G hR hM (by show 0 ≤ _ ; omega) (by show _ ≤ (3072 : Int); omega) (by show _ ≤ (600000 : Int); push_cast; omega) (by show _ ≤ (7000000 : Int); push_cast; omega)
            · cases h
          · refine p_iconst G rfl dL_law_221 ?_
            refine p_goto (tgt := 226) G dL_law_222 (by decide) ?_
            obtain ⟨⟨σ35, v36⟩, hc, h⟩ := bnd_some h
            rw [un2_mk] at h
            refine p_callV G zl_73 dL_law_226 lk_L_88 (c_X7_draw (gl Γ) hc) (As := [.int (zJ (1 : Int))]) (ci := 7) rfl zk_73 (zs_x zs_73 _) rfl rfl rfl (Nat.le_of_ble_eq_true rfl) ⟨rfl, rfl, Nat.le_of_ble_eq_true rfl, Nat.le_of_ble_eq_true rfl⟩ hcs ?_
            refine p_nm h (fun σ37 h => ?_)
            refine p_icmpeq (tgt := 1627) G dL_law_229 (by decide) h (fun c39 h => ?_) (fun c39 h => ?_)
            · refine p_iincE (lv' := fun v38 => [(5, .int (zJ v38)), (0, .ref b), (1, .ref (ga Γ 26)), (2, .ref (ga Γ 0)), (3, .ref (ga Γ 127)), (4, .ref (ga Γ 128))]) G dL_law_1627 h 5 rfl (by decide) (fun _ => rfl) (fun v38 hv38 h => ?_)
              refine p_goto (tgt := 28) G dL_law_1630 (by decide) ?_
              refine p_lv [1, 2, 3, 4, 5, 0] rfl ?_
              exact hin28 _ (Option.some.inj h).symm Γ _ _ G hR hM (by show 0 ≤ _ ; omega) (by show _ ≤ (3072 : Int); omega) (by show _ ≤ (600000 : Int); push_cast; omega) (by show _ ≤ (7000000 : Int); push_cast; omega)
            · cases h
      · refine zite h (fun c2_45 h => ?_) (fun c2_45 h => ?_)
        · refine p_tin (tgt := 234) (off := 189) G dL_law_45 c2_45 (by decide) (by decide) rfl (by decide) ?_
          refine p_aload_n G rfl 1 rfl dL_law_234 ?_
          refine p_aload_n G rfl 0 rfl dL_law_235 ?_
          refine p_iload G 5 rfl dL_law_236 ?_
          refine p_iconst G rfl dL_law_238 ?_
          refine p_iadd G dL_law_239 ?_
          refine p_sld G hR dL_law_240 h (fun c42 h => ?_)
          refine p_aload_n G rfl 3 rfl dL_law_241 ?_
          obtain ⟨⟨σ43, v44⟩, hc, h⟩ := bnd_some h
          rw [un2_mk] at h
          refine p_callHS (np := 3) (lv' := fun a => [(0, .ref b), (1, .ref (a 26)), (2, .ref (a 0)), (3, .ref (a 127)), (4, .ref (a 128)), (5, .int (zJ u5_28))]) (st' := fun a => []) G hR hM zl_74 dL_law_242 gm_823 gm_824 gm_88 gm_825 (by decide +kernel) (c_L_drop (gl Γ) (by rw [hM.1]; exact hl) hc) (As := [.ref (ga Γ 26), .int (zJ (xs 0 (zix (u5_28 + (1 : Int))))), .ref (ga Γ 127)]) rfl zk_74 (by decide +kernel) (by decide +kernel) (zs_x zs_74 _) rfl (Nat.le_of_ble_eq_true rfl) ⟨rfl, rfl, Nat.le_of_ble_eq_true rfl, Nat.le_of_ble_eq_true rfl⟩ (le_rc (by omega)) (le_rs (by omega)) h (fun a e => by have q0 := e 0 _ rfl rfl; have q26 := e 26 _ rfl rfl; have q127 := e 127 _ rfl rfl; have q128 := e 128 _ rfl rfl; exact ⟨by simp only [q0, q26, q127, q128], by rfl⟩) (fun Γ G hR hM σ45 h => ?_)
          refine (?_ : PT Γ 10 shLaw 245 σ45 [(0, .ref b), (1, .ref (ga Γ 26)), (2, .ref (ga Γ 0)), (3, .ref (ga Γ 127)), (4, .ref (ga Γ 128)), (5, .int (zJ u5_28))] [.int (zJ v44)])
          have hcs := mk_cs G hM (le_rc (by omega)) (le_rs (by omega))
          refine p_istoreU (lv' := [(6, .int (zJ v44)), (0, .ref b), (1, .ref (ga Γ 26)), (2, .ref (ga Γ 0)), (3, .ref (ga Γ 127)), (4, .ref (ga Γ 128)), (5, .int (zJ u5_28))]) G dL_law_245 (by decide) rfl ?_
          refine p_aload_n G rfl 3 rfl dL_law_247 ?_
          refine p_aload_n G rfl 1 rfl dL_law_248 ?_
          refine p_iload G 6 rfl dL_law_249 ?_
          refine p_iconst G rfl dL_law_251 ?_
          refine p_iadd G dL_law_252 ?_
          refine p_sld G hR dL_law_253 h (fun c46 h => ?_)
          obtain ⟨⟨σ47, v48⟩, hc, h⟩ := bnd_some h
          rw [un2_mk] at h
          refine p_callV G zl_73 dL_law_254 lk_L_94 (c_X7_drop (gl Γ) hc) (As := [.int (zJ (xs 0 (zix (u5_28 + (1 : Int)))))]) (ci := 7) rfl zk_73 (zs_x zs_73 _) rfl rfl rfl (Nat.le_of_ble_eq_true rfl) ⟨rfl, rfl, Nat.le_of_ble_eq_true rfl, Nat.le_of_ble_eq_true rfl⟩ hcs ?_
          refine p_nm h (fun σ49 h => ?_)
          refine p_istoreU (lv' := [(7, .int (zJ v48)), (6, .int (zJ v44)), (0, .ref b), (1, .ref (ga Γ 26)), (2, .ref (ga Γ 0)), (3, .ref (ga Γ 127)), (4, .ref (ga Γ 128)), (5, .int (zJ u5_28))]) G dL_law_257 (by decide) rfl ?_
          refine p_aload_n G rfl 4 rfl dL_law_259 ?_
          obtain ⟨v50, hc, h⟩ := bnd_some h
          refine p_callVr G zl_73 dL_law_260 lk_L_95 (c_X7_thrown (gl Γ) hc) (As := []) (ci := 7) rfl zk_73 (zs_x zs_73 _) rfl rfl rfl (Nat.le_of_ble_eq_true rfl) ⟨rfl, rfl, Nat.le_of_ble_eq_true rfl, Nat.le_of_ble_eq_true rfl⟩ hcs ?_
          refine p_iload G 1 rfl dL_law_263 ?_
          refine p_icmpeq (tgt := 270) G dL_law_265 (by decide) h (fun c56 h => ?_) (fun c56 h => ?_)
          · refine p_iload G 1 rfl dL_law_270 ?_
            refine p_ifne (tgt := 287) G dL_law_272 (by decide) h (fun c55 h => ?_) (fun c55 h => ?_)
            · refine p_goto (tgt := 1627) G dL_law_287 (by decide) ?_
              refine p_iincE (lv' := fun v51 => [(5, .int (zJ v51)), (7, .int (zJ v48)), (6, .int (zJ v44)), (0, .ref b), (1, .ref (ga Γ 26)), (2, .ref (ga Γ 0)), (3, .ref (ga Γ 127)), (4, .ref (ga Γ 128))]) G dL_law_1627 h 7 rfl (by decide) (fun _ => rfl) (fun v51 hv51 h => ?_)
              refine p_goto (tgt := 28) G dL_law_1630 (by decide) ?_
              refine p_lv [3, 4, 5, 6, 7, 0] rfl ?_
              exact hin28 _ (Option.some.inj h).symm Γ _ _ G hR hM (by show 0 ≤ _ ; omega) (by show _ ≤ (3072 : Int); omega) (by show _ ≤ (600000 : Int); push_cast; omega) (by show _ ≤ (7000000 : Int); push_cast; omega)
            · refine p_aload_n G rfl 5 rfl dL_law_275 ?_
              refine p_iconst G rfl dL_law_276 ?_
              refine p_lald G dL_law_277 (k := 127) rfl (zt_c _) h (fun c52 h => ?_)
              refine p_iload G 0 rfl dL_law_278 ?_
              refine p_i2l G dL_law_280 ?_
              refine p_lcmp G dL_law_281 ?_
              refine p_ifeq (tgt := 287) G dL_law_282 (by decide) h (fun c54 h => ?_) (fun c54 h => ?_)
              · refine p_goto (tgt := 1627) G dL_law_287 (by decide) ?_
                refine p_iincE (lv' := fun v53 => [(5, .int (zJ v53)), (7, .int (zJ v48)), (6, .int (zJ v44)), (0, .ref b), (1, .ref (ga Γ 26)), (2, .ref (ga Γ 0)), (3, .ref (ga Γ 127)), (4, .ref (ga Γ 128))]) G dL_law_1627 h 7 rfl (by decide) (fun _ => rfl) (fun v53 hv53 h => ?_)
                refine p_goto (tgt := 28) G dL_law_1630 (by decide) ?_
                refine p_lv [3, 4, 5, 6, 7, 0] rfl ?_
                exact hin28 _ (Option.some.inj h).symm Γ _ _ G hR hM (by show 0 ≤ _ ; omega) (by show _ ≤ (3072 : Int); omega) (by show _ ≤ (600000 : Int); push_cast; omega) (by show _ ≤ (7000000 : Int); push_cast; omega)
              · cases h
          · cases h
        · refine zite h (fun c3_45 h => ?_) (fun c3_45 h => ?_)
          · refine p_tin (tgt := 290) (off := 245) G dL_law_45 c3_45 (by decide) (by decide) rfl (by decide) ?_
            refine p_aload_n G rfl 1 rfl dL_law_290 ?_
            refine p_aload_n G rfl 0 rfl dL_law_291 ?_
            refine p_iload G 5 rfl dL_law_292 ?_
            refine p_iconst G rfl dL_law_294 ?_
            refine p_iadd G dL_law_295 ?_
            refine p_sld G hR dL_law_296 h (fun c57 h => ?_)
            refine p_aload_n G rfl 3 rfl dL_law_297 ?_
            obtain ⟨⟨σ58, v59⟩, hc, h⟩ := bnd_some h
            rw [un2_mk] at h
            refine p_callHS (np := 3) (lv' := fun a => [(0, .ref b), (1, .ref (a 26)), (2, .ref (a 0)), (3, .ref (a 127)), (4, .ref (a 128)), (5, .int (zJ u5_28))]) (st' := fun a => []) G hR hM zl_74 dL_law_298 gm_904 gm_905 gm_88 gm_906 (by decide +kernel) (c_L_knock (gl Γ) (by rw [hM.1]; exact hl) hc) (As := [.ref (ga Γ 26), .int (zJ (xs 0 (zix (u5_28 + (1 : Int))))), .ref (ga Γ 127)]) rfl zk_74 (by decide +kernel) (by decide +kernel) (zs_x zs_74 _) rfl (Nat.le_of_ble_eq_true rfl) ⟨rfl, rfl, Nat.le_of_ble_eq_true rfl, Nat.le_of_ble_eq_true rfl⟩ (le_rc (by omega)) (le_rs (by omega)) h (fun a e => by have q0 := e 0 _ rfl rfl; have q26 := e 26 _ rfl rfl; have q127 := e 127 _ rfl rfl; have q128 := e 128 _ rfl rfl; exact ⟨by simp only [q0, q26, q127, q128], by rfl⟩) (fun Γ G hR hM σ60 h => ?_)
            refine (?_ : PT Γ 10 shLaw 301 σ60 [(0, .ref b), (1, .ref (ga Γ 26)), (2, .ref (ga Γ 0)), (3, .ref (ga Γ 127)), (4, .ref (ga Γ 128)), (5, .int (zJ u5_28))] [.int (zJ v59)])
            have hcs := mk_cs G hM (le_rc (by omega)) (le_rs (by omega))
            refine p_istoreU (lv' := [(6, .int (zJ v59)), (0, .ref b), (1, .ref (ga Γ 26)), (2, .ref (ga Γ 0)), (3, .ref (ga Γ 127)), (4, .ref (ga Γ 128)), (5, .int (zJ u5_28))]) G dL_law_301 (by decide) rfl ?_
            refine p_aload_n G rfl 3 rfl dL_law_303 ?_
            refine p_aload_n G rfl 1 rfl dL_law_304 ?_
            refine p_iload G 6 rfl dL_law_305 ?_
            refine p_iconst G rfl dL_law_307 ?_
            refine p_iadd G dL_law_308 ?_
            refine p_sld G hR dL_law_309 h (fun c61 h => ?_)
            obtain ⟨⟨σ62, v63⟩, hc, h⟩ := bnd_some h
            rw [un2_mk] at h
            refine p_callV G zl_73 dL_law_310 lk_L_100 (c_X7_knock (gl Γ) hc) (As := [.int (zJ (xs 0 (zix (u5_28 + (1 : Int)))))]) (ci := 7) rfl zk_73 (zs_x zs_73 _) rfl rfl rfl (Nat.le_of_ble_eq_true rfl) ⟨rfl, rfl, Nat.le_of_ble_eq_true rfl, Nat.le_of_ble_eq_true rfl⟩ hcs ?_
            refine p_nm h (fun σ64 h => ?_)
            refine p_istoreU (lv' := [(7, .int (zJ v63)), (6, .int (zJ v59)), (0, .ref b), (1, .ref (ga Γ 26)), (2, .ref (ga Γ 0)), (3, .ref (ga Γ 127)), (4, .ref (ga Γ 128)), (5, .int (zJ u5_28))]) G dL_law_313 (by decide) rfl ?_
            refine p_aload_n G rfl 4 rfl dL_law_315 ?_
            obtain ⟨v65, hc, h⟩ := bnd_some h
            refine p_callVr G zl_73 dL_law_316 lk_L_95 (c_X7_thrown (gl Γ) hc) (As := []) (ci := 7) rfl zk_73 (zs_x zs_73 _) rfl rfl rfl (Nat.le_of_ble_eq_true rfl) ⟨rfl, rfl, Nat.le_of_ble_eq_true rfl, Nat.le_of_ble_eq_true rfl⟩ hcs ?_
            refine p_iload G 1 rfl dL_law_319 ?_
            refine p_icmpeq (tgt := 326) G dL_law_321 (by decide) h (fun c71 h => ?_) (fun c71 h => ?_)
            · refine p_iload G 1 rfl dL_law_326 ?_
              refine p_ifne (tgt := 343) G dL_law_328 (by decide) h (fun c70 h => ?_) (fun c70 h => ?_)
              · refine p_goto (tgt := 1627) G dL_law_343 (by decide) ?_
                refine p_iincE (lv' := fun v66 => [(5, .int (zJ v66)), (7, .int (zJ v63)), (6, .int (zJ v59)), (0, .ref b), (1, .ref (ga Γ 26)), (2, .ref (ga Γ 0)), (3, .ref (ga Γ 127)), (4, .ref (ga Γ 128))]) G dL_law_1627 h 7 rfl (by decide) (fun _ => rfl) (fun v66 hv66 h => ?_)
                refine p_goto (tgt := 28) G dL_law_1630 (by decide) ?_
                refine p_lv [3, 4, 5, 6, 7, 0] rfl ?_
                exact hin28 _ (Option.some.inj h).symm Γ _ _ G hR hM (by show 0 ≤ _ ; omega) (by show _ ≤ (3072 : Int); omega) (by show _ ≤ (600000 : Int); push_cast; omega) (by show _ ≤ (7000000 : Int); push_cast; omega)
              · refine p_aload_n G rfl 5 rfl dL_law_331 ?_
                refine p_iconst G rfl dL_law_332 ?_
                refine p_lald G dL_law_333 (k := 127) rfl (zt_c _) h (fun c67 h => ?_)
                refine p_iload G 0 rfl dL_law_334 ?_
                refine p_i2l G dL_law_336 ?_
                refine p_lcmp G dL_law_337 ?_
                refine p_ifeq (tgt := 343) G dL_law_338 (by decide) h (fun c69 h => ?_) (fun c69 h => ?_)
                · refine p_goto (tgt := 1627) G dL_law_343 (by decide) ?_
                  refine p_iincE (lv' := fun v68 => [(5, .int (zJ v68)), (7, .int (zJ v63)), (6, .int (zJ v59)), (0, .ref b), (1, .ref (ga Γ 26)), (2, .ref (ga Γ 0)), (3, .ref (ga Γ 127)), (4, .ref (ga Γ 128))]) G dL_law_1627 h 7 rfl (by decide) (fun _ => rfl) (fun v68 hv68 h => ?_)
                  refine p_goto (tgt := 28) G dL_law_1630 (by decide) ?_
                  refine p_lv [3, 4, 5, 6, 7, 0] rfl ?_
                  exact hin28 _ (Option.some.inj h).symm Γ _ _ G hR hM (by show 0 ≤ _ ; omega) (by show _ ≤ (3072 : Int); omega) (by show _ ≤ (600000 : Int); push_cast; omega) (by show _ ≤ (7000000 : Int); push_cast; omega)
                · cases h
            · cases h
          · refine zite h (fun c4_45 h => ?_) (fun c4_45 h => ?_)
            · refine p_tin (tgt := 346) (off := 301) G dL_law_45 c4_45 (by decide) (by decide) rfl (by decide) ?_
              refine p_aload_n G rfl 1 rfl dL_law_346 ?_
              obtain ⟨⟨σ72, v73⟩, hc, h⟩ := bnd_some h
              rw [un2_mk] at h
              refine p_callVN (lv' := fun a => [(0, .ref b), (1, .ref (a 26)), (2, .ref (a 0)), (3, .ref (a 127)), (4, .ref (a 128)), (5, .int (zJ u5_28))]) (st' := fun a => []) G hR hM zl_72 dL_law_347 lk_L_101 (c_X6_deal (gl Γ) hc) (As := []) (ci := 6) rfl zk_72 (by decide +kernel) (by decide +kernel) (zs_x zs_72 _) rfl rfl rfl (Nat.le_of_ble_eq_true rfl) ⟨rfl, rfl, Nat.le_of_ble_eq_true rfl, Nat.le_of_ble_eq_true rfl⟩ (le_rc (by omega)) (le_rs (by omega)) h (fun a e => by have q0 := e 0 _ rfl rfl; have q26 := e 26 _ rfl rfl; have q127 := e 127 _ rfl rfl; have q128 := e 128 _ rfl rfl; exact ⟨by simp only [q0, q26, q127, q128], by rfl⟩) (fun Γ G hR hM σ74 h => ?_)
              refine (?_ : PT Γ 10 shLaw 350 σ74 [(0, .ref b), (1, .ref (ga Γ 26)), (2, .ref (ga Γ 0)), (3, .ref (ga Γ 127)), (4, .ref (ga Γ 128)), (5, .int (zJ u5_28))] [.int (zJ v73)])
              have hcs := mk_cs G hM (le_rc (by omega)) (le_rs (by omega))
              refine p_aload_n G rfl 2 rfl dL_law_350 ?_
              obtain ⟨⟨σ75, v76⟩, hc, h⟩ := bnd_some h
              rw [un2_mk] at h
              refine p_callV G zl_73 dL_law_351 lk_L_104 (c_X7_deal (gl Γ) hc) (As := []) (ci := 7) rfl zk_73 (zs_x zs_73 _) rfl rfl rfl (Nat.le_of_ble_eq_true rfl) ⟨rfl, rfl, Nat.le_of_ble_eq_true rfl, Nat.le_of_ble_eq_true rfl⟩ hcs ?_
              refine p_nm h (fun σ77 h => ?_)
              refine p_icmpeq (tgt := 1627) G dL_law_354 (by decide) h (fun c79 h => ?_) (fun c79 h => ?_)
              · refine p_iincE (lv' := fun v78 => [(5, .int (zJ v78)), (0, .ref b), (1, .ref (ga Γ 26)), (2, .ref (ga Γ 0)), (3, .ref (ga Γ 127)), (4, .ref (ga Γ 128))]) G dL_law_1627 h 5 rfl (by decide) (fun _ => rfl) (fun v78 hv78 h => ?_)
                refine p_goto (tgt := 28) G dL_law_1630 (by decide) ?_
                refine p_lv [1, 2, 3, 4, 5, 0] rfl ?_
                exact hin28 _ (Option.some.inj h).symm Γ _ _ G hR hM (by show 0 ≤ _ ; omega) (by show _ ≤ (3072 : Int); omega) (by show _ ≤ (600000 : Int); push_cast; omega) (by show _ ≤ (7000000 : Int); push_cast; omega)
              · cases h
            · refine zite h (fun c5_45 h => ?_) (fun c5_45 h => ?_)
              · refine p_tin (tgt := 359) (off := 314) G dL_law_45 c5_45 (by decide) (by decide) rfl (by decide) ?_
                refine p_aload_n G rfl 1 rfl dL_law_359 ?_
                refine p_aload_n G rfl 0 rfl dL_law_360 ?_
                refine p_iload G 5 rfl dL_law_361 ?_
                refine p_iconst G rfl dL_law_363 ?_
                refine p_iadd G dL_law_364 ?_
                refine p_sld G hR dL_law_365 h (fun c80 h => ?_)
                refine p_ifeq (tgt := 373) G dL_law_366 (by decide) h (fun c137 h => ?_) (fun c137 h => ?_)
                · refine p_iconst G rfl dL_law_373 ?_
                  refine p_aload_n G rfl 0 rfl dL_law_374 ?_
                  refine p_iload G 5 rfl dL_law_375 ?_
                  refine p_iconst G rfl dL_law_377 ?_
                  refine p_iadd G dL_law_378 ?_
                  refine p_sld G hR dL_law_379 h (fun c81 h => ?_)
                  refine p_aload_n G rfl 3 rfl dL_law_380 ?_
                  obtain ⟨⟨σ82, v83⟩, hc, h⟩ := bnd_some h
                  rw [un2_mk] at h
                  refine p_callHS (np := 4) (lv' := fun a => [(0, .ref b), (1, .ref (a 26)), (2, .ref (a 0)), (3, .ref (a 127)), (4, .ref (a 128)), (5, .int (zJ u5_28))]) (st' := fun a => []) G hR hM zl_74 dL_law_381 gm_916 gm_917 gm_88 gm_918 (by decide +kernel) (c_L_set (gl Γ) (by rw [hM.1]; exact hl) hc) (As := [.ref (ga Γ 26), .int (zJ (0 : Int)), .int (zJ (xs 0 (zix (u5_28 + (2 : Int))))), .ref (ga Γ 127)]) rfl zk_74 (by decide +kernel) (by decide +kernel) (zs_x zs_74 _) rfl (Nat.le_of_ble_eq_true rfl) ⟨rfl, rfl, Nat.le_of_ble_eq_true rfl, Nat.le_of_ble_eq_true rfl⟩ (le_rc (by omega)) (le_rs (by omega)) h (fun a e => by have q0 := e 0 _ rfl rfl; have q26 := e 26 _ rfl rfl; have q127 := e 127 _ rfl rfl; have q128 := e 128 _ rfl rfl; exact ⟨by simp only [q0, q26, q127, q128], by rfl⟩) (fun Γ G hR hM σ84 h => ?_)
                  refine (?_ : PT Γ 10 shLaw 384 σ84 [(0, .ref b), (1, .ref (ga Γ 26)), (2, .ref (ga Γ 0)), (3, .ref (ga Γ 127)), (4, .ref (ga Γ 128)), (5, .int (zJ u5_28))] [.int (zJ v83)])
                  have hcs := mk_cs G hM (le_rc (by omega)) (le_rs (by omega))
                  refine p_istoreU (lv' := [(6, .int (zJ v83)), (0, .ref b), (1, .ref (ga Γ 26)), (2, .ref (ga Γ 0)), (3, .ref (ga Γ 127)), (4, .ref (ga Γ 128)), (5, .int (zJ u5_28))]) G dL_law_384 (by decide) rfl ?_
                  refine p_aload_n G rfl 3 rfl dL_law_386 ?_
                  refine p_aload_n G rfl 1 rfl dL_law_387 ?_
                  refine p_iload G 6 rfl dL_law_388 ?_
                  refine p_iconst G rfl dL_law_390 ?_
                  refine p_iadd G dL_law_391 ?_
                  refine p_sld G hR dL_law_392 h (fun c85 h => ?_)
                  refine p_ifeq (tgt := 400) G dL_law_393 (by decide) h (fun c108 h => ?_) (fun c108 h => ?_)
                  · refine p_iconst G rfl dL_law_400 ?_
                    refine p_aload_n G rfl 1 rfl dL_law_401 ?_
                    refine p_iload G 6 rfl dL_law_402 ?_
                    refine p_iconst G rfl dL_law_404 ?_
                    refine p_iadd G dL_law_405 ?_
                    refine p_sld G hR dL_law_406 h (fun c86 h => ?_)
                    obtain ⟨⟨σ87, v88⟩, hc, h⟩ := bnd_some h
                    rw [un2_mk] at h
                    refine p_callV G zl_73 dL_law_407 lk_L_108 (c_X7_set (gl Γ) hc) (As := [.int (zJ (0 : Int)), .int (zJ (xs 0 (zix (u5_28 + (2 : Int)))))]) (ci := 7) rfl zk_73 (zs_x zs_73 _) rfl rfl rfl (Nat.le_of_ble_eq_true rfl) ⟨rfl, rfl, Nat.le_of_ble_eq_true rfl, Nat.le_of_ble_eq_true rfl⟩ hcs ?_
                    refine p_nm h (fun σ89 h => ?_)
                    refine p_istoreU (lv' := [(7, .int (zJ v88)), (6, .int (zJ v83)), (0, .ref b), (1, .ref (ga Γ 26)), (2, .ref (ga Γ 0)), (3, .ref (ga Γ 127)), (4, .ref (ga Γ 128)), (5, .int (zJ u5_28))]) G dL_law_410 (by decide) rfl ?_
                    refine p_aload_n G rfl 4 rfl dL_law_412 ?_
                    obtain ⟨v90, hc, h⟩ := bnd_some h
                    refine p_callVr G zl_73 dL_law_413 lk_L_95 (c_X7_thrown (gl Γ) hc) (As := []) (ci := 7) rfl zk_73 (zs_x zs_73 _) rfl rfl rfl (Nat.le_of_ble_eq_true rfl) ⟨rfl, rfl, Nat.le_of_ble_eq_true rfl, Nat.le_of_ble_eq_true rfl⟩ hcs ?_
                    refine p_iload G 1 rfl dL_law_416 ?_
                    refine p_icmpeq (tgt := 423) G dL_law_418 (by decide) h (fun c96 h => ?_) (fun c96 h => ?_)
                    · refine p_iload G 1 rfl dL_law_423 ?_
                      refine p_ifne (tgt := 440) G dL_law_425 (by decide) h (fun c95 h => ?_) (fun c95 h => ?_)
                      · refine p_goto (tgt := 1627) G dL_law_440 (by decide) ?_
                        refine p_iincE (lv' := fun v91 => [(5, .int (zJ v91)), (7, .int (zJ v88)), (6, .int (zJ v83)), (0, .ref b), (1, .ref (ga Γ 26)), (2, .ref (ga Γ 0)), (3, .ref (ga Γ 127)), (4, .ref (ga Γ 128))]) G dL_law_1627 h 7 rfl (by decide) (fun _ => rfl) (fun v91 hv91 h => ?_)
                        refine p_goto (tgt := 28) G dL_law_1630 (by decide) ?_
                        refine p_lv [3, 4, 5, 6, 7, 0] rfl ?_
                        exact hin28 _ (Option.some.inj h).symm Γ _ _ G hR hM (by show 0 ≤ _ ; omega) (by show _ ≤ (3072 : Int); omega) (by show _ ≤ (600000 : Int); push_cast; omega) (by show _ ≤ (7000000 : Int); push_cast; omega)
                      · refine p_aload_n G rfl 5 rfl dL_law_428 ?_
                        refine p_iconst G rfl dL_law_429 ?_
                        refine p_lald G dL_law_430 (k := 127) rfl (zt_c _) h (fun c92 h => ?_)
                        refine p_iload G 0 rfl dL_law_431 ?_
                        refine p_i2l G dL_law_433 ?_
                        refine p_lcmp G dL_law_434 ?_
                        refine p_ifeq (tgt := 440) G dL_law_435 (by decide) h (fun c94 h => ?_) (fun c94 h => ?_)
                        · refine p_goto (tgt := 1627) G dL_law_440 (by decide) ?_
                          refine p_iincE (lv' := fun v93 => [(5, .int (zJ v93)), (7, .int (zJ v88)), (6, .int (zJ v83)), (0, .ref b), (1, .ref (ga Γ 26)), (2, .ref (ga Γ 0)), (3, .ref (ga Γ 127)), (4, .ref (ga Γ 128))]) G dL_law_1627 h 7 rfl (by decide) (fun _ => rfl) (fun v93 hv93 h => ?_)
                          refine p_goto (tgt := 28) G dL_law_1630 (by decide) ?_
                          refine p_lv [3, 4, 5, 6, 7, 0] rfl ?_
                          exact hin28 _ (Option.some.inj h).symm Γ _ _ G hR hM (by show 0 ≤ _ ; omega) (by show _ ≤ (3072 : Int); omega) (by show _ ≤ (600000 : Int); push_cast; omega) (by show _ ≤ (7000000 : Int); push_cast; omega)
                        · cases h
                    · cases h
                  · refine p_iconst G rfl dL_law_396 ?_
                    refine p_goto (tgt := 401) G dL_law_397 (by decide) ?_
                    refine p_aload_n G rfl 1 rfl dL_law_401 ?_
                    refine p_iload G 6 rfl dL_law_402 ?_
                    refine p_iconst G rfl dL_law_404 ?_
                    refine p_iadd G dL_law_405 ?_
                    refine p_sld G hR dL_law_406 h (fun c97 h => ?_)
                    obtain ⟨⟨σ98, v99⟩, hc, h⟩ := bnd_some h
                    rw [un2_mk] at h
                    refine p_callV G zl_73 dL_law_407 lk_L_108 (c_X7_set (gl Γ) hc) (As := [.int (zJ (1 : Int)), .int (zJ (xs 0 (zix (u5_28 + (2 : Int)))))]) (ci := 7) rfl zk_73 (zs_x zs_73 _) rfl rfl rfl (Nat.le_of_ble_eq_true rfl) ⟨rfl, rfl, Nat.le_of_ble_eq_true rfl, Nat.le_of_ble_eq_true rfl⟩ hcs ?_
                    refine p_nm h (fun σ100 h => ?_)
                    refine p_istoreU (lv' := [(7, .int (zJ v99)), (6, .int (zJ v83)), (0, .ref b), (1, .ref (ga Γ 26)), (2, .ref (ga Γ 0)), (3, .ref (ga Γ 127)), (4, .ref (ga Γ 128)), (5, .int (zJ u5_28))]) G dL_law_410 (by decide) rfl ?_
                    refine p_aload_n G rfl 4 rfl dL_law_412 ?_
                    obtain ⟨v101, hc, h⟩ := bnd_some h
                    refine p_callVr G zl_73 dL_law_413 lk_L_95 (c_X7_thrown (gl Γ) hc) (As := []) (ci := 7) rfl zk_73 (zs_x zs_73 _) rfl rfl rfl (Nat.le_of_ble_eq_true rfl) ⟨rfl, rfl, Nat.le_of_ble_eq_true rfl, Nat.le_of_ble_eq_true rfl⟩ hcs ?_
                    refine p_iload G 1 rfl dL_law_416 ?_
                    refine p_icmpeq (tgt := 423) G dL_law_418 (by decide) h (fun c107 h => ?_) (fun c107 h => ?_)
                    · refine p_iload G 1 rfl dL_law_423 ?_
                      refine p_ifne (tgt := 440) G dL_law_425 (by decide) h (fun c106 h => ?_) (fun c106 h => ?_)
                      · refine p_goto (tgt := 1627) G dL_law_440 (by decide) ?_
                        refine p_iincE (lv' := fun v102 => [(5, .int (zJ v102)), (7, .int (zJ v99)), (6, .int (zJ v83)), (0, .ref b), (1, .ref (ga Γ 26)), (2, .ref (ga Γ 0)), (3, .ref (ga Γ 127)), (4, .ref (ga Γ 128))]) G dL_law_1627 h 7 rfl (by decide) (fun _ => rfl) (fun v102 hv102 h => ?_)
                        refine p_goto (tgt := 28) G dL_law_1630 (by decide) ?_
                        refine p_lv [3, 4, 5, 6, 7, 0] rfl ?_
                        exact hin28 _ (Option.some.inj h).symm Γ _ _ G hR hM (by show 0 ≤ _ ; omega) (by show _ ≤ (3072 : Int); omega) (by show _ ≤ (600000 : Int); push_cast; omega) (by show _ ≤ (7000000 : Int); push_cast; omega)
                      · refine p_aload_n G rfl 5 rfl dL_law_428 ?_
                        refine p_iconst G rfl dL_law_429 ?_
                        refine p_lald G dL_law_430 (k := 127) rfl (zt_c _) h (fun c103 h => ?_)
                        refine p_iload G 0 rfl dL_law_431 ?_
                        refine p_i2l G dL_law_433 ?_
                        refine p_lcmp G dL_law_434 ?_
                        refine p_ifeq (tgt := 440) G dL_law_435 (by decide) h (fun c105 h => ?_) (fun c105 h => ?_)
                        · refine p_goto (tgt := 1627) G dL_law_440 (by decide) ?_
                          refine p_iincE (lv' := fun v104 => [(5, .int (zJ v104)), (7, .int (zJ v99)), (6, .int (zJ v83)), (0, .ref b), (1, .ref (ga Γ 26)), (2, .ref (ga Γ 0)), (3, .ref (ga Γ 127)), (4, .ref (ga Γ 128))]) G dL_law_1627 h 7 rfl (by decide) (fun _ => rfl) (fun v104 hv104 h => ?_)
                          refine p_goto (tgt := 28) G dL_law_1630 (by decide) ?_
                          refine p_lv [3, 4, 5, 6, 7, 0] rfl ?_
                          exact hin28 _ (Option.some.inj h).symm Γ _ _ G hR hM (by show 0 ≤ _ ; omega) (by show _ ≤ (3072 : Int); omega) (by show _ ≤ (600000 : Int); push_cast; omega) (by show _ ≤ (7000000 : Int); push_cast; omega)
                        · cases h
                    · cases h
                · refine p_iconst G rfl dL_law_369 ?_
                  refine p_goto (tgt := 374) G dL_law_370 (by decide) ?_
                  refine p_aload_n G rfl 0 rfl dL_law_374 ?_
                  refine p_iload G 5 rfl dL_law_375 ?_
                  refine p_iconst G rfl dL_law_377 ?_
                  refine p_iadd G dL_law_378 ?_
                  refine p_sld G hR dL_law_379 h (fun c109 h => ?_)
                  refine p_aload_n G rfl 3 rfl dL_law_380 ?_
                  obtain ⟨⟨σ110, v111⟩, hc, h⟩ := bnd_some h
                  rw [un2_mk] at h
                  refine p_callHS (np := 4) (lv' := fun a => [(0, .ref b), (1, .ref (a 26)), (2, .ref (a 0)), (3, .ref (a 127)), (4, .ref (a 128)), (5, .int (zJ u5_28))]) (st' := fun a => []) G hR hM zl_74 dL_law_381 gm_916 gm_917 gm_88 gm_918 (by decide +kernel) (c_L_set (gl Γ) (by rw [hM.1]; exact hl) hc) (As := [.ref (ga Γ 26), .int (zJ (1 : Int)), .int (zJ (xs 0 (zix (u5_28 + (2 : Int))))), .ref (ga Γ 127)]) rfl zk_74 (by decide +kernel) (by decide +kernel) (zs_x zs_74 _) rfl (Nat.le_of_ble_eq_true rfl) ⟨rfl, rfl, Nat.le_of_ble_eq_true rfl, Nat.le_of_ble_eq_true rfl⟩ (le_rc (by omega)) (le_rs (by omega)) h (fun a e => by have q0 := e 0 _ rfl rfl; have q26 := e 26 _ rfl rfl; have q127 := e 127 _ rfl rfl; have q128 := e 128 _ rfl rfl; exact ⟨by simp only [q0, q26, q127, q128], by rfl⟩) (fun Γ G hR hM σ112 h => ?_)
                  refine (?_ : PT Γ 10 shLaw 384 σ112 [(0, .ref b), (1, .ref (ga Γ 26)), (2, .ref (ga Γ 0)), (3, .ref (ga Γ 127)), (4, .ref (ga Γ 128)), (5, .int (zJ u5_28))] [.int (zJ v111)])
                  have hcs := mk_cs G hM (le_rc (by omega)) (le_rs (by omega))
                  refine p_istoreU (lv' := [(6, .int (zJ v111)), (0, .ref b), (1, .ref (ga Γ 26)), (2, .ref (ga Γ 0)), (3, .ref (ga Γ 127)), (4, .ref (ga Γ 128)), (5, .int (zJ u5_28))]) G dL_law_384 (by decide) rfl ?_
                  refine p_aload_n G rfl 3 rfl dL_law_386 ?_
                  refine p_aload_n G rfl 1 rfl dL_law_387 ?_
                  refine p_iload G 6 rfl dL_law_388 ?_
                  refine p_iconst G rfl dL_law_390 ?_
                  refine p_iadd G dL_law_391 ?_
                  refine p_sld G hR dL_law_392 h (fun c113 h => ?_)
                  refine p_ifeq (tgt := 400) G dL_law_393 (by decide) h (fun c136 h => ?_) (fun c136 h => ?_)
                  · refine p_iconst G rfl dL_law_400 ?_
                    refine p_aload_n G rfl 1 rfl dL_law_401 ?_
                    refine p_iload G 6 rfl dL_law_402 ?_
                    refine p_iconst G rfl dL_law_404 ?_
                    refine p_iadd G dL_law_405 ?_
                    refine p_sld G hR dL_law_406 h (fun c114 h => ?_)
                    obtain ⟨⟨σ115, v116⟩, hc, h⟩ := bnd_some h
                    rw [un2_mk] at h
                    refine p_callV G zl_73 dL_law_407 lk_L_108 (c_X7_set (gl Γ) hc) (As := [.int (zJ (0 : Int)), .int (zJ (xs 0 (zix (u5_28 + (2 : Int)))))]) (ci := 7) rfl zk_73 (zs_x zs_73 _) rfl rfl rfl (Nat.le_of_ble_eq_true rfl) ⟨rfl, rfl, Nat.le_of_ble_eq_true rfl, Nat.le_of_ble_eq_true rfl⟩ hcs ?_
                    refine p_nm h (fun σ117 h => ?_)
                    refine p_istoreU (lv' := [(7, .int (zJ v116)), (6, .int (zJ v111)), (0, .ref b), (1, .ref (ga Γ 26)), (2, .ref (ga Γ 0)), (3, .ref (ga Γ 127)), (4, .ref (ga Γ 128)), (5, .int (zJ u5_28))]) G dL_law_410 (by decide) rfl ?_
                    refine p_aload_n G rfl 4 rfl dL_law_412 ?_
                    obtain ⟨v118, hc, h⟩ := bnd_some h
                    refine p_callVr G zl_73 dL_law_413 lk_L_95 (c_X7_thrown (gl Γ) hc) (As := []) (ci := 7) rfl zk_73 (zs_x zs_73 _) rfl rfl rfl (Nat.le_of_ble_eq_true rfl) ⟨rfl, rfl, Nat.le_of_ble_eq_true rfl, Nat.le_of_ble_eq_true rfl⟩ hcs ?_
                    refine p_iload G 1 rfl dL_law_416 ?_
                    refine p_icmpeq (tgt := 423) G dL_law_418 (by decide) h (fun c124 h => ?_) (fun c124 h => ?_)
                    · refine p_iload G 1 rfl dL_law_423 ?_
                      refine p_ifne (tgt := 440) G dL_law_425 (by decide) h (fun c123 h => ?_) (fun c123 h => ?_)
                      · refine p_goto (tgt := 1627) G dL_law_440 (by decide) ?_
                        refine p_iincE (lv' := fun v119 => [(5, .int (zJ v119)), (7, .int (zJ v116)), (6, .int (zJ v111)), (0, .ref b), (1, .ref (ga Γ 26)), (2, .ref (ga Γ 0)), (3, .ref (ga Γ 127)), (4, .ref (ga Γ 128))]) G dL_law_1627 h 7 rfl (by decide) (fun _ => rfl) (fun v119 hv119 h => ?_)
                        refine p_goto (tgt := 28) G dL_law_1630 (by decide) ?_
                        refine p_lv [3, 4, 5, 6, 7, 0] rfl ?_
                        exact hin28 _ (Option.some.inj h).symm Γ _ _ G hR hM (by show 0 ≤ _ ; omega) (by show _ ≤ (3072 : Int); omega) (by show _ ≤ (600000 : Int); push_cast; omega) (by show _ ≤ (7000000 : Int); push_cast; omega)
                      · refine p_aload_n G rfl 5 rfl dL_law_428 ?_
                        refine p_iconst G rfl dL_law_429 ?_
                        refine p_lald G dL_law_430 (k := 127) rfl (zt_c _) h (fun c120 h => ?_)
                        refine p_iload G 0 rfl dL_law_431 ?_
                        refine p_i2l G dL_law_433 ?_
                        refine p_lcmp G dL_law_434 ?_
                        refine p_ifeq (tgt := 440) G dL_law_435 (by decide) h (fun c122 h => ?_) (fun c122 h => ?_)
                        · refine p_goto (tgt := 1627) G dL_law_440 (by decide) ?_
                          refine p_iincE (lv' := fun v121 => [(5, .int (zJ v121)), (7, .int (zJ v116)), (6, .int (zJ v111)), (0, .ref b), (1, .ref (ga Γ 26)), (2, .ref (ga Γ 0)), (3, .ref (ga Γ 127)), (4, .ref (ga Γ 128))]) G dL_law_1627 h 7 rfl (by decide) (fun _ => rfl) (fun v121 hv121 h => ?_)
                          refine p_goto (tgt := 28) G dL_law_1630 (by decide) ?_
                          refine p_lv [3, 4, 5, 6, 7, 0] rfl ?_
                          exact hin28 _ (Option.some.inj h).symm Γ _ _ G hR hM (by show 0 ≤ _ ; omega) (by show _ ≤ (3072 : Int); omega) (by show _ ≤ (600000 : Int); push_cast; omega) (by show _ ≤ (7000000 : Int); push_cast; omega)
                        · cases h
                    · cases h
                  · refine p_iconst G rfl dL_law_396 ?_
                    refine p_goto (tgt := 401) G dL_law_397 (by decide) ?_
                    refine p_aload_n G rfl 1 rfl dL_law_401 ?_
                    refine p_iload G 6 rfl dL_law_402 ?_
                    refine p_iconst G rfl dL_law_404 ?_
                    refine p_iadd G dL_law_405 ?_
                    refine p_sld G hR dL_law_406 h (fun c125 h => ?_)
                    obtain ⟨⟨σ126, v127⟩, hc, h⟩ := bnd_some h
                    rw [un2_mk] at h
                    refine p_callV G zl_73 dL_law_407 lk_L_108 (c_X7_set (gl Γ) hc) (As := [.int (zJ (1 : Int)), .int (zJ (xs 0 (zix (u5_28 + (2 : Int)))))]) (ci := 7) rfl zk_73 (zs_x zs_73 _) rfl rfl rfl (Nat.le_of_ble_eq_true rfl) ⟨rfl, rfl, Nat.le_of_ble_eq_true rfl, Nat.le_of_ble_eq_true rfl⟩ hcs ?_
                    refine p_nm h (fun σ128 h => ?_)
                    refine p_istoreU (lv' := [(7, .int (zJ v127)), (6, .int (zJ v111)), (0, .ref b), (1, .ref (ga Γ 26)), (2, .ref (ga Γ 0)), (3, .ref (ga Γ 127)), (4, .ref (ga Γ 128)), (5, .int (zJ u5_28))]) G dL_law_410 (by decide) rfl ?_
                    refine p_aload_n G rfl 4 rfl dL_law_412 ?_
                    obtain ⟨v129, hc, h⟩ := bnd_some h
                    refine p_callVr G zl_73 dL_law_413 lk_L_95 (c_X7_thrown (gl Γ) hc) (As := []) (ci := 7) rfl zk_73 (zs_x zs_73 _) rfl rfl rfl (Nat.le_of_ble_eq_true rfl) ⟨rfl, rfl, Nat.le_of_ble_eq_true rfl, Nat.le_of_ble_eq_true rfl⟩ hcs ?_
                    refine p_iload G 1 rfl dL_law_416 ?_
                    refine p_icmpeq (tgt := 423) G dL_law_418 (by decide) h (fun c135 h => ?_) (fun c135 h => ?_)
                    · refine p_iload G 1 rfl dL_law_423 ?_
                      refine p_ifne (tgt := 440) G dL_law_425 (by decide) h (fun c134 h => ?_) (fun c134 h => ?_)
                      · refine p_goto (tgt := 1627) G dL_law_440 (by decide) ?_
                        refine p_iincE (lv' := fun v130 => [(5, .int (zJ v130)), (7, .int (zJ v127)), (6, .int (zJ v111)), (0, .ref b), (1, .ref (ga Γ 26)), (2, .ref (ga Γ 0)), (3, .ref (ga Γ 127)), (4, .ref (ga Γ 128))]) G dL_law_1627 h 7 rfl (by decide) (fun _ => rfl) (fun v130 hv130 h => ?_)
                        refine p_goto (tgt := 28) G dL_law_1630 (by decide) ?_
                        refine p_lv [3, 4, 5, 6, 7, 0] rfl ?_
                        exact hin28 _ (Option.some.inj h).symm Γ _ _ G hR hM (by show 0 ≤ _ ; omega) (by show _ ≤ (3072 : Int); omega) (by show _ ≤ (600000 : Int); push_cast; omega) (by show _ ≤ (7000000 : Int); push_cast; omega)
                      · refine p_aload_n G rfl 5 rfl dL_law_428 ?_
                        refine p_iconst G rfl dL_law_429 ?_
                        refine p_lald G dL_law_430 (k := 127) rfl (zt_c _) h (fun c131 h => ?_)
                        refine p_iload G 0 rfl dL_law_431 ?_
                        refine p_i2l G dL_law_433 ?_
                        refine p_lcmp G dL_law_434 ?_
                        refine p_ifeq (tgt := 440) G dL_law_435 (by decide) h (fun c133 h => ?_) (fun c133 h => ?_)
                        · refine p_goto (tgt := 1627) G dL_law_440 (by decide) ?_
                          refine p_iincE (lv' := fun v132 => [(5, .int (zJ v132)), (7, .int (zJ v127)), (6, .int (zJ v111)), (0, .ref b), (1, .ref (ga Γ 26)), (2, .ref (ga Γ 0)), (3, .ref (ga Γ 127)), (4, .ref (ga Γ 128))]) G dL_law_1627 h 7 rfl (by decide) (fun _ => rfl) (fun v132 hv132 h => ?_)
                          refine p_goto (tgt := 28) G dL_law_1630 (by decide) ?_
                          refine p_lv [3, 4, 5, 6, 7, 0] rfl ?_
                          exact hin28 _ (Option.some.inj h).symm Γ _ _ G hR hM (by show 0 ≤ _ ; omega) (by show _ ≤ (3072 : Int); omega) (by show _ ≤ (600000 : Int); push_cast; omega) (by show _ ≤ (7000000 : Int); push_cast; omega)
                        · cases h
                    · cases h
              · refine zite h (fun c6_45 h => ?_) (fun c6_45 h => ?_)
                · refine p_tin (tgt := 443) (off := 398) G dL_law_45 c6_45 (by decide) (by decide) rfl (by decide) ?_
                  refine p_aload_n G rfl 1 rfl dL_law_443 ?_
                  obtain ⟨⟨σ138, v139⟩, hc, h⟩ := bnd_some h
                  rw [un2_mk] at h
                  refine p_callV G zl_72 dL_law_444 lk_L_109 (c_X6_undo (gl Γ) hc) (As := []) (ci := 6) rfl zk_72 (zs_x zs_72 _) rfl rfl rfl (Nat.le_of_ble_eq_true rfl) ⟨rfl, rfl, Nat.le_of_ble_eq_true rfl, Nat.le_of_ble_eq_true rfl⟩ hcs ?_
                  refine p_nm h (fun σ140 h => ?_)
                  refine p_aload_n G rfl 2 rfl dL_law_447 ?_
                  obtain ⟨⟨σ141, v142⟩, hc, h⟩ := bnd_some h
                  rw [un2_mk] at h
                  refine p_callV G zl_73 dL_law_448 lk_L_112 (c_X7_undo (gl Γ) hc) (As := []) (ci := 7) rfl zk_73 (zs_x zs_73 _) rfl rfl rfl (Nat.le_of_ble_eq_true rfl) ⟨rfl, rfl, Nat.le_of_ble_eq_true rfl, Nat.le_of_ble_eq_true rfl⟩ hcs ?_
                  refine p_nm h (fun σ143 h => ?_)
                  refine p_icmpeq (tgt := 1627) G dL_law_451 (by decide) h (fun c145 h => ?_) (fun c145 h => ?_)
                  · refine p_iincE (lv' := fun v144 => [(5, .int (zJ v144)), (0, .ref b), (1, .ref (ga Γ 26)), (2, .ref (ga Γ 0)), (3, .ref (ga Γ 127)), (4, .ref (ga Γ 128))]) G dL_law_1627 h 5 rfl (by decide) (fun _ => rfl) (fun v144 hv144 h => ?_)
                    refine p_goto (tgt := 28) G dL_law_1630 (by decide) ?_
                    refine p_lv [1, 2, 3, 4, 5, 0] rfl ?_
                    exact hin28 _ (Option.some.inj h).symm Γ _ _ G hR hM (by show 0 ≤ _ ; omega) (by show _ ≤ (3072 : Int); omega) (by show _ ≤ (600000 : Int); push_cast; omega) (by show _ ≤ (7000000 : Int); push_cast; omega)
                  · cases h
                · refine zite h (fun c7_45 h => ?_) (fun c7_45 h => ?_)
                  · refine p_tin (tgt := 456) (off := 411) G dL_law_45 c7_45 (by decide) (by decide) rfl (by decide) ?_
                    refine p_aload_n G rfl 1 rfl dL_law_456 ?_
                    refine p_aload_n G rfl 0 rfl dL_law_457 ?_
                    refine p_iload G 5 rfl dL_law_458 ?_
                    refine p_iconst G rfl dL_law_460 ?_
                    refine p_iadd G dL_law_461 ?_
                    refine p_sld G hR dL_law_462 h (fun c146 h => ?_)
                    refine p_aload_n G rfl 3 rfl dL_law_463 ?_
                    obtain ⟨⟨σ147, v148⟩, hc, h⟩ := bnd_some h
                    rw [un2_mk] at h
                    refine p_callHS (np := 3) (lv' := fun a => [(0, .ref b), (1, .ref (a 26)), (2, .ref (a 0)), (3, .ref (a 127)), (4, .ref (a 128)), (5, .int (zJ u5_28))]) (st' := fun a => []) G hR hM zl_74 dL_law_464 gm_946 gm_947 gm_88 gm_948 (by decide +kernel) (c_L_keep (gl Γ) (by rw [hM.1]; exact hl) hc) (As := [.ref (ga Γ 26), .int (zJ (xs 0 (zix (u5_28 + (1 : Int))))), .ref (ga Γ 127)]) rfl zk_74 (by decide +kernel) (by decide +kernel) (zs_x zs_74 _) rfl (Nat.le_of_ble_eq_true rfl) ⟨rfl, rfl, Nat.le_of_ble_eq_true rfl, Nat.le_of_ble_eq_true rfl⟩ (le_rc (by omega)) (le_rs (by omega)) h (fun a e => by have q0 := e 0 _ rfl rfl; have q26 := e 26 _ rfl rfl; have q127 := e 127 _ rfl rfl; have q128 := e 128 _ rfl rfl; exact ⟨by simp only [q0, q26, q127, q128], by rfl⟩) (fun Γ G hR hM σ149 h => ?_)
                    refine (?_ : PT Γ 10 shLaw 467 σ149 [(0, .ref b), (1, .ref (ga Γ 26)), (2, .ref (ga Γ 0)), (3, .ref (ga Γ 127)), (4, .ref (ga Γ 128)), (5, .int (zJ u5_28))] [.int (zJ v148)])
                    have hcs := mk_cs G hM (le_rc (by omega)) (le_rs (by omega))
                    refine p_istoreU (lv' := [(6, .int (zJ v148)), (0, .ref b), (1, .ref (ga Γ 26)), (2, .ref (ga Γ 0)), (3, .ref (ga Γ 127)), (4, .ref (ga Γ 128)), (5, .int (zJ u5_28))]) G dL_law_467 (by decide) rfl ?_
                    refine p_aload_n G rfl 3 rfl dL_law_469 ?_
                    refine p_aload_n G rfl 1 rfl dL_law_470 ?_
                    refine p_iload G 6 rfl dL_law_471 ?_
                    refine p_iconst G rfl dL_law_473 ?_
                    refine p_iadd G dL_law_474 ?_
                    refine p_sld G hR dL_law_475 h (fun c150 h => ?_)
                    obtain ⟨⟨σ151, v152⟩, hc, h⟩ := bnd_some h
                    rw [un2_mk] at h
                    refine p_callV G zl_73 dL_law_476 lk_L_115 (c_X7_keep (gl Γ) hc) (As := [.int (zJ (xs 0 (zix (u5_28 + (1 : Int)))))]) (ci := 7) rfl zk_73 (zs_x zs_73 _) rfl rfl rfl (Nat.le_of_ble_eq_true rfl) ⟨rfl, rfl, Nat.le_of_ble_eq_true rfl, Nat.le_of_ble_eq_true rfl⟩ hcs ?_
                    refine p_nm h (fun σ153 h => ?_)
                    refine p_istoreU (lv' := [(7, .int (zJ v152)), (6, .int (zJ v148)), (0, .ref b), (1, .ref (ga Γ 26)), (2, .ref (ga Γ 0)), (3, .ref (ga Γ 127)), (4, .ref (ga Γ 128)), (5, .int (zJ u5_28))]) G dL_law_479 (by decide) rfl ?_
                    refine p_aload_n G rfl 4 rfl dL_law_481 ?_
                    obtain ⟨v154, hc, h⟩ := bnd_some h
                    refine p_callVr G zl_73 dL_law_482 lk_L_95 (c_X7_thrown (gl Γ) hc) (As := []) (ci := 7) rfl zk_73 (zs_x zs_73 _) rfl rfl rfl (Nat.le_of_ble_eq_true rfl) ⟨rfl, rfl, Nat.le_of_ble_eq_true rfl, Nat.le_of_ble_eq_true rfl⟩ hcs ?_
                    refine p_iload G 1 rfl dL_law_485 ?_
                    refine p_icmpeq (tgt := 492) G dL_law_487 (by decide) h (fun c160 h => ?_) (fun c160 h => ?_)
                    · refine p_iload G 1 rfl dL_law_492 ?_
                      refine p_ifne (tgt := 509) G dL_law_494 (by decide) h (fun c159 h => ?_) (fun c159 h => ?_)
                      · refine p_goto (tgt := 1627) G dL_law_509 (by decide) ?_
                        refine p_iincE (lv' := fun v155 => [(5, .int (zJ v155)), (7, .int (zJ v152)), (6, .int (zJ v148)), (0, .ref b), (1, .ref (ga Γ 26)), (2, .ref (ga Γ 0)), (3, .ref (ga Γ 127)), (4, .ref (ga Γ 128))]) G dL_law_1627 h 7 rfl (by decide) (fun _ => rfl) (fun v155 hv155 h => ?_)
                        refine p_goto (tgt := 28) G dL_law_1630 (by decide) ?_
                        refine p_lv [3, 4, 5, 6, 7, 0] rfl ?_
                        exact hin28 _ (Option.some.inj h).symm Γ _ _ G hR hM (by show 0 ≤ _ ; omega) (by show _ ≤ (3072 : Int); omega) (by show _ ≤ (600000 : Int); push_cast; omega) (by show _ ≤ (7000000 : Int); push_cast; omega)
                      · refine p_aload_n G rfl 5 rfl dL_law_497 ?_
                        refine p_iconst G rfl dL_law_498 ?_
                        refine p_lald G dL_law_499 (k := 127) rfl (zt_c _) h (fun c156 h => ?_)
                        refine p_iload G 0 rfl dL_law_500 ?_
                        refine p_i2l G dL_law_502 ?_
                        refine p_lcmp G dL_law_503 ?_
                        refine p_ifeq (tgt := 509) G dL_law_504 (by decide) h (fun c158 h => ?_) (fun c158 h => ?_)
                        · refine p_goto (tgt := 1627) G dL_law_509 (by decide) ?_
                          refine p_iincE (lv' := fun v157 => [(5, .int (zJ v157)), (7, .int (zJ v152)), (6, .int (zJ v148)), (0, .ref b), (1, .ref (ga Γ 26)), (2, .ref (ga Γ 0)), (3, .ref (ga Γ 127)), (4, .ref (ga Γ 128))]) G dL_law_1627 h 7 rfl (by decide) (fun _ => rfl) (fun v157 hv157 h => ?_)
                          refine p_goto (tgt := 28) G dL_law_1630 (by decide) ?_
                          refine p_lv [3, 4, 5, 6, 7, 0] rfl ?_
                          exact hin28 _ (Option.some.inj h).symm Γ _ _ G hR hM (by show 0 ≤ _ ; omega) (by show _ ≤ (3072 : Int); omega) (by show _ ≤ (600000 : Int); push_cast; omega) (by show _ ≤ (7000000 : Int); push_cast; omega)
                        · cases h
                    · cases h
                  · refine zite h (fun c8_45 h => ?_) (fun c8_45 h => ?_)
                    · refine p_tin (tgt := 512) (off := 467) G dL_law_45 c8_45 (by decide) (by decide) rfl (by decide) ?_
                      refine p_aload_n G rfl 1 rfl dL_law_512 ?_
                      refine p_aload_n G rfl 0 rfl dL_law_513 ?_
                      refine p_iload G 5 rfl dL_law_514 ?_
                      refine p_iconst G rfl dL_law_516 ?_
                      refine p_iadd G dL_law_517 ?_
                      refine p_sld G hR dL_law_518 h (fun c161 h => ?_)
                      refine p_aload_n G rfl 3 rfl dL_law_519 ?_
                      obtain ⟨⟨σ162, v163⟩, hc, h⟩ := bnd_some h
                      rw [un2_mk] at h
                      refine p_callHS (np := 3) (lv' := fun a => [(0, .ref b), (1, .ref (a 26)), (2, .ref (a 0)), (3, .ref (a 127)), (4, .ref (a 128)), (5, .int (zJ u5_28))]) (st' := fun a => []) G hR hM zl_74 dL_law_520 gm_953 gm_954 gm_88 gm_955 (by decide +kernel) (c_L_restore (gl Γ) (by rw [hM.1]; exact hl) hc) (As := [.ref (ga Γ 26), .int (zJ (xs 0 (zix (u5_28 + (1 : Int))))), .ref (ga Γ 127)]) rfl zk_74 (by decide +kernel) (by decide +kernel) (zs_x zs_74 _) rfl (Nat.le_of_ble_eq_true rfl) ⟨rfl, rfl, Nat.le_of_ble_eq_true rfl, Nat.le_of_ble_eq_true rfl⟩ (le_rc (by omega)) (le_rs (by omega)) h (fun a e => by have q0 := e 0 _ rfl rfl; have q26 := e 26 _ rfl rfl; have q127 := e 127 _ rfl rfl; have q128 := e 128 _ rfl rfl; exact ⟨by simp only [q0, q26, q127, q128], by rfl⟩) (fun Γ G hR hM σ164 h => ?_)
                      refine (?_ : PT Γ 10 shLaw 523 σ164 [(0, .ref b), (1, .ref (ga Γ 26)), (2, .ref (ga Γ 0)), (3, .ref (ga Γ 127)), (4, .ref (ga Γ 128)), (5, .int (zJ u5_28))] [.int (zJ v163)])
                      have hcs := mk_cs G hM (le_rc (by omega)) (le_rs (by omega))
                      refine p_istoreU (lv' := [(6, .int (zJ v163)), (0, .ref b), (1, .ref (ga Γ 26)), (2, .ref (ga Γ 0)), (3, .ref (ga Γ 127)), (4, .ref (ga Γ 128)), (5, .int (zJ u5_28))]) G dL_law_523 (by decide) rfl ?_
                      refine p_aload_n G rfl 3 rfl dL_law_525 ?_
                      refine p_aload_n G rfl 1 rfl dL_law_526 ?_
                      refine p_iload G 6 rfl dL_law_527 ?_
                      refine p_iconst G rfl dL_law_529 ?_
                      refine p_iadd G dL_law_530 ?_
                      refine p_sld G hR dL_law_531 h (fun c165 h => ?_)
                      obtain ⟨⟨σ166, v167⟩, hc, h⟩ := bnd_some h
                      rw [un2_mk] at h
                      refine p_callV G zl_73 dL_law_532 lk_L_118 (c_X7_restore (gl Γ) hc) (As := [.int (zJ (xs 0 (zix (u5_28 + (1 : Int)))))]) (ci := 7) rfl zk_73 (zs_x zs_73 _) rfl rfl rfl (Nat.le_of_ble_eq_true rfl) ⟨rfl, rfl, Nat.le_of_ble_eq_true rfl, Nat.le_of_ble_eq_true rfl⟩ hcs ?_
                      refine p_nm h (fun σ168 h => ?_)
                      refine p_istoreU (lv' := [(7, .int (zJ v167)), (6, .int (zJ v163)), (0, .ref b), (1, .ref (ga Γ 26)), (2, .ref (ga Γ 0)), (3, .ref (ga Γ 127)), (4, .ref (ga Γ 128)), (5, .int (zJ u5_28))]) G dL_law_535 (by decide) rfl ?_
                      refine p_aload_n G rfl 4 rfl dL_law_537 ?_
                      obtain ⟨v169, hc, h⟩ := bnd_some h
                      refine p_callVr G zl_73 dL_law_538 lk_L_95 (c_X7_thrown (gl Γ) hc) (As := []) (ci := 7) rfl zk_73 (zs_x zs_73 _) rfl rfl rfl (Nat.le_of_ble_eq_true rfl) ⟨rfl, rfl, Nat.le_of_ble_eq_true rfl, Nat.le_of_ble_eq_true rfl⟩ hcs ?_
                      refine p_iload G 1 rfl dL_law_541 ?_
                      refine p_icmpeq (tgt := 548) G dL_law_543 (by decide) h (fun c175 h => ?_) (fun c175 h => ?_)
                      · refine p_iload G 1 rfl dL_law_548 ?_
                        refine p_ifne (tgt := 565) G dL_law_550 (by decide) h (fun c174 h => ?_) (fun c174 h => ?_)
                        · refine p_goto (tgt := 1627) G dL_law_565 (by decide) ?_
                          refine p_iincE (lv' := fun v170 => [(5, .int (zJ v170)), (7, .int (zJ v167)), (6, .int (zJ v163)), (0, .ref b), (1, .ref (ga Γ 26)), (2, .ref (ga Γ 0)), (3, .ref (ga Γ 127)), (4, .ref (ga Γ 128))]) G dL_law_1627 h 7 rfl (by decide) (fun _ => rfl) (fun v170 hv170 h => ?_)
                          refine p_goto (tgt := 28) G dL_law_1630 (by decide) ?_
                          refine p_lv [3, 4, 5, 6, 7, 0] rfl ?_
                          exact hin28 _ (Option.some.inj h).symm Γ _ _ G hR hM (by show 0 ≤ _ ; omega) (by show _ ≤ (3072 : Int); omega) (by show _ ≤ (600000 : Int); push_cast; omega) (by show _ ≤ (7000000 : Int); push_cast; omega)
                        · refine p_aload_n G rfl 5 rfl dL_law_553 ?_
                          refine p_iconst G rfl dL_law_554 ?_
                          refine p_lald G dL_law_555 (k := 127) rfl (zt_c _) h (fun c171 h => ?_)
                          refine p_iload G 0 rfl dL_law_556 ?_
                          refine p_i2l G dL_law_558 ?_
                          refine p_lcmp G dL_law_559 ?_
                          refine p_ifeq (tgt := 565) G dL_law_560 (by decide) h (fun c173 h => ?_) (fun c173 h => ?_)
                          · refine p_goto (tgt := 1627) G dL_law_565 (by decide) ?_
                            refine p_iincE (lv' := fun v172 => [(5, .int (zJ v172)), (7, .int (zJ v167)), (6, .int (zJ v163)), (0, .ref b), (1, .ref (ga Γ 26)), (2, .ref (ga Γ 0)), (3, .ref (ga Γ 127)), (4, .ref (ga Γ 128))]) G dL_law_1627 h 7 rfl (by decide) (fun _ => rfl) (fun v172 hv172 h => ?_)
                            refine p_goto (tgt := 28) G dL_law_1630 (by decide) ?_
                            refine p_lv [3, 4, 5, 6, 7, 0] rfl ?_
                            exact hin28 _ (Option.some.inj h).symm Γ _ _ G hR hM (by show 0 ≤ _ ; omega) (by show _ ≤ (3072 : Int); omega) (by show _ ≤ (600000 : Int); push_cast; omega) (by show _ ≤ (7000000 : Int); push_cast; omega)
                          · cases h
                      · cases h
                    · refine zite h (fun c9_45 h => ?_) (fun c9_45 h => ?_)
                      · refine p_tin (tgt := 568) (off := 523) G dL_law_45 c9_45 (by decide) (by decide) rfl (by decide) ?_
                        refine p_aload_n G rfl 1 rfl dL_law_568 ?_
                        refine p_aload_n G rfl 0 rfl dL_law_569 ?_
                        refine p_iload G 5 rfl dL_law_570 ?_
                        refine p_iconst G rfl dL_law_572 ?_
                        refine p_iadd G dL_law_573 ?_
                        refine p_sld G hR dL_law_574 h (fun c176 h => ?_)
                        refine p_aload_n G rfl 0 rfl dL_law_575 ?_
                        refine p_iload G 5 rfl dL_law_576 ?_
                        refine p_iconst G rfl dL_law_578 ?_
                        refine p_iadd G dL_law_579 ?_
                        refine p_sld G hR dL_law_580 h (fun c177 h => ?_)
                        refine p_aload_n G rfl 0 rfl dL_law_581 ?_
                        refine p_iload G 5 rfl dL_law_582 ?_
                        refine p_iconst G rfl dL_law_584 ?_
                        refine p_iadd G dL_law_585 ?_
                        refine p_sld G hR dL_law_586 h (fun c178 h => ?_)
                        refine p_aload_n G rfl 0 rfl dL_law_587 ?_
                        refine p_iload G 5 rfl dL_law_588 ?_
                        refine p_iconst G rfl dL_law_590 ?_
                        refine p_iadd G dL_law_591 ?_
                        refine p_sld G hR dL_law_592 h (fun c179 h => ?_)
                        refine p_aload_n G rfl 0 rfl dL_law_593 ?_
                        refine p_iload G 5 rfl dL_law_594 ?_
                        refine p_iconst G rfl dL_law_596 ?_
                        refine p_iadd G dL_law_597 ?_
                        refine p_sld G hR dL_law_598 h (fun c180 h => ?_)
                        obtain ⟨⟨σ181, v182⟩, hc, h⟩ := bnd_some h
                        rw [un2_mk] at h
                        refine p_callV G zl_72 dL_law_599 lk_L_119 (c_X6_append (gl Γ) hc) (As := [.int (zJ (xs 0 (zix (u5_28 + (1 : Int))))), .int (zJ (xs 0 (zix (u5_28 + (2 : Int))))), .int (zJ (xs 0 (zix (u5_28 + (3 : Int))))), .int (zJ (xs 0 (zix (u5_28 + (4 : Int))))), .int (zJ (xs 0 (zix (u5_28 + (5 : Int)))))]) (ci := 6) rfl zk_72 (zs_x zs_72 _) rfl rfl rfl (Nat.le_of_ble_eq_true rfl) ⟨rfl, rfl, Nat.le_of_ble_eq_true rfl, Nat.le_of_ble_eq_true rfl⟩ hcs ?_
                        refine p_nm h (fun σ183 h => ?_)
                        refine p_aload_n G rfl 2 rfl dL_law_602 ?_
                        refine p_aload_n G rfl 0 rfl dL_law_603 ?_
                        refine p_iload G 5 rfl dL_law_604 ?_
                        refine p_iconst G rfl dL_law_606 ?_
                        refine p_iadd G dL_law_607 ?_
                        refine p_sld G hR dL_law_608 h (fun c184 h => ?_)
                        refine p_aload_n G rfl 0 rfl dL_law_609 ?_
                        refine p_iload G 5 rfl dL_law_610 ?_
                        refine p_iconst G rfl dL_law_612 ?_
                        refine p_iadd G dL_law_613 ?_
                        refine p_sld G hR dL_law_614 h (fun c185 h => ?_)
                        refine p_aload_n G rfl 0 rfl dL_law_615 ?_
                        refine p_iload G 5 rfl dL_law_616 ?_
                        refine p_iconst G rfl dL_law_618 ?_
                        refine p_iadd G dL_law_619 ?_
                        refine p_sld G hR dL_law_620 h (fun c186 h => ?_)
                        refine p_aload_n G rfl 0 rfl dL_law_621 ?_
                        refine p_iload G 5 rfl dL_law_622 ?_
                        refine p_iconst G rfl dL_law_624 ?_
                        refine p_iadd G dL_law_625 ?_
                        refine p_sld G hR dL_law_626 h (fun c187 h => ?_)
                        refine p_aload_n G rfl 0 rfl dL_law_627 ?_
                        refine p_iload G 5 rfl dL_law_628 ?_
                        refine p_iconst G rfl dL_law_630 ?_
                        refine p_iadd G dL_law_631 ?_
                        refine p_sld G hR dL_law_632 h (fun c188 h => ?_)
                        obtain ⟨⟨σ189, v190⟩, hc, h⟩ := bnd_some h
                        rw [un2_mk] at h
                        refine p_callV G zl_73 dL_law_633 lk_L_123 (c_X7_append (gl Γ) hc) (As := [.int (zJ (xs 0 (zix (u5_28 + (1 : Int))))), .int (zJ (xs 0 (zix (u5_28 + (2 : Int))))), .int (zJ (xs 0 (zix (u5_28 + (3 : Int))))), .int (zJ (xs 0 (zix (u5_28 + (4 : Int))))), .int (zJ (xs 0 (zix (u5_28 + (5 : Int)))))]) (ci := 7) rfl zk_73 (zs_x zs_73 _) rfl rfl rfl (Nat.le_of_ble_eq_true rfl) ⟨rfl, rfl, Nat.le_of_ble_eq_true rfl, Nat.le_of_ble_eq_true rfl⟩ hcs ?_
                        refine p_nm h (fun σ191 h => ?_)
                        refine p_icmpeq (tgt := 1627) G dL_law_636 (by decide) h (fun c193 h => ?_) (fun c193 h => ?_)
                        · refine p_iincE (lv' := fun v192 => [(5, .int (zJ v192)), (0, .ref b), (1, .ref (ga Γ 26)), (2, .ref (ga Γ 0)), (3, .ref (ga Γ 127)), (4, .ref (ga Γ 128))]) G dL_law_1627 h 5 rfl (by decide) (fun _ => rfl) (fun v192 hv192 h => ?_)
                          refine p_goto (tgt := 28) G dL_law_1630 (by decide) ?_
                          refine p_lv [1, 2, 3, 4, 5, 0] rfl ?_
                          exact hin28 _ (Option.some.inj h).symm Γ _ _ G hR hM (by show 0 ≤ _ ; omega) (by show _ ≤ (3072 : Int); omega) (by show _ ≤ (600000 : Int); push_cast; omega) (by show _ ≤ (7000000 : Int); push_cast; omega)
                        · cases h
                      · refine zite h (fun c10_45 h => ?_) (fun c10_45 h => ?_)
                        · refine p_tin (tgt := 641) (off := 596) G dL_law_45 c10_45 (by decide) (by decide) rfl (by decide) ?_
                          refine p_aload_n G rfl 1 rfl dL_law_641 ?_
                          refine p_aload_n G rfl 0 rfl dL_law_642 ?_
                          refine p_iload G 5 rfl dL_law_643 ?_
                          refine p_iconst G rfl dL_law_645 ?_
                          refine p_iadd G dL_law_646 ?_
                          refine p_sld G hR dL_law_647 h (fun c194 h => ?_)
                          refine p_aload_n G rfl 3 rfl dL_law_648 ?_
                          obtain ⟨⟨σ195, v196⟩, hc, h⟩ := bnd_some h
                          rw [un2_mk] at h
                          refine p_callHS (np := 3) (lv' := fun a => [(0, .ref b), (1, .ref (a 26)), (2, .ref (a 0)), (3, .ref (a 127)), (4, .ref (a 128)), (5, .int (zJ u5_28))]) (st' := fun a => []) G hR hM zl_74 dL_law_649 gm_981 gm_982 gm_88 gm_983 (by decide +kernel) (c_L_truncate (gl Γ) (by rw [hM.1]; exact hl) hc) (As := [.ref (ga Γ 26), .int (zJ (xs 0 (zix (u5_28 + (1 : Int))))), .ref (ga Γ 127)]) rfl zk_74 (by decide +kernel) (by decide +kernel) (zs_x zs_74 _) rfl (Nat.le_of_ble_eq_true rfl) ⟨rfl, rfl, Nat.le_of_ble_eq_true rfl, Nat.le_of_ble_eq_true rfl⟩ (le_rc (by omega)) (le_rs (by omega)) h (fun a e => by have q0 := e 0 _ rfl rfl; have q26 := e 26 _ rfl rfl; have q127 := e 127 _ rfl rfl; have q128 := e 128 _ rfl rfl; exact ⟨by simp only [q0, q26, q127, q128], by rfl⟩) (fun Γ G hR hM σ197 h => ?_)
                          refine (?_ : PT Γ 10 shLaw 652 σ197 [(0, .ref b), (1, .ref (ga Γ 26)), (2, .ref (ga Γ 0)), (3, .ref (ga Γ 127)), (4, .ref (ga Γ 128)), (5, .int (zJ u5_28))] [.int (zJ v196)])
                          have hcs := mk_cs G hM (le_rc (by omega)) (le_rs (by omega))
                          refine p_istoreU (lv' := [(6, .int (zJ v196)), (0, .ref b), (1, .ref (ga Γ 26)), (2, .ref (ga Γ 0)), (3, .ref (ga Γ 127)), (4, .ref (ga Γ 128)), (5, .int (zJ u5_28))]) G dL_law_652 (by decide) rfl ?_
                          refine p_aload_n G rfl 3 rfl dL_law_654 ?_
                          refine p_aload_n G rfl 1 rfl dL_law_655 ?_
                          refine p_iload G 6 rfl dL_law_656 ?_
                          refine p_iconst G rfl dL_law_658 ?_
                          refine p_iadd G dL_law_659 ?_
                          refine p_sld G hR dL_law_660 h (fun c198 h => ?_)
                          obtain ⟨⟨σ199, v200⟩, hc, h⟩ := bnd_some h
                          rw [un2_mk] at h
                          refine p_callV G zl_73 dL_law_661 lk_L_126 (c_X7_truncate (gl Γ) hc) (As := [.int (zJ (xs 0 (zix (u5_28 + (1 : Int)))))]) (ci := 7) rfl zk_73 (zs_x zs_73 _) rfl rfl rfl (Nat.le_of_ble_eq_true rfl) ⟨rfl, rfl, Nat.le_of_ble_eq_true rfl, Nat.le_of_ble_eq_true rfl⟩ hcs ?_
                          refine p_nm h (fun σ201 h => ?_)
                          refine p_istoreU (lv' := [(7, .int (zJ v200)), (6, .int (zJ v196)), (0, .ref b), (1, .ref (ga Γ 26)), (2, .ref (ga Γ 0)), (3, .ref (ga Γ 127)), (4, .ref (ga Γ 128)), (5, .int (zJ u5_28))]) G dL_law_664 (by decide) rfl ?_
                          refine p_aload_n G rfl 4 rfl dL_law_666 ?_
                          obtain ⟨v202, hc, h⟩ := bnd_some h
                          refine p_callVr G zl_73 dL_law_667 lk_L_95 (c_X7_thrown (gl Γ) hc) (As := []) (ci := 7) rfl zk_73 (zs_x zs_73 _) rfl rfl rfl (Nat.le_of_ble_eq_true rfl) ⟨rfl, rfl, Nat.le_of_ble_eq_true rfl, Nat.le_of_ble_eq_true rfl⟩ hcs ?_
                          refine p_iload G 1 rfl dL_law_670 ?_
                          refine p_icmpeq (tgt := 677) G dL_law_672 (by decide) h (fun c208 h => ?_) (fun c208 h => ?_)
                          · refine p_iload G 1 rfl dL_law_677 ?_
                            refine p_ifne (tgt := 694) G dL_law_679 (by decide) h (fun c207 h => ?_) (fun c207 h => ?_)
                            · refine p_goto (tgt := 1627) G dL_law_694 (by decide) ?_
                              refine p_iincE (lv' := fun v203 => [(5, .int (zJ v203)), (7, .int (zJ v200)), (6, .int (zJ v196)), (0, .ref b), (1, .ref (ga Γ 26)), (2, .ref (ga Γ 0)), (3, .ref (ga Γ 127)), (4, .ref (ga Γ 128))]) G dL_law_1627 h 7 rfl (by decide) (fun _ => rfl) (fun v203 hv203 h => ?_)
                              refine p_goto (tgt := 28) G dL_law_1630 (by decide) ?_
                              refine p_lv [3, 4, 5, 6, 7, 0] rfl ?_
                              exact hin28 _ (Option.some.inj h).symm Γ _ _ G hR hM (by show 0 ≤ _ ; omega) (by show _ ≤ (3072 : Int); omega) (by show _ ≤ (600000 : Int); push_cast; omega) (by show _ ≤ (7000000 : Int); push_cast; omega)
                            · refine p_aload_n G rfl 5 rfl dL_law_682 ?_
                              refine p_iconst G rfl dL_law_683 ?_
                              refine p_lald G dL_law_684 (k := 127) rfl (zt_c _) h (fun c204 h => ?_)
                              refine p_iload G 0 rfl dL_law_685 ?_
                              refine p_i2l G dL_law_687 ?_
                              refine p_lcmp G dL_law_688 ?_
                              refine p_ifeq (tgt := 694) G dL_law_689 (by decide) h (fun c206 h => ?_) (fun c206 h => ?_)
                              · refine p_goto (tgt := 1627) G dL_law_694 (by decide) ?_
                                refine p_iincE (lv' := fun v205 => [(5, .int (zJ v205)), (7, .int (zJ v200)), (6, .int (zJ v196)), (0, .ref b), (1, .ref (ga Γ 26)), (2, .ref (ga Γ 0)), (3, .ref (ga Γ 127)), (4, .ref (ga Γ 128))]) G dL_law_1627 h 7 rfl (by decide) (fun _ => rfl) (fun v205 hv205 h => ?_)
                                refine p_goto (tgt := 28) G dL_law_1630 (by decide) ?_
                                refine p_lv [3, 4, 5, 6, 7, 0] rfl ?_
                                exact hin28 _ (Option.some.inj h).symm Γ _ _ G hR hM (by show 0 ≤ _ ; omega) (by show _ ≤ (3072 : Int); omega) (by show _ ≤ (600000 : Int); push_cast; omega) (by show _ ≤ (7000000 : Int); push_cast; omega)
                              · cases h
                          · cases h
                        · refine zite h (fun c11_45 h => ?_) (fun c11_45 h => ?_)
                          · refine p_tin (tgt := 697) (off := 652) G dL_law_45 c11_45 (by decide) (by decide) rfl (by decide) ?_
                            refine p_aload_n G rfl 1 rfl dL_law_697 ?_
                            refine p_aload_n G rfl 0 rfl dL_law_698 ?_
                            refine p_iload G 5 rfl dL_law_699 ?_
                            refine p_iconst G rfl dL_law_701 ?_
                            refine p_iadd G dL_law_702 ?_
                            refine p_sld G hR dL_law_703 h (fun c209 h => ?_)
                            refine p_aload_n G rfl 3 rfl dL_law_704 ?_
                            obtain ⟨⟨σ210, v211⟩, hc, h⟩ := bnd_some h
                            rw [un2_mk] at h
                            refine p_callHS (np := 3) (lv' := fun a => [(0, .ref b), (1, .ref (a 26)), (2, .ref (a 0)), (3, .ref (a 127)), (4, .ref (a 128)), (5, .int (zJ u5_28))]) (st' := fun a => []) G hR hM zl_74 dL_law_705 gm_988 gm_989 gm_88 gm_990 (by decide +kernel) (c_L_match (gl Γ) (by rw [hM.1]; exact hl) hc) (As := [.ref (ga Γ 26), .int (zJ (xs 0 (zix (u5_28 + (1 : Int))))), .ref (ga Γ 127)]) rfl zk_74 (by decide +kernel) (by decide +kernel) (zs_x zs_74 _) rfl (Nat.le_of_ble_eq_true rfl) ⟨rfl, rfl, Nat.le_of_ble_eq_true rfl, Nat.le_of_ble_eq_true rfl⟩ (le_rc (by omega)) (le_rs (by omega)) h (fun a e => by have q0 := e 0 _ rfl rfl; have q26 := e 26 _ rfl rfl; have q127 := e 127 _ rfl rfl; have q128 := e 128 _ rfl rfl; exact ⟨by simp only [q0, q26, q127, q128], by rfl⟩) (fun Γ G hR hM σ212 h => ?_)
                            refine (?_ : PT Γ 10 shLaw 708 σ212 [(0, .ref b), (1, .ref (ga Γ 26)), (2, .ref (ga Γ 0)), (3, .ref (ga Γ 127)), (4, .ref (ga Γ 128)), (5, .int (zJ u5_28))] [.int (zJ v211)])
                            have hcs := mk_cs G hM (le_rc (by omega)) (le_rs (by omega))
                            refine p_istoreU (lv' := [(6, .int (zJ v211)), (0, .ref b), (1, .ref (ga Γ 26)), (2, .ref (ga Γ 0)), (3, .ref (ga Γ 127)), (4, .ref (ga Γ 128)), (5, .int (zJ u5_28))]) G dL_law_708 (by decide) rfl ?_
                            refine p_aload_n G rfl 3 rfl dL_law_710 ?_
                            refine p_aload_n G rfl 1 rfl dL_law_711 ?_
                            refine p_iload G 6 rfl dL_law_712 ?_
                            refine p_iconst G rfl dL_law_714 ?_
                            refine p_iadd G dL_law_715 ?_
                            refine p_sld G hR dL_law_716 h (fun c213 h => ?_)
                            obtain ⟨⟨σ214, v215⟩, hc, h⟩ := bnd_some h
                            rw [un2_mk] at h
                            refine p_callV G zl_73 dL_law_717 lk_L_129 (c_X7_match (gl Γ) hc) (As := [.int (zJ (xs 0 (zix (u5_28 + (1 : Int)))))]) (ci := 7) rfl zk_73 (zs_x zs_73 _) rfl rfl rfl (Nat.le_of_ble_eq_true rfl) ⟨rfl, rfl, Nat.le_of_ble_eq_true rfl, Nat.le_of_ble_eq_true rfl⟩ hcs ?_
                            refine p_nm h (fun σ216 h => ?_)
                            refine p_istoreU (lv' := [(7, .int (zJ v215)), (6, .int (zJ v211)), (0, .ref b), (1, .ref (ga Γ 26)), (2, .ref (ga Γ 0)), (3, .ref (ga Γ 127)), (4, .ref (ga Γ 128)), (5, .int (zJ u5_28))]) G dL_law_720 (by decide) rfl ?_
                            refine p_aload_n G rfl 4 rfl dL_law_722 ?_
                            obtain ⟨v217, hc, h⟩ := bnd_some h
                            refine p_callVr G zl_73 dL_law_723 lk_L_95 (c_X7_thrown (gl Γ) hc) (As := []) (ci := 7) rfl zk_73 (zs_x zs_73 _) rfl rfl rfl (Nat.le_of_ble_eq_true rfl) ⟨rfl, rfl, Nat.le_of_ble_eq_true rfl, Nat.le_of_ble_eq_true rfl⟩ hcs ?_
                            refine p_iload G 1 rfl dL_law_726 ?_
                            refine p_icmpeq (tgt := 733) G dL_law_728 (by decide) h (fun c223 h => ?_) (fun c223 h => ?_)
                            · refine p_iload G 1 rfl dL_law_733 ?_
                              refine p_ifne (tgt := 750) G dL_law_735 (by decide) h (fun c222 h => ?_) (fun c222 h => ?_)
                              · refine p_goto (tgt := 1627) G dL_law_750 (by decide) ?_
                                refine p_iincE (lv' := fun v218 => [(5, .int (zJ v218)), (7, .int (zJ v215)), (6, .int (zJ v211)), (0, .ref b), (1, .ref (ga Γ 26)), (2, .ref (ga Γ 0)), (3, .ref (ga Γ 127)), (4, .ref (ga Γ 128))]) G dL_law_1627 h 7 rfl (by decide) (fun _ => rfl) (fun v218 hv218 h => ?_)
                                refine p_goto (tgt := 28) G dL_law_1630 (by decide) ?_
                                refine p_lv [3, 4, 5, 6, 7, 0] rfl ?_
                                exact hin28 _ (Option.some.inj h).symm Γ _ _ G hR hM (by show 0 ≤ _ ; omega) (by show _ ≤ (3072 : Int); omega) (by show _ ≤ (600000 : Int); push_cast; omega) (by show _ ≤ (7000000 : Int); push_cast; omega)
                              · refine p_aload_n G rfl 5 rfl dL_law_738 ?_
                                refine p_iconst G rfl dL_law_739 ?_
                                refine p_lald G dL_law_740 (k := 127) rfl (zt_c _) h (fun c219 h => ?_)
                                refine p_iload G 0 rfl dL_law_741 ?_
                                refine p_i2l G dL_law_743 ?_
                                refine p_lcmp G dL_law_744 ?_
                                refine p_ifeq (tgt := 750) G dL_law_745 (by decide) h (fun c221 h => ?_) (fun c221 h => ?_)
                                · refine p_goto (tgt := 1627) G dL_law_750 (by decide) ?_
                                  refine p_iincE (lv' := fun v220 => [(5, .int (zJ v220)), (7, .int (zJ v215)), (6, .int (zJ v211)), (0, .ref b), (1, .ref (ga Γ 26)), (2, .ref (ga Γ 0)), (3, .ref (ga Γ 127)), (4, .ref (ga Γ 128))]) G dL_law_1627 h 7 rfl (by decide) (fun _ => rfl) (fun v220 hv220 h => ?_)
                                  refine p_goto (tgt := 28) G dL_law_1630 (by decide) ?_
                                  refine p_lv [3, 4, 5, 6, 7, 0] rfl ?_
                                  exact hin28 _ (Option.some.inj h).symm Γ _ _ G hR hM (by show 0 ≤ _ ; omega) (by show _ ≤ (3072 : Int); omega) (by show _ ≤ (600000 : Int); push_cast; omega) (by show _ ≤ (7000000 : Int); push_cast; omega)
                                · cases h
                            · cases h
                          · refine zite h (fun c12_45 h => ?_) (fun c12_45 h => ?_)
                            · refine p_tin (tgt := 753) (off := 708) G dL_law_45 c12_45 (by decide) (by decide) rfl (by decide) ?_
                              refine p_aload_n G rfl 1 rfl dL_law_753 ?_
                              obtain ⟨v224, hc, h⟩ := bnd_some h
                              refine p_callVr G zl_72 dL_law_754 lk_L_130 (c_X6_number (gl Γ) hc) (As := []) (ci := 6) rfl zk_72 (zs_x zs_72 _) rfl rfl rfl (Nat.le_of_ble_eq_true rfl) ⟨rfl, rfl, Nat.le_of_ble_eq_true rfl, Nat.le_of_ble_eq_true rfl⟩ hcs ?_
                              refine p_aload_n G rfl 2 rfl dL_law_757 ?_
                              obtain ⟨⟨σ225, v226⟩, hc, h⟩ := bnd_some h
                              rw [un2_mk] at h
                              refine p_callV G zl_73 dL_law_758 lk_L_134 (c_X7_number (gl Γ) hc) (As := []) (ci := 7) rfl zk_73 (zs_x zs_73 _) rfl rfl rfl (Nat.le_of_ble_eq_true rfl) ⟨rfl, rfl, Nat.le_of_ble_eq_true rfl, Nat.le_of_ble_eq_true rfl⟩ hcs ?_
                              refine p_nm h (fun σ227 h => ?_)
                              refine p_lcmp G dL_law_761 ?_
                              refine p_ifeq (tgt := 1627) G dL_law_762 (by decide) h (fun c229 h => ?_) (fun c229 h => ?_)
                              · refine p_iincE (lv' := fun v228 => [(5, .int (zJ v228)), (0, .ref b), (1, .ref (ga Γ 26)), (2, .ref (ga Γ 0)), (3, .ref (ga Γ 127)), (4, .ref (ga Γ 128))]) G dL_law_1627 h 5 rfl (by decide) (fun _ => rfl) (fun v228 hv228 h => ?_)
                                refine p_goto (tgt := 28) G dL_law_1630 (by decide) ?_
                                refine p_lv [1, 2, 3, 4, 5, 0] rfl ?_
                                exact hin28 _ (Option.some.inj h).symm Γ _ _ G hR hM (by show 0 ≤ _ ; omega) (by show _ ≤ (3072 : Int); omega) (by show _ ≤ (600000 : Int); push_cast; omega) (by show _ ≤ (7000000 : Int); push_cast; omega)
                              · cases h
                            · refine zite h (fun c13_45 h => ?_) (fun c13_45 h => ?_)
                              · refine p_tin (tgt := 767) (off := 722) G dL_law_45 c13_45 (by decide) (by decide) rfl (by decide) ?_
                                refine p_aload_n G rfl 1 rfl dL_law_767 ?_
                                refine p_aload_n G rfl 0 rfl dL_law_768 ?_
                                refine p_iload G 5 rfl dL_law_769 ?_
                                refine p_iconst G rfl dL_law_771 ?_
                                refine p_iadd G dL_law_772 ?_
                                refine p_sld G hR dL_law_773 h (fun c230 h => ?_)
                                refine p_aload_n G rfl 0 rfl dL_law_774 ?_
                                refine p_iload G 5 rfl dL_law_775 ?_
                                refine p_iconst G rfl dL_law_777 ?_
                                refine p_iadd G dL_law_778 ?_
                                refine p_sld G hR dL_law_779 h (fun c231 h => ?_)
                                refine p_aload_n G rfl 3 rfl dL_law_780 ?_
                                obtain ⟨⟨σ232, v233⟩, hc, h⟩ := bnd_some h
                                rw [un2_mk] at h
                                refine p_callHS (np := 4) (lv' := fun a => [(0, .ref b), (1, .ref (a 26)), (2, .ref (a 0)), (3, .ref (a 127)), (4, .ref (a 128)), (5, .int (zJ u5_28))]) (st' := fun a => []) G hR hM zl_74 dL_law_781 gm_1000 gm_1001 gm_88 gm_1002 (by decide +kernel) (c_L_player (gl Γ) (by rw [hM.1]; exact hl) hc) (As := [.ref (ga Γ 26), .int (zJ (xs 0 (zix (u5_28 + (1 : Int))))), .int (zJ (xs 0 (zix (u5_28 + (2 : Int))))), .ref (ga Γ 127)]) rfl zk_74 (by decide +kernel) (by decide +kernel) (zs_x zs_74 _) rfl (Nat.le_of_ble_eq_true rfl) ⟨rfl, rfl, Nat.le_of_ble_eq_true rfl, Nat.le_of_ble_eq_true rfl⟩ (le_rc (by omega)) (le_rs (by omega)) h (fun a e => by have q0 := e 0 _ rfl rfl; have q26 := e 26 _ rfl rfl; have q127 := e 127 _ rfl rfl; have q128 := e 128 _ rfl rfl; exact ⟨by simp only [q0, q26, q127, q128], by rfl⟩) (fun Γ G hR hM σ234 h => ?_)
                                refine (?_ : PT Γ 10 shLaw 784 σ234 [(0, .ref b), (1, .ref (ga Γ 26)), (2, .ref (ga Γ 0)), (3, .ref (ga Γ 127)), (4, .ref (ga Γ 128)), (5, .int (zJ u5_28))] [.int (zJ v233)])
                                have hcs := mk_cs G hM (le_rc (by omega)) (le_rs (by omega))
                                refine p_istoreU (lv' := [(6, .int (zJ v233)), (0, .ref b), (1, .ref (ga Γ 26)), (2, .ref (ga Γ 0)), (3, .ref (ga Γ 127)), (4, .ref (ga Γ 128)), (5, .int (zJ u5_28))]) G dL_law_784 (by decide) rfl ?_
                                refine p_aload_n G rfl 3 rfl dL_law_786 ?_
                                refine p_aload_n G rfl 1 rfl dL_law_787 ?_
                                refine p_iload G 6 rfl dL_law_788 ?_
                                refine p_iconst G rfl dL_law_790 ?_
                                refine p_iadd G dL_law_791 ?_
                                refine p_sld G hR dL_law_792 h (fun c235 h => ?_)
                                refine p_aload_n G rfl 1 rfl dL_law_793 ?_
                                refine p_iload G 6 rfl dL_law_794 ?_
                                refine p_iconst G rfl dL_law_796 ?_
                                refine p_iadd G dL_law_797 ?_
                                refine p_sld G hR dL_law_798 h (fun c236 h => ?_)
                                obtain ⟨⟨σ237, v238⟩, hc, h⟩ := bnd_some h
                                rw [un2_mk] at h
                                refine p_callV G zl_73 dL_law_799 lk_L_138 (c_X7_player (gl Γ) hc) (As := [.int (zJ (xs 0 (zix (u5_28 + (1 : Int))))), .int (zJ (xs 0 (zix (u5_28 + (2 : Int)))))]) (ci := 7) rfl zk_73 (zs_x zs_73 _) rfl rfl rfl (Nat.le_of_ble_eq_true rfl) ⟨rfl, rfl, Nat.le_of_ble_eq_true rfl, Nat.le_of_ble_eq_true rfl⟩ hcs ?_
                                refine p_nm h (fun σ239 h => ?_)
                                refine p_istoreU (lv' := [(7, .int (zJ v238)), (6, .int (zJ v233)), (0, .ref b), (1, .ref (ga Γ 26)), (2, .ref (ga Γ 0)), (3, .ref (ga Γ 127)), (4, .ref (ga Γ 128)), (5, .int (zJ u5_28))]) G dL_law_802 (by decide) rfl ?_
                                refine p_aload_n G rfl 4 rfl dL_law_804 ?_
                                obtain ⟨v240, hc, h⟩ := bnd_some h
                                refine p_callVr G zl_73 dL_law_805 lk_L_95 (c_X7_thrown (gl Γ) hc) (As := []) (ci := 7) rfl zk_73 (zs_x zs_73 _) rfl rfl rfl (Nat.le_of_ble_eq_true rfl) ⟨rfl, rfl, Nat.le_of_ble_eq_true rfl, Nat.le_of_ble_eq_true rfl⟩ hcs ?_
                                refine p_iload G 1 rfl dL_law_808 ?_
                                refine p_icmpeq (tgt := 815) G dL_law_810 (by decide) h (fun c246 h => ?_) (fun c246 h => ?_)
                                · refine p_iload G 1 rfl dL_law_815 ?_
                                  refine p_ifne (tgt := 832) G dL_law_817 (by decide) h (fun c245 h => ?_) (fun c245 h => ?_)
                                  · refine p_goto (tgt := 1627) G dL_law_832 (by decide) ?_
                                    refine p_iincE (lv' := fun v241 => [(5, .int (zJ v241)), (7, .int (zJ v238)), (6, .int (zJ v233)), (0, .ref b), (1, .ref (ga Γ 26)), (2, .ref (ga Γ 0)), (3, .ref (ga Γ 127)), (4, .ref (ga Γ 128))]) G dL_law_1627 h 7 rfl (by decide) (fun _ => rfl) (fun v241 hv241 h => ?_)
                                    refine p_goto (tgt := 28) G dL_law_1630 (by decide) ?_
                                    refine p_lv [3, 4, 5, 6, 7, 0] rfl ?_
                                    exact hin28 _ (Option.some.inj h).symm Γ _ _ G hR hM (by show 0 ≤ _ ; omega) (by show _ ≤ (3072 : Int); omega) (by show _ ≤ (600000 : Int); push_cast; omega) (by show _ ≤ (7000000 : Int); push_cast; omega)
                                  · refine p_aload_n G rfl 5 rfl dL_law_820 ?_
                                    refine p_iconst G rfl dL_law_821 ?_
                                    refine p_lald G dL_law_822 (k := 127) rfl (zt_c _) h (fun c242 h => ?_)
                                    refine p_iload G 0 rfl dL_law_823 ?_
                                    refine p_i2l G dL_law_825 ?_
                                    refine p_lcmp G dL_law_826 ?_
                                    refine p_ifeq (tgt := 832) G dL_law_827 (by decide) h (fun c244 h => ?_) (fun c244 h => ?_)
                                    · refine p_goto (tgt := 1627) G dL_law_832 (by decide) ?_
                                      refine p_iincE (lv' := fun v243 => [(5, .int (zJ v243)), (7, .int (zJ v238)), (6, .int (zJ v233)), (0, .ref b), (1, .ref (ga Γ 26)), (2, .ref (ga Γ 0)), (3, .ref (ga Γ 127)), (4, .ref (ga Γ 128))]) G dL_law_1627 h 7 rfl (by decide) (fun _ => rfl) (fun v243 hv243 h => ?_)
                                      refine p_goto (tgt := 28) G dL_law_1630 (by decide) ?_
                                      refine p_lv [3, 4, 5, 6, 7, 0] rfl ?_
                                      exact hin28 _ (Option.some.inj h).symm Γ _ _ G hR hM (by show 0 ≤ _ ; omega) (by show _ ≤ (3072 : Int); omega) (by show _ ≤ (600000 : Int); push_cast; omega) (by show _ ≤ (7000000 : Int); push_cast; omega)
                                    · cases h
                                · cases h
                              · refine zite h (fun c14_45 h => ?_) (fun c14_45 h => ?_)
                                · refine p_tin (tgt := 835) (off := 790) G dL_law_45 c14_45 (by decide) (by decide) rfl (by decide) ?_
                                  refine p_aload_n G rfl 1 rfl dL_law_835 ?_
                                  refine p_aload_n G rfl 0 rfl dL_law_836 ?_
                                  refine p_iload G 5 rfl dL_law_837 ?_
                                  refine p_iconst G rfl dL_law_839 ?_
                                  refine p_iadd G dL_law_840 ?_
                                  refine p_sld G hR dL_law_841 h (fun c247 h => ?_)
                                  refine p_aload_n G rfl 0 rfl dL_law_842 ?_
                                  refine p_iload G 5 rfl dL_law_843 ?_
                                  refine p_iconst G rfl dL_law_845 ?_
                                  refine p_iadd G dL_law_846 ?_
                                  refine p_sld G hR dL_law_847 h (fun c248 h => ?_)
                                  refine p_aload_n G rfl 3 rfl dL_law_848 ?_
                                  obtain ⟨⟨σ249, v250⟩, hc, h⟩ := bnd_some h
                                  rw [un2_mk] at h
                                  refine p_callHS (np := 4) (lv' := fun a => [(0, .ref b), (1, .ref (a 26)), (2, .ref (a 0)), (3, .ref (a 127)), (4, .ref (a 128)), (5, .int (zJ u5_28))]) (st' := fun a => []) G hR hM zl_74 dL_law_849 gm_1018 gm_1019 gm_88 gm_1020 (by decide +kernel) (c_L_card (gl Γ) (by rw [hM.1]; exact hl) hc) (As := [.ref (ga Γ 26), .int (zJ (xs 0 (zix (u5_28 + (1 : Int))))), .int (zJ (xs 0 (zix (u5_28 + (2 : Int))))), .ref (ga Γ 127)]) rfl zk_74 (by decide +kernel) (by decide +kernel) (zs_x zs_74 _) rfl (Nat.le_of_ble_eq_true rfl) ⟨rfl, rfl, Nat.le_of_ble_eq_true rfl, Nat.le_of_ble_eq_true rfl⟩ (le_rc (by omega)) (le_rs (by omega)) h (fun a e => by have q0 := e 0 _ rfl rfl; have q26 := e 26 _ rfl rfl; have q127 := e 127 _ rfl rfl; have q128 := e 128 _ rfl rfl; exact ⟨by simp only [q0, q26, q127, q128], by rfl⟩) (fun Γ G hR hM σ251 h => ?_)
                                  refine (?_ : PT Γ 10 shLaw 852 σ251 [(0, .ref b), (1, .ref (ga Γ 26)), (2, .ref (ga Γ 0)), (3, .ref (ga Γ 127)), (4, .ref (ga Γ 128)), (5, .int (zJ u5_28))] [.int (zJ v250)])
                                  have hcs := mk_cs G hM (le_rc (by omega)) (le_rs (by omega))
                                  refine p_istoreU (lv' := [(6, .int (zJ v250)), (0, .ref b), (1, .ref (ga Γ 26)), (2, .ref (ga Γ 0)), (3, .ref (ga Γ 127)), (4, .ref (ga Γ 128)), (5, .int (zJ u5_28))]) G dL_law_852 (by decide) rfl ?_
                                  refine p_aload_n G rfl 3 rfl dL_law_854 ?_
                                  refine p_aload_n G rfl 1 rfl dL_law_855 ?_
                                  refine p_iload G 6 rfl dL_law_856 ?_
                                  refine p_iconst G rfl dL_law_858 ?_
                                  refine p_iadd G dL_law_859 ?_
                                  refine p_sld G hR dL_law_860 h (fun c252 h => ?_)
                                  refine p_aload_n G rfl 1 rfl dL_law_861 ?_
                                  refine p_iload G 6 rfl dL_law_862 ?_
                                  refine p_iconst G rfl dL_law_864 ?_
                                  refine p_iadd G dL_law_865 ?_
                                  refine p_sld G hR dL_law_866 h (fun c253 h => ?_)
                                  obtain ⟨⟨σ254, v255⟩, hc, h⟩ := bnd_some h
                                  rw [un2_mk] at h
                                  refine p_callV G zl_73 dL_law_867 lk_L_141 (c_X7_card (gl Γ) hc) (As := [.int (zJ (xs 0 (zix (u5_28 + (1 : Int))))), .int (zJ (xs 0 (zix (u5_28 + (2 : Int)))))]) (ci := 7) rfl zk_73 (zs_x zs_73 _) rfl rfl rfl (Nat.le_of_ble_eq_true rfl) ⟨rfl, rfl, Nat.le_of_ble_eq_true rfl, Nat.le_of_ble_eq_true rfl⟩ hcs ?_
                                  refine p_nm h (fun σ256 h => ?_)
                                  refine p_istoreU (lv' := [(7, .int (zJ v255)), (6, .int (zJ v250)), (0, .ref b), (1, .ref (ga Γ 26)), (2, .ref (ga Γ 0)), (3, .ref (ga Γ 127)), (4, .ref (ga Γ 128)), (5, .int (zJ u5_28))]) G dL_law_870 (by decide) rfl ?_
                                  refine p_aload_n G rfl 4 rfl dL_law_872 ?_
                                  obtain ⟨v257, hc, h⟩ := bnd_some h
                                  refine p_callVr G zl_73 dL_law_873 lk_L_95 (c_X7_thrown (gl Γ) hc) (As := []) (ci := 7) rfl zk_73 (zs_x zs_73 _) rfl rfl rfl (Nat.le_of_ble_eq_true rfl) ⟨rfl, rfl, Nat.le_of_ble_eq_true rfl, Nat.le_of_ble_eq_true rfl⟩ hcs ?_
                                  refine p_iload G 1 rfl dL_law_876 ?_
                                  refine p_icmpeq (tgt := 883) G dL_law_878 (by decide) h (fun c263 h => ?_) (fun c263 h => ?_)
                                  · refine p_iload G 1 rfl dL_law_883 ?_
                                    refine p_ifne (tgt := 900) G dL_law_885 (by decide) h (fun c262 h => ?_) (fun c262 h => ?_)
                                    · refine p_goto (tgt := 1627) G dL_law_900 (by decide) ?_
                                      refine p_iincE (lv' := fun v258 => [(5, .int (zJ v258)), (7, .int (zJ v255)), (6, .int (zJ v250)), (0, .ref b), (1, .ref (ga Γ 26)), (2, .ref (ga Γ 0)), (3, .ref (ga Γ 127)), (4, .ref (ga Γ 128))]) G dL_law_1627 h 7 rfl (by decide) (fun _ => rfl) (fun v258 hv258 h => ?_)
                                      refine p_goto (tgt := 28) G dL_law_1630 (by decide) ?_
                                      refine p_lv [3, 4, 5, 6, 7, 0] rfl ?_
                                      exact hin28 _ (Option.some.inj h).symm Γ _ _ G hR hM (by show 0 ≤ _ ; omega) (by show _ ≤ (3072 : Int); omega) (by show _ ≤ (600000 : Int); push_cast; omega) (by show _ ≤ (7000000 : Int); push_cast; omega)
                                    · refine p_aload_n G rfl 5 rfl dL_law_888 ?_
                                      refine p_iconst G rfl dL_law_889 ?_
                                      refine p_lald G dL_law_890 (k := 127) rfl (zt_c _) h (fun c259 h => ?_)
                                      refine p_iload G 0 rfl dL_law_891 ?_
                                      refine p_i2l G dL_law_893 ?_
                                      refine p_lcmp G dL_law_894 ?_
                                      refine p_ifeq (tgt := 900) G dL_law_895 (by decide) h (fun c261 h => ?_) (fun c261 h => ?_)
                                      · refine p_goto (tgt := 1627) G dL_law_900 (by decide) ?_
                                        refine p_iincE (lv' := fun v260 => [(5, .int (zJ v260)), (7, .int (zJ v255)), (6, .int (zJ v250)), (0, .ref b), (1, .ref (ga Γ 26)), (2, .ref (ga Γ 0)), (3, .ref (ga Γ 127)), (4, .ref (ga Γ 128))]) G dL_law_1627 h 7 rfl (by decide) (fun _ => rfl) (fun v260 hv260 h => ?_)
                                        refine p_goto (tgt := 28) G dL_law_1630 (by decide) ?_
                                        refine p_lv [3, 4, 5, 6, 7, 0] rfl ?_
                                        exact hin28 _ (Option.some.inj h).symm Γ _ _ G hR hM (by show 0 ≤ _ ; omega) (by show _ ≤ (3072 : Int); omega) (by show _ ≤ (600000 : Int); push_cast; omega) (by show _ ≤ (7000000 : Int); push_cast; omega)
                                      · cases h
                                  · cases h
                                · refine zite h (fun c15_45 h => ?_) (fun c15_45 h => ?_)
                                  · refine p_tin (tgt := 903) (off := 858) G dL_law_45 c15_45 (by decide) (by decide) rfl (by decide) ?_
                                    refine p_aload_n G rfl 1 rfl dL_law_903 ?_
                                    refine p_aload_n G rfl 0 rfl dL_law_904 ?_
                                    refine p_iload G 5 rfl dL_law_905 ?_
                                    refine p_iconst G rfl dL_law_907 ?_
                                    refine p_iadd G dL_law_908 ?_
                                    refine p_sld G hR dL_law_909 h (fun c264 h => ?_)
                                    refine p_aload_n G rfl 3 rfl dL_law_910 ?_
                                    obtain ⟨⟨σ265, v266⟩, hc, h⟩ := bnd_some h
                                    rw [un2_mk] at h
                                    refine p_callHS (np := 3) (lv' := fun a => [(0, .ref b), (1, .ref (a 26)), (2, .ref (a 0)), (3, .ref (a 127)), (4, .ref (a 128)), (5, .int (zJ u5_28))]) (st' := fun a => []) G hR hM zl_74 dL_law_911 gm_1025 gm_1026 gm_88 gm_1027 (by decide +kernel) (c_L_where (gl Γ) (by rw [hM.1]; exact hl) hc) (As := [.ref (ga Γ 26), .int (zJ (xs 0 (zix (u5_28 + (1 : Int))))), .ref (ga Γ 127)]) rfl zk_74 (by decide +kernel) (by decide +kernel) (zs_x zs_74 _) rfl (Nat.le_of_ble_eq_true rfl) ⟨rfl, rfl, Nat.le_of_ble_eq_true rfl, Nat.le_of_ble_eq_true rfl⟩ (le_rc (by omega)) (le_rs (by omega)) h (fun a e => by have q0 := e 0 _ rfl rfl; have q26 := e 26 _ rfl rfl; have q127 := e 127 _ rfl rfl; have q128 := e 128 _ rfl rfl; exact ⟨by simp only [q0, q26, q127, q128], by rfl⟩) (fun Γ G hR hM σ267 h => ?_)
                                    refine (?_ : PT Γ 10 shLaw 914 σ267 [(0, .ref b), (1, .ref (ga Γ 26)), (2, .ref (ga Γ 0)), (3, .ref (ga Γ 127)), (4, .ref (ga Γ 128)), (5, .int (zJ u5_28))] [.int (zJ v266)])
                                    have hcs := mk_cs G hM (le_rc (by omega)) (le_rs (by omega))
                                    refine p_istoreU (lv' := [(6, .int (zJ v266)), (0, .ref b), (1, .ref (ga Γ 26)), (2, .ref (ga Γ 0)), (3, .ref (ga Γ 127)), (4, .ref (ga Γ 128)), (5, .int (zJ u5_28))]) G dL_law_914 (by decide) rfl ?_
                                    refine p_aload_n G rfl 3 rfl dL_law_916 ?_
                                    refine p_aload_n G rfl 1 rfl dL_law_917 ?_
                                    refine p_iload G 6 rfl dL_law_918 ?_
                                    refine p_iconst G rfl dL_law_920 ?_
                                    refine p_iadd G dL_law_921 ?_
                                    refine p_sld G hR dL_law_922 h (fun c268 h => ?_)
                                    obtain ⟨⟨σ269, v270⟩, hc, h⟩ := bnd_some h
                                    rw [un2_mk] at h
                                    refine p_callV G zl_73 dL_law_923 lk_L_144 (c_X7_where (gl Γ) hc) (As := [.int (zJ (xs 0 (zix (u5_28 + (1 : Int)))))]) (ci := 7) rfl zk_73 (zs_x zs_73 _) rfl rfl rfl (Nat.le_of_ble_eq_true rfl) ⟨rfl, rfl, Nat.le_of_ble_eq_true rfl, Nat.le_of_ble_eq_true rfl⟩ hcs ?_
                                    refine p_nm h (fun σ271 h => ?_)
                                    refine p_istoreU (lv' := [(7, .int (zJ v270)), (6, .int (zJ v266)), (0, .ref b), (1, .ref (ga Γ 26)), (2, .ref (ga Γ 0)), (3, .ref (ga Γ 127)), (4, .ref (ga Γ 128)), (5, .int (zJ u5_28))]) G dL_law_926 (by decide) rfl ?_
                                    refine p_aload_n G rfl 4 rfl dL_law_928 ?_
                                    obtain ⟨v272, hc, h⟩ := bnd_some h
                                    refine p_callVr G zl_73 dL_law_929 lk_L_95 (c_X7_thrown (gl Γ) hc) (As := []) (ci := 7) rfl zk_73 (zs_x zs_73 _) rfl rfl rfl (Nat.le_of_ble_eq_true rfl) ⟨rfl, rfl, Nat.le_of_ble_eq_true rfl, Nat.le_of_ble_eq_true rfl⟩ hcs ?_
                                    refine p_iload G 1 rfl dL_law_932 ?_
                                    refine p_icmpeq (tgt := 939) G dL_law_934 (by decide) h (fun c278 h => ?_) (fun c278 h => ?_)
                                    · refine p_iload G 1 rfl dL_law_939 ?_
                                      refine p_ifne (tgt := 956) G dL_law_941 (by decide) h (fun c277 h => ?_) (fun c277 h => ?_)
                                      · refine p_goto (tgt := 1627) G dL_law_956 (by decide) ?_
                                        refine p_iincE (lv' := fun v273 => [(5, .int (zJ v273)), (7, .int (zJ v270)), (6, .int (zJ v266)), (0, .ref b), (1, .ref (ga Γ 26)), (2, .ref (ga Γ 0)), (3, .ref (ga Γ 127)), (4, .ref (ga Γ 128))]) G dL_law_1627 h 7 rfl (by decide) (fun _ => rfl) (fun v273 hv273 h => ?_)
                                        refine p_goto (tgt := 28) G dL_law_1630 (by decide) ?_
                                        refine p_lv [3, 4, 5, 6, 7, 0] rfl ?_
                                        exact hin28 _ (Option.some.inj h).symm Γ _ _ G hR hM (by show 0 ≤ _ ; omega) (by show _ ≤ (3072 : Int); omega) (by show _ ≤ (600000 : Int); push_cast; omega) (by show _ ≤ (7000000 : Int); push_cast; omega)
                                      · refine p_aload_n G rfl 5 rfl dL_law_944 ?_
                                        refine p_iconst G rfl dL_law_945 ?_
                                        refine p_lald G dL_law_946 (k := 127) rfl (zt_c _) h (fun c274 h => ?_)
                                        refine p_iload G 0 rfl dL_law_947 ?_
                                        refine p_i2l G dL_law_949 ?_
                                        refine p_lcmp G dL_law_950 ?_
                                        refine p_ifeq (tgt := 956) G dL_law_951 (by decide) h (fun c276 h => ?_) (fun c276 h => ?_)
                                        · refine p_goto (tgt := 1627) G dL_law_956 (by decide) ?_
                                          refine p_iincE (lv' := fun v275 => [(5, .int (zJ v275)), (7, .int (zJ v270)), (6, .int (zJ v266)), (0, .ref b), (1, .ref (ga Γ 26)), (2, .ref (ga Γ 0)), (3, .ref (ga Γ 127)), (4, .ref (ga Γ 128))]) G dL_law_1627 h 7 rfl (by decide) (fun _ => rfl) (fun v275 hv275 h => ?_)
                                          refine p_goto (tgt := 28) G dL_law_1630 (by decide) ?_
                                          refine p_lv [3, 4, 5, 6, 7, 0] rfl ?_
                                          exact hin28 _ (Option.some.inj h).symm Γ _ _ G hR hM (by show 0 ≤ _ ; omega) (by show _ ≤ (3072 : Int); omega) (by show _ ≤ (600000 : Int); push_cast; omega) (by show _ ≤ (7000000 : Int); push_cast; omega)
                                        · cases h
                                    · cases h
                                  · refine zite h (fun c16_45 h => ?_) (fun c16_45 h => ?_)
                                    · refine p_tin (tgt := 959) (off := 914) G dL_law_45 c16_45 (by decide) (by decide) rfl (by decide) ?_
                                      refine p_aload_n G rfl 1 rfl dL_law_959 ?_
                                      refine p_aload_n G rfl 0 rfl dL_law_960 ?_
                                      refine p_iload G 5 rfl dL_law_961 ?_
                                      refine p_iconst G rfl dL_law_963 ?_
                                      refine p_iadd G dL_law_964 ?_
                                      refine p_sld G hR dL_law_965 h (fun c279 h => ?_)
                                      refine p_aload_n G rfl 0 rfl dL_law_966 ?_
                                      refine p_iload G 5 rfl dL_law_967 ?_
                                      refine p_iconst G rfl dL_law_969 ?_
                                      refine p_iadd G dL_law_970 ?_
                                      refine p_sld G hR dL_law_971 h (fun c280 h => ?_)
                                      refine p_aload_n G rfl 3 rfl dL_law_972 ?_
                                      obtain ⟨⟨σ281, v282⟩, hc, h⟩ := bnd_some h
                                      rw [un2_mk] at h
                                      refine p_callHS (np := 4) (lv' := fun a => [(0, .ref b), (1, .ref (a 26)), (2, .ref (a 0)), (3, .ref (a 127)), (4, .ref (a 128)), (5, .int (zJ u5_28))]) (st' := fun a => []) G hR hM zl_74 dL_law_973 gm_1037 gm_1038 gm_88 gm_1039 (by decide +kernel) (c_L_meldOf (gl Γ) (by rw [hM.1]; exact hl) hc) (As := [.ref (ga Γ 26), .int (zJ (xs 0 (zix (u5_28 + (1 : Int))))), .int (zJ (xs 0 (zix (u5_28 + (2 : Int))))), .ref (ga Γ 127)]) rfl zk_74 (by decide +kernel) (by decide +kernel) (zs_x zs_74 _) rfl (Nat.le_of_ble_eq_true rfl) ⟨rfl, rfl, Nat.le_of_ble_eq_true rfl, Nat.le_of_ble_eq_true rfl⟩ (le_rc (by omega)) (le_rs (by omega)) h (fun a e => by have q0 := e 0 _ rfl rfl; have q26 := e 26 _ rfl rfl; have q127 := e 127 _ rfl rfl; have q128 := e 128 _ rfl rfl; exact ⟨by simp only [q0, q26, q127, q128], by rfl⟩) (fun Γ G hR hM σ283 h => ?_)
                                      refine (?_ : PT Γ 10 shLaw 976 σ283 [(0, .ref b), (1, .ref (ga Γ 26)), (2, .ref (ga Γ 0)), (3, .ref (ga Γ 127)), (4, .ref (ga Γ 128)), (5, .int (zJ u5_28))] [.int (zJ v282)])
                                      have hcs := mk_cs G hM (le_rc (by omega)) (le_rs (by omega))
                                      refine p_istoreU (lv' := [(6, .int (zJ v282)), (0, .ref b), (1, .ref (ga Γ 26)), (2, .ref (ga Γ 0)), (3, .ref (ga Γ 127)), (4, .ref (ga Γ 128)), (5, .int (zJ u5_28))]) G dL_law_976 (by decide) rfl ?_
                                      refine p_aload_n G rfl 3 rfl dL_law_978 ?_
                                      refine p_aload_n G rfl 1 rfl dL_law_979 ?_
                                      refine p_iload G 6 rfl dL_law_980 ?_
                                      refine p_iconst G rfl dL_law_982 ?_
                                      refine p_iadd G dL_law_983 ?_
                                      refine p_sld G hR dL_law_984 h (fun c284 h => ?_)
                                      refine p_aload_n G rfl 1 rfl dL_law_985 ?_
                                      refine p_iload G 6 rfl dL_law_986 ?_
                                      refine p_iconst G rfl dL_law_988 ?_
                                      refine p_iadd G dL_law_989 ?_
                                      refine p_sld G hR dL_law_990 h (fun c285 h => ?_)
                                      obtain ⟨⟨σ286, v287⟩, hc, h⟩ := bnd_some h
                                      rw [un2_mk] at h
                                      refine p_callV G zl_73 dL_law_991 lk_L_147 (c_X7_meldOf (gl Γ) hc) (As := [.int (zJ (xs 0 (zix (u5_28 + (1 : Int))))), .int (zJ (xs 0 (zix (u5_28 + (2 : Int)))))]) (ci := 7) rfl zk_73 (zs_x zs_73 _) rfl rfl rfl (Nat.le_of_ble_eq_true rfl) ⟨rfl, rfl, Nat.le_of_ble_eq_true rfl, Nat.le_of_ble_eq_true rfl⟩ hcs ?_
                                      refine p_nm h (fun σ288 h => ?_)
                                      refine p_istoreU (lv' := [(7, .int (zJ v287)), (6, .int (zJ v282)), (0, .ref b), (1, .ref (ga Γ 26)), (2, .ref (ga Γ 0)), (3, .ref (ga Γ 127)), (4, .ref (ga Γ 128)), (5, .int (zJ u5_28))]) G dL_law_994 (by decide) rfl ?_
                                      refine p_aload_n G rfl 4 rfl dL_law_996 ?_
                                      obtain ⟨v289, hc, h⟩ := bnd_some h
                                      refine p_callVr G zl_73 dL_law_997 lk_L_95 (c_X7_thrown (gl Γ) hc) (As := []) (ci := 7) rfl zk_73 (zs_x zs_73 _) rfl rfl rfl (Nat.le_of_ble_eq_true rfl) ⟨rfl, rfl, Nat.le_of_ble_eq_true rfl, Nat.le_of_ble_eq_true rfl⟩ hcs ?_
                                      refine p_iload G 1 rfl dL_law_1000 ?_
                                      refine p_icmpeq (tgt := 1007) G dL_law_1002 (by decide) h (fun c295 h => ?_) (fun c295 h => ?_)
                                      · refine p_iload G 1 rfl dL_law_1007 ?_
                                        refine p_ifne (tgt := 1024) G dL_law_1009 (by decide) h (fun c294 h => ?_) (fun c294 h => ?_)
                                        · refine p_goto (tgt := 1627) G dL_law_1024 (by decide) ?_
                                          refine p_iincE (lv' := fun v290 => [(5, .int (zJ v290)), (7, .int (zJ v287)), (6, .int (zJ v282)), (0, .ref b), (1, .ref (ga Γ 26)), (2, .ref (ga Γ 0)), (3, .ref (ga Γ 127)), (4, .ref (ga Γ 128))]) G dL_law_1627 h 7 rfl (by decide) (fun _ => rfl) (fun v290 hv290 h => ?_)
                                          refine p_goto (tgt := 28) G dL_law_1630 (by decide) ?_
                                          refine p_lv [3, 4, 5, 6, 7, 0] rfl ?_
                                          exact hin28 _ (Option.some.inj h).symm Γ _ _ G hR hM (by show 0 ≤ _ ; omega) (by show _ ≤ (3072 : Int); omega) (by show _ ≤ (600000 : Int); push_cast; omega) (by show _ ≤ (7000000 : Int); push_cast; omega)
                                        · refine p_aload_n G rfl 5 rfl dL_law_1012 ?_
                                          refine p_iconst G rfl dL_law_1013 ?_
                                          refine p_lald G dL_law_1014 (k := 127) rfl (zt_c _) h (fun c291 h => ?_)
                                          refine p_iload G 0 rfl dL_law_1015 ?_
                                          refine p_i2l G dL_law_1017 ?_
                                          refine p_lcmp G dL_law_1018 ?_
                                          refine p_ifeq (tgt := 1024) G dL_law_1019 (by decide) h (fun c293 h => ?_) (fun c293 h => ?_)
                                          · refine p_goto (tgt := 1627) G dL_law_1024 (by decide) ?_
                                            refine p_iincE (lv' := fun v292 => [(5, .int (zJ v292)), (7, .int (zJ v287)), (6, .int (zJ v282)), (0, .ref b), (1, .ref (ga Γ 26)), (2, .ref (ga Γ 0)), (3, .ref (ga Γ 127)), (4, .ref (ga Γ 128))]) G dL_law_1627 h 7 rfl (by decide) (fun _ => rfl) (fun v292 hv292 h => ?_)
                                            refine p_goto (tgt := 28) G dL_law_1630 (by decide) ?_
                                            refine p_lv [3, 4, 5, 6, 7, 0] rfl ?_
                                            exact hin28 _ (Option.some.inj h).symm Γ _ _ G hR hM (by show 0 ≤ _ ; omega) (by show _ ≤ (3072 : Int); omega) (by show _ ≤ (600000 : Int); push_cast; omega) (by show _ ≤ (7000000 : Int); push_cast; omega)
                                          · cases h
                                      · cases h
                                    · refine zite h (fun c17_45 h => ?_) (fun c17_45 h => ?_)
                                      · refine p_tin (tgt := 1027) (off := 982) G dL_law_45 c17_45 (by decide) (by decide) rfl (by decide) ?_
                                        refine p_aload_n G rfl 1 rfl dL_law_1027 ?_
                                        refine p_aload_n G rfl 0 rfl dL_law_1028 ?_
                                        refine p_iload G 5 rfl dL_law_1029 ?_
                                        refine p_iconst G rfl dL_law_1031 ?_
                                        refine p_iadd G dL_law_1032 ?_
                                        refine p_sld G hR dL_law_1033 h (fun c296 h => ?_)
                                        refine p_aload_n G rfl 0 rfl dL_law_1034 ?_
                                        refine p_iload G 5 rfl dL_law_1035 ?_
                                        refine p_iconst G rfl dL_law_1037 ?_
                                        refine p_iadd G dL_law_1038 ?_
                                        refine p_sld G hR dL_law_1039 h (fun c297 h => ?_)
                                        refine p_aload_n G rfl 0 rfl dL_law_1040 ?_
                                        refine p_iload G 5 rfl dL_law_1041 ?_
                                        refine p_iconst G rfl dL_law_1043 ?_
                                        refine p_iadd G dL_law_1044 ?_
                                        refine p_sld G hR dL_law_1045 h (fun c298 h => ?_)
                                        refine p_aload_n G rfl 3 rfl dL_law_1046 ?_
                                        obtain ⟨⟨σ299, v300⟩, hc, h⟩ := bnd_some h
                                        rw [un2_mk] at h
                                        refine p_callHS (np := 5) (lv' := fun a => [(0, .ref b), (1, .ref (a 26)), (2, .ref (a 0)), (3, .ref (a 127)), (4, .ref (a 128)), (5, .int (zJ u5_28))]) (st' := fun a => []) G hR hM zl_74 dL_law_1047 gm_1048 gm_1049 gm_88 gm_1050 (by decide +kernel) (c_L_meld (gl Γ) (by rw [hM.1]; exact hl) hc) (As := [.ref (ga Γ 26), .int (zJ (xs 0 (zix (u5_28 + (1 : Int))))), .int (zJ (xs 0 (zix (u5_28 + (2 : Int))))), .int (zJ (xs 0 (zix (u5_28 + (3 : Int))))), .ref (ga Γ 127)]) rfl zk_74 (by decide +kernel) (by decide +kernel) (zs_x zs_74 _) rfl (Nat.le_of_ble_eq_true rfl) ⟨rfl, rfl, Nat.le_of_ble_eq_true rfl, Nat.le_of_ble_eq_true rfl⟩ (le_rc (by omega)) (le_rs (by omega)) h (fun a e => by have q0 := e 0 _ rfl rfl; have q26 := e 26 _ rfl rfl; have q127 := e 127 _ rfl rfl; have q128 := e 128 _ rfl rfl; exact ⟨by simp only [q0, q26, q127, q128], by rfl⟩) (fun Γ G hR hM σ301 h => ?_)
                                        refine (?_ : PT Γ 10 shLaw 1050 σ301 [(0, .ref b), (1, .ref (ga Γ 26)), (2, .ref (ga Γ 0)), (3, .ref (ga Γ 127)), (4, .ref (ga Γ 128)), (5, .int (zJ u5_28))] [.int (zJ v300)])
                                        have hcs := mk_cs G hM (le_rc (by omega)) (le_rs (by omega))
                                        refine p_istoreU (lv' := [(6, .int (zJ v300)), (0, .ref b), (1, .ref (ga Γ 26)), (2, .ref (ga Γ 0)), (3, .ref (ga Γ 127)), (4, .ref (ga Γ 128)), (5, .int (zJ u5_28))]) G dL_law_1050 (by decide) rfl ?_
                                        refine p_aload_n G rfl 3 rfl dL_law_1052 ?_
                                        refine p_aload_n G rfl 1 rfl dL_law_1053 ?_
                                        refine p_iload G 6 rfl dL_law_1054 ?_
                                        refine p_iconst G rfl dL_law_1056 ?_
                                        refine p_iadd G dL_law_1057 ?_
                                        refine p_sld G hR dL_law_1058 h (fun c302 h => ?_)
                                        refine p_aload_n G rfl 1 rfl dL_law_1059 ?_
                                        refine p_iload G 6 rfl dL_law_1060 ?_
                                        refine p_iconst G rfl dL_law_1062 ?_
                                        refine p_iadd G dL_law_1063 ?_
                                        refine p_sld G hR dL_law_1064 h (fun c303 h => ?_)
                                        refine p_aload_n G rfl 1 rfl dL_law_1065 ?_
                                        refine p_iload G 6 rfl dL_law_1066 ?_
                                        refine p_iconst G rfl dL_law_1068 ?_
                                        refine p_iadd G dL_law_1069 ?_
                                        refine p_sld G hR dL_law_1070 h (fun c304 h => ?_)
                                        obtain ⟨⟨σ305, v306⟩, hc, h⟩ := bnd_some h
                                        rw [un2_mk] at h
                                        refine p_callV G zl_73 dL_law_1071 lk_L_151 (c_X7_meld (gl Γ) hc) (As := [.int (zJ (xs 0 (zix (u5_28 + (1 : Int))))), .int (zJ (xs 0 (zix (u5_28 + (2 : Int))))), .int (zJ (xs 0 (zix (u5_28 + (3 : Int)))))]) (ci := 7) rfl zk_73 (zs_x zs_73 _) rfl rfl rfl (Nat.le_of_ble_eq_true rfl) ⟨rfl, rfl, Nat.le_of_ble_eq_true rfl, Nat.le_of_ble_eq_true rfl⟩ hcs ?_
                                        refine p_nm h (fun σ307 h => ?_)
                                        refine p_istoreU (lv' := [(7, .int (zJ v306)), (6, .int (zJ v300)), (0, .ref b), (1, .ref (ga Γ 26)), (2, .ref (ga Γ 0)), (3, .ref (ga Γ 127)), (4, .ref (ga Γ 128)), (5, .int (zJ u5_28))]) G dL_law_1074 (by decide) rfl ?_
                                        refine p_aload_n G rfl 4 rfl dL_law_1076 ?_
                                        obtain ⟨v308, hc, h⟩ := bnd_some h
                                        refine p_callVr G zl_73 dL_law_1077 lk_L_95 (c_X7_thrown (gl Γ) hc) (As := []) (ci := 7) rfl zk_73 (zs_x zs_73 _) rfl rfl rfl (Nat.le_of_ble_eq_true rfl) ⟨rfl, rfl, Nat.le_of_ble_eq_true rfl, Nat.le_of_ble_eq_true rfl⟩ hcs ?_
                                        refine p_iload G 1 rfl dL_law_1080 ?_
                                        refine p_icmpeq (tgt := 1087) G dL_law_1082 (by decide) h (fun c314 h => ?_) (fun c314 h => ?_)
                                        · refine p_iload G 1 rfl dL_law_1087 ?_
                                          refine p_ifne (tgt := 1104) G dL_law_1089 (by decide) h (fun c313 h => ?_) (fun c313 h => ?_)
                                          · refine p_goto (tgt := 1627) G dL_law_1104 (by decide) ?_
                                            refine p_iincE (lv' := fun v309 => [(5, .int (zJ v309)), (7, .int (zJ v306)), (6, .int (zJ v300)), (0, .ref b), (1, .ref (ga Γ 26)), (2, .ref (ga Γ 0)), (3, .ref (ga Γ 127)), (4, .ref (ga Γ 128))]) G dL_law_1627 h 7 rfl (by decide) (fun _ => rfl) (fun v309 hv309 h => ?_)
                                            refine p_goto (tgt := 28) G dL_law_1630 (by decide) ?_
                                            refine p_lv [3, 4, 5, 6, 7, 0] rfl ?_
                                            exact hin28 _ (Option.some.inj h).symm Γ _ _ G hR hM (by show 0 ≤ _ ; omega) (by show _ ≤ (3072 : Int); omega) (by show _ ≤ (600000 : Int); push_cast; omega) (by show _ ≤ (7000000 : Int); push_cast; omega)
                                          · refine p_aload_n G rfl 5 rfl dL_law_1092 ?_
                                            refine p_iconst G rfl dL_law_1093 ?_
                                            refine p_lald G dL_law_1094 (k := 127) rfl (zt_c _) h (fun c310 h => ?_)
                                            refine p_iload G 0 rfl dL_law_1095 ?_
                                            refine p_i2l G dL_law_1097 ?_
                                            refine p_lcmp G dL_law_1098 ?_
                                            refine p_ifeq (tgt := 1104) G dL_law_1099 (by decide) h (fun c312 h => ?_) (fun c312 h => ?_)
                                            · refine p_goto (tgt := 1627) G dL_law_1104 (by decide) ?_
                                              refine p_iincE (lv' := fun v311 => [(5, .int (zJ v311)), (7, .int (zJ v306)), (6, .int (zJ v300)), (0, .ref b), (1, .ref (ga Γ 26)), (2, .ref (ga Γ 0)), (3, .ref (ga Γ 127)), (4, .ref (ga Γ 128))]) G dL_law_1627 h 7 rfl (by decide) (fun _ => rfl) (fun v311 hv311 h => ?_)
                                              refine p_goto (tgt := 28) G dL_law_1630 (by decide) ?_
                                              refine p_lv [3, 4, 5, 6, 7, 0] rfl ?_
                                              exact hin28 _ (Option.some.inj h).symm Γ _ _ G hR hM (by show 0 ≤ _ ; omega) (by show _ ≤ (3072 : Int); omega) (by show _ ≤ (600000 : Int); push_cast; omega) (by show _ ≤ (7000000 : Int); push_cast; omega)
                                            · cases h
                                        · cases h
                                      · refine zite h (fun c18_45 h => ?_) (fun c18_45 h => ?_)
                                        · refine p_tin (tgt := 1107) (off := 1062) G dL_law_45 c18_45 (by decide) (by decide) rfl (by decide) ?_
                                          refine p_aload_n G rfl 1 rfl dL_law_1107 ?_
                                          refine p_aload_n G rfl 0 rfl dL_law_1108 ?_
                                          refine p_iload G 5 rfl dL_law_1109 ?_
                                          refine p_iconst G rfl dL_law_1111 ?_
                                          refine p_iadd G dL_law_1112 ?_
                                          refine p_sld G hR dL_law_1113 h (fun c315 h => ?_)
                                          refine p_aload_n G rfl 3 rfl dL_law_1114 ?_
                                          obtain ⟨⟨σ316, v317⟩, hc, h⟩ := bnd_some h
                                          rw [un2_mk] at h
                                          refine p_callHS (np := 3) (lv' := fun a => [(0, .ref b), (1, .ref (a 26)), (2, .ref (a 0)), (3, .ref (a 127)), (4, .ref (a 128)), (5, .int (zJ u5_28))]) (st' := fun a => []) G hR hM zl_74 dL_law_1115 gm_1058 gm_1059 gm_88 gm_1060 (by decide +kernel) (c_L_restWithout (gl Γ) (by rw [hM.1]; exact hl) hc) (As := [.ref (ga Γ 26), .int (zJ (xs 0 (zix (u5_28 + (1 : Int))))), .ref (ga Γ 127)]) rfl zk_74 (by decide +kernel) (by decide +kernel) (zs_x zs_74 _) rfl (Nat.le_of_ble_eq_true rfl) ⟨rfl, rfl, Nat.le_of_ble_eq_true rfl, Nat.le_of_ble_eq_true rfl⟩ (le_rc (by omega)) (le_rs (by omega)) h (fun a e => by have q0 := e 0 _ rfl rfl; have q26 := e 26 _ rfl rfl; have q127 := e 127 _ rfl rfl; have q128 := e 128 _ rfl rfl; exact ⟨by simp only [q0, q26, q127, q128], by rfl⟩) (fun Γ G hR hM σ318 h => ?_)
                                          refine (?_ : PT Γ 10 shLaw 1118 σ318 [(0, .ref b), (1, .ref (ga Γ 26)), (2, .ref (ga Γ 0)), (3, .ref (ga Γ 127)), (4, .ref (ga Γ 128)), (5, .int (zJ u5_28))] [.int (zJ v317)])
                                          have hcs := mk_cs G hM (le_rc (by omega)) (le_rs (by omega))
                                          refine p_istoreU (lv' := [(6, .int (zJ v317)), (0, .ref b), (1, .ref (ga Γ 26)), (2, .ref (ga Γ 0)), (3, .ref (ga Γ 127)), (4, .ref (ga Γ 128)), (5, .int (zJ u5_28))]) G dL_law_1118 (by decide) rfl ?_
                                          refine p_aload_n G rfl 3 rfl dL_law_1120 ?_
                                          refine p_aload_n G rfl 1 rfl dL_law_1121 ?_
                                          refine p_iload G 6 rfl dL_law_1122 ?_
                                          refine p_iconst G rfl dL_law_1124 ?_
                                          refine p_iadd G dL_law_1125 ?_
                                          refine p_sld G hR dL_law_1126 h (fun c319 h => ?_)
                                          obtain ⟨⟨σ320, v321⟩, hc, h⟩ := bnd_some h
                                          rw [un2_mk] at h
                                          refine p_callV G zl_73 dL_law_1127 lk_L_154 (c_X7_restWithout (gl Γ) hc) (As := [.int (zJ (xs 0 (zix (u5_28 + (1 : Int)))))]) (ci := 7) rfl zk_73 (zs_x zs_73 _) rfl rfl rfl (Nat.le_of_ble_eq_true rfl) ⟨rfl, rfl, Nat.le_of_ble_eq_true rfl, Nat.le_of_ble_eq_true rfl⟩ hcs ?_
                                          refine p_nm h (fun σ322 h => ?_)
                                          refine p_istoreU (lv' := [(7, .int (zJ v321)), (6, .int (zJ v317)), (0, .ref b), (1, .ref (ga Γ 26)), (2, .ref (ga Γ 0)), (3, .ref (ga Γ 127)), (4, .ref (ga Γ 128)), (5, .int (zJ u5_28))]) G dL_law_1130 (by decide) rfl ?_
                                          refine p_aload_n G rfl 4 rfl dL_law_1132 ?_
                                          obtain ⟨v323, hc, h⟩ := bnd_some h
                                          refine p_callVr G zl_73 dL_law_1133 lk_L_95 (c_X7_thrown (gl Γ) hc) (As := []) (ci := 7) rfl zk_73 (zs_x zs_73 _) rfl rfl rfl (Nat.le_of_ble_eq_true rfl) ⟨rfl, rfl, Nat.le_of_ble_eq_true rfl, Nat.le_of_ble_eq_true rfl⟩ hcs ?_
                                          refine p_iload G 1 rfl dL_law_1136 ?_
                                          refine p_icmpeq (tgt := 1143) G dL_law_1138 (by decide) h (fun c329 h => ?_) (fun c329 h => ?_)
                                          · refine p_iload G 1 rfl dL_law_1143 ?_
                                            refine p_ifne (tgt := 1160) G dL_law_1145 (by decide) h (fun c328 h => ?_) (fun c328 h => ?_)
                                            · refine p_goto (tgt := 1627) G dL_law_1160 (by decide) ?_
                                              refine p_iincE (lv' := fun v324 => [(5, .int (zJ v324)), (7, .int (zJ v321)), (6, .int (zJ v317)), (0, .ref b), (1, .ref (ga Γ 26)), (2, .ref (ga Γ 0)), (3, .ref (ga Γ 127)), (4, .ref (ga Γ 128))]) G dL_law_1627 h 7 rfl (by decide) (fun _ => rfl) (fun v324 hv324 h => ?_)
                                              refine p_goto (tgt := 28) G dL_law_1630 (by decide) ?_
                                              refine p_lv [3, 4, 5, 6, 7, 0] rfl ?_
                                              exact hin28 _ (Option.some.inj h).symm Γ _ _ G hR hM (by show 0 ≤ _ ; omega) (by show _ ≤ (3072 : Int); omega) (by show _ ≤ (600000 : Int); push_cast; omega) (by show _ ≤ (7000000 : Int); push_cast; omega)
                                            · refine p_aload_n G rfl 5 rfl dL_law_1148 ?_
                                              refine p_iconst G rfl dL_law_1149 ?_
                                              refine p_lald G dL_law_1150 (k := 127) rfl (zt_c _) h (fun c325 h => ?_)
                                              refine p_iload G 0 rfl dL_law_1151 ?_
                                              refine p_i2l G dL_law_1153 ?_
                                              refine p_lcmp G dL_law_1154 ?_
                                              refine p_ifeq (tgt := 1160) G dL_law_1155 (by decide) h (fun c327 h => ?_) (fun c327 h => ?_)
                                              · refine p_goto (tgt := 1627) G dL_law_1160 (by decide) ?_
                                                refine p_iincE (lv' := fun v326 => [(5, .int (zJ v326)), (7, .int (zJ v321)), (6, .int (zJ v317)), (0, .ref b), (1, .ref (ga Γ 26)), (2, .ref (ga Γ 0)), (3, .ref (ga Γ 127)), (4, .ref (ga Γ 128))]) G dL_law_1627 h 7 rfl (by decide) (fun _ => rfl) (fun v326 hv326 h => ?_)
                                                refine p_goto (tgt := 28) G dL_law_1630 (by decide) ?_
                                                refine p_lv [3, 4, 5, 6, 7, 0] rfl ?_
                                                exact hin28 _ (Option.some.inj h).symm Γ _ _ G hR hM (by show 0 ≤ _ ; omega) (by show _ ≤ (3072 : Int); omega) (by show _ ≤ (600000 : Int); push_cast; omega) (by show _ ≤ (7000000 : Int); push_cast; omega)
                                              · cases h
                                          · cases h
                                        · refine zite h (fun c19_45 h => ?_) (fun c19_45 h => ?_)
                                          · refine p_tin (tgt := 1163) (off := 1118) G dL_law_45 c19_45 (by decide) (by decide) rfl (by decide) ?_
                                            refine p_aload_n G rfl 1 rfl dL_law_1163 ?_
                                            obtain ⟨⟨σ330, v331⟩, hc, h⟩ := bnd_some h
                                            rw [un2_mk] at h
                                            refine p_callV G zl_72 dL_law_1164 lk_L_155 (c_X6_bestDrop (gl Γ) hc) (As := []) (ci := 6) rfl zk_72 (zs_x zs_72 _) rfl rfl rfl (Nat.le_of_ble_eq_true rfl) ⟨rfl, rfl, Nat.le_of_ble_eq_true rfl, Nat.le_of_ble_eq_true rfl⟩ hcs ?_
                                            refine p_nm h (fun σ332 h => ?_)
                                            refine p_aload_n G rfl 2 rfl dL_law_1167 ?_
                                            obtain ⟨⟨σ333, v334⟩, hc, h⟩ := bnd_some h
                                            rw [un2_mk] at h
                                            refine p_callV G zl_73 dL_law_1168 lk_L_158 (c_X7_bestDrop (gl Γ) hc) (As := []) (ci := 7) rfl zk_73 (zs_x zs_73 _) rfl rfl rfl (Nat.le_of_ble_eq_true rfl) ⟨rfl, rfl, Nat.le_of_ble_eq_true rfl, Nat.le_of_ble_eq_true rfl⟩ hcs ?_
                                            refine p_nm h (fun σ335 h => ?_)
                                            refine p_icmpeq (tgt := 1627) G dL_law_1171 (by decide) h (fun c337 h => ?_) (fun c337 h => ?_)
                                            · refine p_iincE (lv' := fun v336 => [(5, .int (zJ v336)), (0, .ref b), (1, .ref (ga Γ 26)), (2, .ref (ga Γ 0)), (3, .ref (ga Γ 127)), (4, .ref (ga Γ 128))]) G dL_law_1627 h 5 rfl (by decide) (fun _ => rfl) (fun v336 hv336 h => ?_)
                                              refine p_goto (tgt := 28) G dL_law_1630 (by decide) ?_
                                              refine p_lv [1, 2, 3, 4, 5, 0] rfl ?_
                                              exact hin28 _ (Option.some.inj h).symm Γ _ _ G hR hM (by show 0 ≤ _ ; omega) (by show _ ≤ (3072 : Int); omega) (by show _ ≤ (600000 : Int); push_cast; omega) (by show _ ≤ (7000000 : Int); push_cast; omega)
                                            · cases h
                                          · refine zite h (fun c20_45 h => ?_) (fun c20_45 h => ?_)
                                            · refine p_tin (tgt := 1176) (off := 1131) G dL_law_45 c20_45 (by decide) (by decide) rfl (by decide) ?_
                                              refine p_aload_n G rfl 1 rfl dL_law_1176 ?_
                                              obtain ⟨⟨σ338, v339⟩, hc, h⟩ := bnd_some h
                                              rw [un2_mk] at h
                                              refine p_callV G zl_72 dL_law_1177 lk_L_159 (c_X6_restByPile (gl Γ) hc) (As := []) (ci := 6) rfl zk_72 (zs_x zs_72 _) rfl rfl rfl (Nat.le_of_ble_eq_true rfl) ⟨rfl, rfl, Nat.le_of_ble_eq_true rfl, Nat.le_of_ble_eq_true rfl⟩ hcs ?_
                                              refine p_nm h (fun σ340 h => ?_)
                                              refine p_aload_n G rfl 2 rfl dL_law_1180 ?_
                                              obtain ⟨⟨σ341, v342⟩, hc, h⟩ := bnd_some h
                                              rw [un2_mk] at h
                                              refine p_callV G zl_73 dL_law_1181 lk_L_162 (c_X7_restByPile (gl Γ) hc) (As := []) (ci := 7) rfl zk_73 (zs_x zs_73 _) rfl rfl rfl (Nat.le_of_ble_eq_true rfl) ⟨rfl, rfl, Nat.le_of_ble_eq_true rfl, Nat.le_of_ble_eq_true rfl⟩ hcs ?_
                                              refine p_nm h (fun σ343 h => ?_)
                                              refine p_icmpeq (tgt := 1627) G dL_law_1184 (by decide) h (fun c345 h => ?_) (fun c345 h => ?_)
                                              · refine p_iincE (lv' := fun v344 => [(5, .int (zJ v344)), (0, .ref b), (1, .ref (ga Γ 26)), (2, .ref (ga Γ 0)), (3, .ref (ga Γ 127)), (4, .ref (ga Γ 128))]) G dL_law_1627 h 5 rfl (by decide) (fun _ => rfl) (fun v344 hv344 h => ?_)
                                                refine p_goto (tgt := 28) G dL_law_1630 (by decide) ?_
                                                refine p_lv [1, 2, 3, 4, 5, 0] rfl ?_
                                                exact hin28 _ (Option.some.inj h).symm Γ _ _ G hR hM (by show 0 ≤ _ ; omega) (by show _ ≤ (3072 : Int); omega) (by show _ ≤ (600000 : Int); push_cast; omega) (by show _ ≤ (7000000 : Int); push_cast; omega)
                                              · cases h
                                            · refine zite h (fun c21_45 h => ?_) (fun c21_45 h => ?_)
                                              · refine p_tin (tgt := 1189) (off := 1144) G dL_law_45 c21_45 (by decide) (by decide) rfl (by decide) ?_
                                                refine p_aload_n G rfl 1 rfl dL_law_1189 ?_
                                                refine p_aload_n G rfl 0 rfl dL_law_1190 ?_
                                                refine p_iload G 5 rfl dL_law_1191 ?_
                                                refine p_iconst G rfl dL_law_1193 ?_
                                                refine p_iadd G dL_law_1194 ?_
                                                refine p_sld G hR dL_law_1195 h (fun c346 h => ?_)
                                                refine p_aload_n G rfl 3 rfl dL_law_1196 ?_
                                                obtain ⟨⟨σ347, v348⟩, hc, h⟩ := bnd_some h
                                                rw [un2_mk] at h
                                                refine p_callHS (np := 3) (lv' := fun a => [(0, .ref b), (1, .ref (a 26)), (2, .ref (a 0)), (3, .ref (a 127)), (4, .ref (a 128)), (5, .int (zJ u5_28))]) (st' := fun a => []) G hR hM zl_74 dL_law_1197 gm_1065 gm_1066 gm_88 gm_1067 (by decide +kernel) (c_L_helping (gl Γ) (by rw [hM.1]; exact hl) hc) (As := [.ref (ga Γ 26), .int (zJ (xs 0 (zix (u5_28 + (1 : Int))))), .ref (ga Γ 127)]) rfl zk_74 (by decide +kernel) (by decide +kernel) (zs_x zs_74 _) rfl (Nat.le_of_ble_eq_true rfl) ⟨rfl, rfl, Nat.le_of_ble_eq_true rfl, Nat.le_of_ble_eq_true rfl⟩ (le_rc (by omega)) (le_rs (by omega)) h (fun a e => by have q0 := e 0 _ rfl rfl; have q26 := e 26 _ rfl rfl; have q127 := e 127 _ rfl rfl; have q128 := e 128 _ rfl rfl; exact ⟨by simp only [q0, q26, q127, q128], by rfl⟩) (fun Γ G hR hM σ349 h => ?_)
                                                refine (?_ : PT Γ 10 shLaw 1200 σ349 [(0, .ref b), (1, .ref (ga Γ 26)), (2, .ref (ga Γ 0)), (3, .ref (ga Γ 127)), (4, .ref (ga Γ 128)), (5, .int (zJ u5_28))] [.int (zJ v348)])
                                                have hcs := mk_cs G hM (le_rc (by omega)) (le_rs (by omega))
                                                refine p_istoreU (lv' := [(6, .int (zJ v348)), (0, .ref b), (1, .ref (ga Γ 26)), (2, .ref (ga Γ 0)), (3, .ref (ga Γ 127)), (4, .ref (ga Γ 128)), (5, .int (zJ u5_28))]) G dL_law_1200 (by decide) rfl ?_
                                                refine p_aload_n G rfl 3 rfl dL_law_1202 ?_
                                                refine p_aload_n G rfl 1 rfl dL_law_1203 ?_
                                                refine p_iload G 6 rfl dL_law_1204 ?_
                                                refine p_iconst G rfl dL_law_1206 ?_
                                                refine p_iadd G dL_law_1207 ?_
                                                refine p_sld G hR dL_law_1208 h (fun c350 h => ?_)
                                                obtain ⟨⟨σ351, v352⟩, hc, h⟩ := bnd_some h
                                                rw [un2_mk] at h
                                                refine p_callV G zl_73 dL_law_1209 lk_L_165 (c_X7_helping (gl Γ) hc) (As := [.int (zJ (xs 0 (zix (u5_28 + (1 : Int)))))]) (ci := 7) rfl zk_73 (zs_x zs_73 _) rfl rfl rfl (Nat.le_of_ble_eq_true rfl) ⟨rfl, rfl, Nat.le_of_ble_eq_true rfl, Nat.le_of_ble_eq_true rfl⟩ hcs ?_
                                                refine p_nm h (fun σ353 h => ?_)
                                                refine p_istoreU (lv' := [(7, .int (zJ v352)), (6, .int (zJ v348)), (0, .ref b), (1, .ref (ga Γ 26)), (2, .ref (ga Γ 0)), (3, .ref (ga Γ 127)), (4, .ref (ga Γ 128)), (5, .int (zJ u5_28))]) G dL_law_1212 (by decide) rfl ?_
                                                refine p_aload_n G rfl 4 rfl dL_law_1214 ?_
                                                obtain ⟨v354, hc, h⟩ := bnd_some h
                                                refine p_callVr G zl_73 dL_law_1215 lk_L_95 (c_X7_thrown (gl Γ) hc) (As := []) (ci := 7) rfl zk_73 (zs_x zs_73 _) rfl rfl rfl (Nat.le_of_ble_eq_true rfl) ⟨rfl, rfl, Nat.le_of_ble_eq_true rfl, Nat.le_of_ble_eq_true rfl⟩ hcs ?_
                                                refine p_iload G 1 rfl dL_law_1218 ?_
                                                refine p_icmpeq (tgt := 1225) G dL_law_1220 (by decide) h (fun c360 h => ?_) (fun c360 h => ?_)
                                                · refine p_iload G 1 rfl dL_law_1225 ?_
                                                  refine p_ifne (tgt := 1242) G dL_law_1227 (by decide) h (fun c359 h => ?_) (fun c359 h => ?_)
                                                  · refine p_goto (tgt := 1627) G dL_law_1242 (by decide) ?_
                                                    refine p_iincE (lv' := fun v355 => [(5, .int (zJ v355)), (7, .int (zJ v352)), (6, .int (zJ v348)), (0, .ref b), (1, .ref (ga Γ 26)), (2, .ref (ga Γ 0)), (3, .ref (ga Γ 127)), (4, .ref (ga Γ 128))]) G dL_law_1627 h 7 rfl (by decide) (fun _ => rfl) (fun v355 hv355 h => ?_)
                                                    refine p_goto (tgt := 28) G dL_law_1630 (by decide) ?_
                                                    refine p_lv [3, 4, 5, 6, 7, 0] rfl ?_
                                                    exact hin28 _ (Option.some.inj h).symm Γ _ _ G hR hM (by show 0 ≤ _ ; omega) (by show _ ≤ (3072 : Int); omega) (by show _ ≤ (600000 : Int); push_cast; omega) (by show _ ≤ (7000000 : Int); push_cast; omega)
                                                  · refine p_aload_n G rfl 5 rfl dL_law_1230 ?_
                                                    refine p_iconst G rfl dL_law_1231 ?_
                                                    refine p_lald G dL_law_1232 (k := 127) rfl (zt_c _) h (fun c356 h => ?_)
                                                    refine p_iload G 0 rfl dL_law_1233 ?_
                                                    refine p_i2l G dL_law_1235 ?_
                                                    refine p_lcmp G dL_law_1236 ?_
                                                    refine p_ifeq (tgt := 1242) G dL_law_1237 (by decide) h (fun c358 h => ?_) (fun c358 h => ?_)
                                                    · refine p_goto (tgt := 1627) G dL_law_1242 (by decide) ?_
                                                      refine p_iincE (lv' := fun v357 => [(5, .int (zJ v357)), (7, .int (zJ v352)), (6, .int (zJ v348)), (0, .ref b), (1, .ref (ga Γ 26)), (2, .ref (ga Γ 0)), (3, .ref (ga Γ 127)), (4, .ref (ga Γ 128))]) G dL_law_1627 h 7 rfl (by decide) (fun _ => rfl) (fun v357 hv357 h => ?_)
                                                      refine p_goto (tgt := 28) G dL_law_1630 (by decide) ?_
                                                      refine p_lv [3, 4, 5, 6, 7, 0] rfl ?_
                                                      exact hin28 _ (Option.some.inj h).symm Γ _ _ G hR hM (by show 0 ≤ _ ; omega) (by show _ ≤ (3072 : Int); omega) (by show _ ≤ (600000 : Int); push_cast; omega) (by show _ ≤ (7000000 : Int); push_cast; omega)
                                                    · cases h
                                                · cases h
                                              · refine zite h (fun c22_45 h => ?_) (fun c22_45 h => ?_)
                                                · refine p_tin (tgt := 1245) (off := 1200) G dL_law_45 c22_45 (by decide) (by decide) rfl (by decide) ?_
                                                  refine p_aload_n G rfl 1 rfl dL_law_1245 ?_
                                                  refine p_aload_n G rfl 0 rfl dL_law_1246 ?_
                                                  refine p_iload G 5 rfl dL_law_1247 ?_
                                                  refine p_iconst G rfl dL_law_1249 ?_
                                                  refine p_iadd G dL_law_1250 ?_
                                                  refine p_sld G hR dL_law_1251 h (fun c361 h => ?_)
                                                  refine p_aload_n G rfl 0 rfl dL_law_1252 ?_
                                                  refine p_iload G 5 rfl dL_law_1253 ?_
                                                  refine p_iconst G rfl dL_law_1255 ?_
                                                  refine p_iadd G dL_law_1256 ?_
                                                  refine p_sld G hR dL_law_1257 h (fun c362 h => ?_)
                                                  refine p_aload_n G rfl 3 rfl dL_law_1258 ?_
                                                  obtain ⟨⟨σ363, v364⟩, hc, h⟩ := bnd_some h
                                                  rw [un2_mk] at h
                                                  refine p_callHS (np := 4) (lv' := fun a => [(0, .ref b), (1, .ref (a 26)), (2, .ref (a 0)), (3, .ref (a 127)), (4, .ref (a 128)), (5, .int (zJ u5_28))]) (st' := fun a => []) G hR hM zl_74 dL_law_1259 gm_1072 gm_1073 gm_88 gm_1074 (by decide +kernel) (c_L_ifKnock (gl Γ) (by rw [hM.1]; exact hl) hc) (As := [.ref (ga Γ 26), .int (zJ (xs 0 (zix (u5_28 + (1 : Int))))), .int (zJ (xs 0 (zix (u5_28 + (2 : Int))))), .ref (ga Γ 127)]) rfl zk_74 (by decide +kernel) (by decide +kernel) (zs_x zs_74 _) rfl (Nat.le_of_ble_eq_true rfl) ⟨rfl, rfl, Nat.le_of_ble_eq_true rfl, Nat.le_of_ble_eq_true rfl⟩ (le_rc (by omega)) (le_rs (by omega)) h (fun a e => by have q0 := e 0 _ rfl rfl; have q26 := e 26 _ rfl rfl; have q127 := e 127 _ rfl rfl; have q128 := e 128 _ rfl rfl; exact ⟨by simp only [q0, q26, q127, q128], by rfl⟩) (fun Γ G hR hM σ365 h => ?_)
                                                  refine (?_ : PT Γ 10 shLaw 1262 σ365 [(0, .ref b), (1, .ref (ga Γ 26)), (2, .ref (ga Γ 0)), (3, .ref (ga Γ 127)), (4, .ref (ga Γ 128)), (5, .int (zJ u5_28))] [.int (zJ v364)])
                                                  have hcs := mk_cs G hM (le_rc (by omega)) (le_rs (by omega))
                                                  refine p_istoreU (lv' := [(6, .int (zJ v364)), (0, .ref b), (1, .ref (ga Γ 26)), (2, .ref (ga Γ 0)), (3, .ref (ga Γ 127)), (4, .ref (ga Γ 128)), (5, .int (zJ u5_28))]) G dL_law_1262 (by decide) rfl ?_
                                                  refine p_aload_n G rfl 3 rfl dL_law_1264 ?_
                                                  refine p_aload_n G rfl 1 rfl dL_law_1265 ?_
                                                  refine p_iload G 6 rfl dL_law_1266 ?_
                                                  refine p_iconst G rfl dL_law_1268 ?_
                                                  refine p_iadd G dL_law_1269 ?_
                                                  refine p_sld G hR dL_law_1270 h (fun c366 h => ?_)
                                                  refine p_aload_n G rfl 1 rfl dL_law_1271 ?_
                                                  refine p_iload G 6 rfl dL_law_1272 ?_
                                                  refine p_iconst G rfl dL_law_1274 ?_
                                                  refine p_iadd G dL_law_1275 ?_
                                                  refine p_sld G hR dL_law_1276 h (fun c367 h => ?_)
                                                  obtain ⟨⟨σ368, v369⟩, hc, h⟩ := bnd_some h
                                                  rw [un2_mk] at h
                                                  refine p_callV G zl_73 dL_law_1277 lk_L_168 (c_X7_ifKnock (gl Γ) hc) (As := [.int (zJ (xs 0 (zix (u5_28 + (1 : Int))))), .int (zJ (xs 0 (zix (u5_28 + (2 : Int)))))]) (ci := 7) rfl zk_73 (zs_x zs_73 _) rfl rfl rfl (Nat.le_of_ble_eq_true rfl) ⟨rfl, rfl, Nat.le_of_ble_eq_true rfl, Nat.le_of_ble_eq_true rfl⟩ hcs ?_
                                                  refine p_nm h (fun σ370 h => ?_)
                                                  refine p_istoreU (lv' := [(7, .int (zJ v369)), (6, .int (zJ v364)), (0, .ref b), (1, .ref (ga Γ 26)), (2, .ref (ga Γ 0)), (3, .ref (ga Γ 127)), (4, .ref (ga Γ 128)), (5, .int (zJ u5_28))]) G dL_law_1280 (by decide) rfl ?_
                                                  refine p_aload_n G rfl 4 rfl dL_law_1282 ?_
                                                  obtain ⟨v371, hc, h⟩ := bnd_some h
                                                  refine p_callVr G zl_73 dL_law_1283 lk_L_95 (c_X7_thrown (gl Γ) hc) (As := []) (ci := 7) rfl zk_73 (zs_x zs_73 _) rfl rfl rfl (Nat.le_of_ble_eq_true rfl) ⟨rfl, rfl, Nat.le_of_ble_eq_true rfl, Nat.le_of_ble_eq_true rfl⟩ hcs ?_
                                                  refine p_iload G 1 rfl dL_law_1286 ?_
                                                  refine p_icmpeq (tgt := 1293) G dL_law_1288 (by decide) h (fun c377 h => ?_) (fun c377 h => ?_)
                                                  · refine p_iload G 1 rfl dL_law_1293 ?_
                                                    refine p_ifne (tgt := 1310) G dL_law_1295 (by decide) h (fun c376 h => ?_) (fun c376 h => ?_)
                                                    · refine p_goto (tgt := 1627) G dL_law_1310 (by decide) ?_
                                                      refine p_iincE (lv' := fun v372 => [(5, .int (zJ v372)), (7, .int (zJ v369)), (6, .int (zJ v364)), (0, .ref b), (1, .ref (ga Γ 26)), (2, .ref (ga Γ 0)), (3, .ref (ga Γ 127)), (4, .ref (ga Γ 128))]) G dL_law_1627 h 7 rfl (by decide) (fun _ => rfl) (fun v372 hv372 h => ?_)
                                                      refine p_goto (tgt := 28) G dL_law_1630 (by decide) ?_
                                                      refine p_lv [3, 4, 5, 6, 7, 0] rfl ?_
                                                      exact hin28 _ (Option.some.inj h).symm Γ _ _ G hR hM (by show 0 ≤ _ ; omega) (by show _ ≤ (3072 : Int); omega) (by show _ ≤ (600000 : Int); push_cast; omega) (by show _ ≤ (7000000 : Int); push_cast; omega)
                                                    · refine p_aload_n G rfl 5 rfl dL_law_1298 ?_
                                                      refine p_iconst G rfl dL_law_1299 ?_
                                                      refine p_lald G dL_law_1300 (k := 127) rfl (zt_c _) h (fun c373 h => ?_)
                                                      refine p_iload G 0 rfl dL_law_1301 ?_
                                                      refine p_i2l G dL_law_1303 ?_
                                                      refine p_lcmp G dL_law_1304 ?_
                                                      refine p_ifeq (tgt := 1310) G dL_law_1305 (by decide) h (fun c375 h => ?_) (fun c375 h => ?_)
                                                      · refine p_goto (tgt := 1627) G dL_law_1310 (by decide) ?_
                                                        refine p_iincE (lv' := fun v374 => [(5, .int (zJ v374)), (7, .int (zJ v369)), (6, .int (zJ v364)), (0, .ref b), (1, .ref (ga Γ 26)), (2, .ref (ga Γ 0)), (3, .ref (ga Γ 127)), (4, .ref (ga Γ 128))]) G dL_law_1627 h 7 rfl (by decide) (fun _ => rfl) (fun v374 hv374 h => ?_)
                                                        refine p_goto (tgt := 28) G dL_law_1630 (by decide) ?_
                                                        refine p_lv [3, 4, 5, 6, 7, 0] rfl ?_
                                                        exact hin28 _ (Option.some.inj h).symm Γ _ _ G hR hM (by show 0 ≤ _ ; omega) (by show _ ≤ (3072 : Int); omega) (by show _ ≤ (600000 : Int); push_cast; omega) (by show _ ≤ (7000000 : Int); push_cast; omega)
                                                      · cases h
                                                  · cases h
                                                · refine zite h (fun c23_45 h => ?_) (fun c23_45 h => ?_)
                                                  · refine p_tin (tgt := 1313) (off := 1268) G dL_law_45 c23_45 (by decide) (by decide) rfl (by decide) ?_
                                                    refine p_aload_n G rfl 1 rfl dL_law_1313 ?_
                                                    obtain ⟨⟨σ378, v379⟩, hc, h⟩ := bnd_some h
                                                    rw [un2_mk] at h
                                                    refine p_callV G zl_72 dL_law_1314 lk_L_169 (c_X6_needed (gl Γ) hc) (As := []) (ci := 6) rfl zk_72 (zs_x zs_72 _) rfl rfl rfl (Nat.le_of_ble_eq_true rfl) ⟨rfl, rfl, Nat.le_of_ble_eq_true rfl, Nat.le_of_ble_eq_true rfl⟩ hcs ?_
                                                    refine p_nm h (fun σ380 h => ?_)
                                                    refine p_aload_n G rfl 2 rfl dL_law_1317 ?_
                                                    obtain ⟨⟨σ381, v382⟩, hc, h⟩ := bnd_some h
                                                    rw [un2_mk] at h
                                                    refine p_callV G zl_73 dL_law_1318 lk_L_172 (c_X7_needed (gl Γ) hc) (As := []) (ci := 7) rfl zk_73 (zs_x zs_73 _) rfl rfl rfl (Nat.le_of_ble_eq_true rfl) ⟨rfl, rfl, Nat.le_of_ble_eq_true rfl, Nat.le_of_ble_eq_true rfl⟩ hcs ?_
                                                    refine p_nm h (fun σ383 h => ?_)
                                                    refine p_icmpeq (tgt := 1627) G dL_law_1321 (by decide) h (fun c385 h => ?_) (fun c385 h => ?_)
                                                    · refine p_iincE (lv' := fun v384 => [(5, .int (zJ v384)), (0, .ref b), (1, .ref (ga Γ 26)), (2, .ref (ga Γ 0)), (3, .ref (ga Γ 127)), (4, .ref (ga Γ 128))]) G dL_law_1627 h 5 rfl (by decide) (fun _ => rfl) (fun v384 hv384 h => ?_)
                                                      refine p_goto (tgt := 28) G dL_law_1630 (by decide) ?_
                                                      refine p_lv [1, 2, 3, 4, 5, 0] rfl ?_
                                                      exact hin28 _ (Option.some.inj h).symm Γ _ _ G hR hM (by show 0 ≤ _ ; omega) (by show _ ≤ (3072 : Int); omega) (by show _ ≤ (600000 : Int); push_cast; omega) (by show _ ≤ (7000000 : Int); push_cast; omega)
                                                    · cases h
                                                  · refine zite h (fun c24_45 h => ?_) (fun c24_45 h => ?_)
                                                    · refine p_tin (tgt := 1326) (off := 1281) G dL_law_45 c24_45 (by decide) (by decide) rfl (by decide) ?_
                                                      refine p_aload_n G rfl 1 rfl dL_law_1326 ?_
                                                      refine p_aload_n G rfl 0 rfl dL_law_1327 ?_
                                                      refine p_iload G 5 rfl dL_law_1328 ?_
                                                      refine p_iconst G rfl dL_law_1330 ?_
                                                      refine p_iadd G dL_law_1331 ?_
                                                      refine p_sld G hR dL_law_1332 h (fun c386 h => ?_)
                                                      refine p_i2l G dL_law_1333 ?_
                                                      refine p_bipush G (by decide) (by decide) dL_law_1334 ?_
                                                      refine p_lshl G dL_law_1336 ?_
                                                      refine p_aload_n G rfl 0 rfl dL_law_1337 ?_
                                                      refine p_iload G 5 rfl dL_law_1338 ?_
                                                      refine p_iconst G rfl dL_law_1340 ?_
                                                      refine p_iadd G dL_law_1341 ?_
                                                      refine p_sld G hR dL_law_1342 h (fun c387 h => ?_)
                                                      refine p_i2l G dL_law_1343 ?_
                                                      refine p_ldc2 G gm_1649 dL_law_1344 ?_
                                                      refine p_land G dL_law_1347 ?_
                                                      refine p_lor G dL_law_1348 ?_
                                                      refine p_aload_n G rfl 3 rfl dL_law_1349 ?_
                                                      obtain ⟨⟨σ388, v389⟩, hc, h⟩ := bnd_some h
                                                      rw [un2_mk] at h
                                                      refine p_callHS (np := 3) (lv' := fun a => [(0, .ref b), (1, .ref (a 26)), (2, .ref (a 0)), (3, .ref (a 127)), (4, .ref (a 128)), (5, .int (zJ u5_28))]) (st' := fun a => []) G hR hM zl_74 dL_law_1350 gm_1079 gm_1080 gm_88 gm_1081 (by decide +kernel) (c_L_kind (gl Γ) (by rw [hM.1]; exact hl) hc) (As := [.ref (ga Γ 26), .long ((zlshl (zi2l (xs 0 (zix (u5_28 + (1 : Int))))) (32 : Int)) ||| ((zi2l (xs 0 (zix (u5_28 + (2 : Int))))) &&& (4294967295 : Int64))), .ref (ga Γ 127)]) rfl zk_74 (by decide +kernel) (by decide +kernel) (zs_x zs_74 _) rfl (Nat.le_of_ble_eq_true rfl) ⟨rfl, rfl, Nat.le_of_ble_eq_true rfl, Nat.le_of_ble_eq_true rfl⟩ (le_rc (by omega)) (le_rs (by omega)) h (fun a e => by have q0 := e 0 _ rfl rfl; have q26 := e 26 _ rfl rfl; have q127 := e 127 _ rfl rfl; have q128 := e 128 _ rfl rfl; exact ⟨by simp only [q0, q26, q127, q128], by rfl⟩) (fun Γ G hR hM σ390 h => ?_)
                                                      refine (?_ : PT Γ 10 shLaw 1353 σ390 [(0, .ref b), (1, .ref (ga Γ 26)), (2, .ref (ga Γ 0)), (3, .ref (ga Γ 127)), (4, .ref (ga Γ 128)), (5, .int (zJ u5_28))] [.int (zJ v389)])
                                                      have hcs := mk_cs G hM (le_rc (by omega)) (le_rs (by omega))
                                                      refine p_istoreU (lv' := [(6, .int (zJ v389)), (0, .ref b), (1, .ref (ga Γ 26)), (2, .ref (ga Γ 0)), (3, .ref (ga Γ 127)), (4, .ref (ga Γ 128)), (5, .int (zJ u5_28))]) G dL_law_1353 (by decide) rfl ?_
                                                      refine p_aload_n G rfl 3 rfl dL_law_1355 ?_
                                                      refine p_aload_n G rfl 1 rfl dL_law_1356 ?_
                                                      refine p_iload G 6 rfl dL_law_1357 ?_
                                                      refine p_iconst G rfl dL_law_1359 ?_
                                                      refine p_iadd G dL_law_1360 ?_
                                                      refine p_sld G hR dL_law_1361 h (fun c391 h => ?_)
                                                      refine p_i2l G dL_law_1362 ?_
                                                      refine p_bipush G (by decide) (by decide) dL_law_1363 ?_
                                                      refine p_lshl G dL_law_1365 ?_
                                                      refine p_aload_n G rfl 1 rfl dL_law_1366 ?_
                                                      refine p_iload G 6 rfl dL_law_1367 ?_
                                                      refine p_iconst G rfl dL_law_1369 ?_
                                                      refine p_iadd G dL_law_1370 ?_
                                                      refine p_sld G hR dL_law_1371 h (fun c392 h => ?_)
                                                      refine p_i2l G dL_law_1372 ?_
                                                      refine p_ldc2 G gm_1649 dL_law_1373 ?_
                                                      refine p_land G dL_law_1376 ?_
                                                      refine p_lor G dL_law_1377 ?_
                                                      obtain ⟨⟨σ393, v394⟩, hc, h⟩ := bnd_some h
                                                      rw [un2_mk] at h
                                                      refine p_callV G zl_73 dL_law_1378 lk_L_178 (c_X7_kind (gl Γ) hc) (As := [.long ((zlshl (zi2l (xs 0 (zix (u5_28 + (1 : Int))))) (32 : Int)) ||| ((zi2l (xs 0 (zix (u5_28 + (2 : Int))))) &&& (4294967295 : Int64)))]) (ci := 7) rfl zk_73 (zs_x zs_73 _) rfl rfl rfl (Nat.le_of_ble_eq_true rfl) ⟨rfl, rfl, Nat.le_of_ble_eq_true rfl, Nat.le_of_ble_eq_true rfl⟩ hcs ?_
                                                      refine p_nm h (fun σ395 h => ?_)
                                                      refine p_istoreU (lv' := [(7, .int (zJ v394)), (6, .int (zJ v389)), (0, .ref b), (1, .ref (ga Γ 26)), (2, .ref (ga Γ 0)), (3, .ref (ga Γ 127)), (4, .ref (ga Γ 128)), (5, .int (zJ u5_28))]) G dL_law_1381 (by decide) rfl ?_
                                                      refine p_aload_n G rfl 4 rfl dL_law_1383 ?_
                                                      obtain ⟨v396, hc, h⟩ := bnd_some h
                                                      refine p_callVr G zl_73 dL_law_1384 lk_L_95 (c_X7_thrown (gl Γ) hc) (As := []) (ci := 7) rfl zk_73 (zs_x zs_73 _) rfl rfl rfl (Nat.le_of_ble_eq_true rfl) ⟨rfl, rfl, Nat.le_of_ble_eq_true rfl, Nat.le_of_ble_eq_true rfl⟩ hcs ?_
                                                      refine p_iload G 1 rfl dL_law_1387 ?_
                                                      refine p_icmpeq (tgt := 1394) G dL_law_1389 (by decide) h (fun c402 h => ?_) (fun c402 h => ?_)
                                                      · refine p_iload G 1 rfl dL_law_1394 ?_
                                                        refine p_ifne (tgt := 1411) G dL_law_1396 (by decide) h (fun c401 h => ?_) (fun c401 h => ?_)
                                                        · refine p_goto (tgt := 1627) G dL_law_1411 (by decide) ?_
                                                          refine p_iincE (lv' := fun v397 => [(5, .int (zJ v397)), (7, .int (zJ v394)), (6, .int (zJ v389)), (0, .ref b), (1, .ref (ga Γ 26)), (2, .ref (ga Γ 0)), (3, .ref (ga Γ 127)), (4, .ref (ga Γ 128))]) G dL_law_1627 h 7 rfl (by decide) (fun _ => rfl) (fun v397 hv397 h => ?_)
                                                          refine p_goto (tgt := 28) G dL_law_1630 (by decide) ?_
                                                          refine p_lv [3, 4, 5, 6, 7, 0] rfl ?_
                                                          exact hin28 _ (Option.some.inj h).symm Γ _ _ G hR hM (by show 0 ≤ _ ; omega) (by show _ ≤ (3072 : Int); omega) (by show _ ≤ (600000 : Int); push_cast; omega) (by show _ ≤ (7000000 : Int); push_cast; omega)
                                                        · refine p_aload_n G rfl 5 rfl dL_law_1399 ?_
                                                          refine p_iconst G rfl dL_law_1400 ?_
                                                          refine p_lald G dL_law_1401 (k := 127) rfl (zt_c _) h (fun c398 h => ?_)
                                                          refine p_iload G 0 rfl dL_law_1402 ?_
                                                          refine p_i2l G dL_law_1404 ?_
                                                          refine p_lcmp G dL_law_1405 ?_
                                                          refine p_ifeq (tgt := 1411) G dL_law_1406 (by decide) h (fun c400 h => ?_) (fun c400 h => ?_)
                                                          · refine p_goto (tgt := 1627) G dL_law_1411 (by decide) ?_
                                                            refine p_iincE (lv' := fun v399 => [(5, .int (zJ v399)), (7, .int (zJ v394)), (6, .int (zJ v389)), (0, .ref b), (1, .ref (ga Γ 26)), (2, .ref (ga Γ 0)), (3, .ref (ga Γ 127)), (4, .ref (ga Γ 128))]) G dL_law_1627 h 7 rfl (by decide) (fun _ => rfl) (fun v399 hv399 h => ?_)
                                                            refine p_goto (tgt := 28) G dL_law_1630 (by decide) ?_
                                                            refine p_lv [3, 4, 5, 6, 7, 0] rfl ?_
                                                            exact hin28 _ (Option.some.inj h).symm Γ _ _ G hR hM (by show 0 ≤ _ ; omega) (by show _ ≤ (3072 : Int); omega) (by show _ ≤ (600000 : Int); push_cast; omega) (by show _ ≤ (7000000 : Int); push_cast; omega)
                                                          · cases h
                                                      · cases h
                                                    · refine zite h (fun c25_45 h => ?_) (fun c25_45 h => ?_)
                                                      · refine p_tin (tgt := 1414) (off := 1369) G dL_law_45 c25_45 (by decide) (by decide) rfl (by decide) ?_
                                                        refine p_aload_n G rfl 1 rfl dL_law_1414 ?_
                                                        obtain ⟨⟨σ403, v404⟩, hc, h⟩ := bnd_some h
                                                        rw [un2_mk] at h
                                                        refine p_callV G zl_72 dL_law_1415 lk_L_179 (c_X6_gap (gl Γ) hc) (As := []) (ci := 6) rfl zk_72 (zs_x zs_72 _) rfl rfl rfl (Nat.le_of_ble_eq_true rfl) ⟨rfl, rfl, Nat.le_of_ble_eq_true rfl, Nat.le_of_ble_eq_true rfl⟩ hcs ?_
                                                        refine p_nm h (fun σ405 h => ?_)
                                                        refine p_aload_n G rfl 2 rfl dL_law_1418 ?_
                                                        obtain ⟨⟨σ406, v407⟩, hc, h⟩ := bnd_some h
                                                        rw [un2_mk] at h
                                                        refine p_callV G zl_73 dL_law_1419 lk_L_182 (c_X7_gap (gl Γ) hc) (As := []) (ci := 7) rfl zk_73 (zs_x zs_73 _) rfl rfl rfl (Nat.le_of_ble_eq_true rfl) ⟨rfl, rfl, Nat.le_of_ble_eq_true rfl, Nat.le_of_ble_eq_true rfl⟩ hcs ?_
                                                        refine p_nm h (fun σ408 h => ?_)
                                                        refine p_icmpeq (tgt := 1627) G dL_law_1422 (by decide) h (fun c410 h => ?_) (fun c410 h => ?_)
                                                        · refine p_iincE (lv' := fun v409 => [(5, .int (zJ v409)), (0, .ref b), (1, .ref (ga Γ 26)), (2, .ref (ga Γ 0)), (3, .ref (ga Γ 127)), (4, .ref (ga Γ 128))]) G dL_law_1627 h 5 rfl (by decide) (fun _ => rfl) (fun v409 hv409 h => ?_)
                                                          refine p_goto (tgt := 28) G dL_law_1630 (by decide) ?_
                                                          refine p_lv [1, 2, 3, 4, 5, 0] rfl ?_
                                                          exact hin28 _ (Option.some.inj h).symm Γ _ _ G hR hM (by show 0 ≤ _ ; omega) (by show _ ≤ (3072 : Int); omega) (by show _ ≤ (600000 : Int); push_cast; omega) (by show _ ≤ (7000000 : Int); push_cast; omega)
                                                        · cases h
                                                      · refine zite h (fun c26_45 h => ?_) (fun c26_45 h => ?_)
                                                        · refine p_tin (tgt := 1427) (off := 1382) G dL_law_45 c26_45 (by decide) (by decide) rfl (by decide) ?_
                                                          refine p_aload_n G rfl 1 rfl dL_law_1427 ?_
                                                          obtain ⟨⟨σ411, v412⟩, hc, h⟩ := bnd_some h
                                                          rw [un2_mk] at h
                                                          refine p_callV G zl_72 dL_law_1428 lk_L_183 (c_X6_meanRest (gl Γ) hc) (As := []) (ci := 6) rfl zk_72 (zs_x zs_72 _) rfl rfl rfl (Nat.le_of_ble_eq_true rfl) ⟨rfl, rfl, Nat.le_of_ble_eq_true rfl, Nat.le_of_ble_eq_true rfl⟩ hcs ?_
                                                          refine p_nm h (fun σ413 h => ?_)
                                                          refine p_dstoreU (lv' := [(6, .double v412), (0, .ref b), (1, .ref (ga Γ 26)), (2, .ref (ga Γ 0)), (3, .ref (ga Γ 127)), (4, .ref (ga Γ 128)), (5, .int (zJ u5_28))]) G dL_law_1431 (by decide) rfl ?_
                                                          refine p_aload_n G rfl 3 rfl dL_law_1433 ?_
                                                          obtain ⟨⟨σ414, v415⟩, hc, h⟩ := bnd_some h
                                                          rw [un2_mk] at h
                                                          refine p_callV G zl_73 dL_law_1434 lk_L_187 (c_X7_meanRest (gl Γ) hc) (As := []) (ci := 7) rfl zk_73 (zs_x zs_73 _) rfl rfl rfl (Nat.le_of_ble_eq_true rfl) ⟨rfl, rfl, Nat.le_of_ble_eq_true rfl, Nat.le_of_ble_eq_true rfl⟩ hcs ?_
                                                          refine p_nm h (fun σ416 h => ?_)
                                                          refine p_dstoreU (lv' := [(8, .double v415), (6, .double v412), (0, .ref b), (1, .ref (ga Γ 26)), (2, .ref (ga Γ 0)), (3, .ref (ga Γ 127)), (4, .ref (ga Γ 128)), (5, .int (zJ u5_28))]) G dL_law_1437 (by decide) rfl ?_
                                                          refine p_dload G 1 rfl dL_law_1439 ?_
                                                          refine p_dload G 0 rfl dL_law_1441 ?_
                                                          refine p_dcmp G dL_law_1443 ?_
                                                          refine p_ifeq (tgt := 1465) G dL_law_1444 (by decide) h (fun c421 h => ?_) (fun c421 h => ?_)
                                                          · refine p_goto (tgt := 1627) G dL_law_1465 (by decide) ?_
                                                            refine p_iincE (lv' := fun v417 => [(5, .int (zJ v417)), (8, .double v415), (6, .double v412), (0, .ref b), (1, .ref (ga Γ 26)), (2, .ref (ga Γ 0)), (3, .ref (ga Γ 127)), (4, .ref (ga Γ 128))]) G dL_law_1627 h 7 rfl (by decide) (fun _ => rfl) (fun v417 hv417 h => ?_)
                                                            refine p_goto (tgt := 28) G dL_law_1630 (by decide) ?_
                                                            refine p_lv [3, 4, 5, 6, 7, 0] rfl ?_
                                                            exact hin28 _ (Option.some.inj h).symm Γ _ _ G hR hM (by show 0 ≤ _ ; omega) (by show _ ≤ (3072 : Int); omega) (by show _ ≤ (600000 : Int); push_cast; omega) (by show _ ≤ (7000000 : Int); push_cast; omega)
                                                          · refine p_dload G 1 rfl dL_law_1447 ?_
                                                            refine p_dload G 1 rfl dL_law_1449 ?_
                                                            refine p_dcmp G dL_law_1451 ?_
                                                            refine p_ifeq (tgt := 1463) G dL_law_1452 (by decide) h (fun c420 h => ?_) (fun c420 h => ?_)
                                                            · cases h
                                                            · refine p_dload G 0 rfl dL_law_1455 ?_
                                                              refine p_dload G 0 rfl dL_law_1457 ?_
                                                              refine p_dcmp G dL_law_1459 ?_
                                                              refine p_ifne (tgt := 1465) G dL_law_1460 (by decide) h (fun c419 h => ?_) (fun c419 h => ?_)
                                                              · refine p_goto (tgt := 1627) G dL_law_1465 (by decide) ?_
                                                                refine p_iincE (lv' := fun v418 => [(5, .int (zJ v418)), (8, .double v415), (6, .double v412), (0, .ref b), (1, .ref (ga Γ 26)), (2, .ref (ga Γ 0)), (3, .ref (ga Γ 127)), (4, .ref (ga Γ 128))]) G dL_law_1627 h 7 rfl (by decide) (fun _ => rfl) (fun v418 hv418 h => ?_)
                                                                refine p_goto (tgt := 28) G dL_law_1630 (by decide) ?_
                                                                refine p_lv [3, 4, 5, 6, 7, 0] rfl ?_
                                                                exact hin28 _ (Option.some.inj h).symm Γ _ _ G hR hM (by show 0 ≤ _ ; omega) (by show _ ≤ (3072 : Int); omega) (by show _ ≤ (600000 : Int); push_cast; omega) (by show _ ≤ (7000000 : Int); push_cast; omega)
                                                              · cases h
                                                        · refine zite h (fun c27_45 h => ?_) (fun c27_45 h => ?_)
                                                          · refine p_tin (tgt := 1468) (off := 1423) G dL_law_45 c27_45 (by decide) (by decide) rfl (by decide) ?_
                                                            refine p_aload_n G rfl 1 rfl dL_law_1468 ?_
                                                            refine p_aload_n G rfl 0 rfl dL_law_1469 ?_
                                                            refine p_iload G 5 rfl dL_law_1470 ?_
                                                            refine p_iconst G rfl dL_law_1472 ?_
                                                            refine p_iadd G dL_law_1473 ?_
                                                            refine p_sld G hR dL_law_1474 h (fun c422 h => ?_)
                                                            refine p_aload G 4 rfl dL_law_1475 ?_
                                                            obtain ⟨⟨σ423, v424⟩, hc, h⟩ := bnd_some h
                                                            rw [un2_mk] at h
                                                            refine p_callHS (np := 3) (lv' := fun a => [(0, .ref b), (1, .ref (a 26)), (2, .ref (a 0)), (3, .ref (a 127)), (4, .ref (a 128)), (5, .int (zJ u5_28))]) (st' := fun a => []) G hR hM zl_75 dL_law_1477 gm_1087 gm_1088 gm_88 gm_1089 (by decide +kernel) (c_L_laid (gl Γ) (by rw [hM.1]; exact hl) hc) (As := [.ref (ga Γ 26), .int (zJ (xs 0 (zix (u5_28 + (1 : Int))))), .ref (ga Γ 128)]) rfl zk_75 (by decide +kernel) (by decide +kernel) (zs_x zs_75 _) rfl (Nat.le_of_ble_eq_true rfl) ⟨rfl, rfl, Nat.le_of_ble_eq_true rfl, Nat.le_of_ble_eq_true rfl⟩ (le_rc (by omega)) (le_rs (by omega)) h (fun a e => by have q0 := e 0 _ rfl rfl; have q26 := e 26 _ rfl rfl; have q127 := e 127 _ rfl rfl; have q128 := e 128 _ rfl rfl; exact ⟨by simp only [q0, q26, q127, q128], by rfl⟩) (fun Γ G hR hM σ425 h => ?_)
                                                            refine (?_ : PT Γ 10 shLaw 1480 σ425 [(0, .ref b), (1, .ref (ga Γ 26)), (2, .ref (ga Γ 0)), (3, .ref (ga Γ 127)), (4, .ref (ga Γ 128)), (5, .int (zJ u5_28))] [.int (zJ v424)])
                                                            have hcs := mk_cs G hM (le_rc (by omega)) (le_rs (by omega))
                                                            refine p_istoreU (lv' := [(6, .int (zJ v424)), (0, .ref b), (1, .ref (ga Γ 26)), (2, .ref (ga Γ 0)), (3, .ref (ga Γ 127)), (4, .ref (ga Γ 128)), (5, .int (zJ u5_28))]) G dL_law_1480 (by decide) rfl ?_
                                                            refine p_aload_n G rfl 3 rfl dL_law_1482 ?_
                                                            refine p_aload_n G rfl 1 rfl dL_law_1483 ?_
                                                            refine p_iload G 6 rfl dL_law_1484 ?_
                                                            refine p_iconst G rfl dL_law_1486 ?_
                                                            refine p_iadd G dL_law_1487 ?_
                                                            refine p_sld G hR dL_law_1488 h (fun c426 h => ?_)
                                                            obtain ⟨⟨σ427, v428⟩, hc, h⟩ := bnd_some h
                                                            rw [un2_mk] at h
                                                            refine p_callV G zl_73 dL_law_1489 lk_L_191 (c_X7_laid (gl Γ) hc) (As := [.int (zJ (xs 0 (zix (u5_28 + (1 : Int)))))]) (ci := 7) rfl zk_73 (zs_x zs_73 _) rfl rfl rfl (Nat.le_of_ble_eq_true rfl) ⟨rfl, rfl, Nat.le_of_ble_eq_true rfl, Nat.le_of_ble_eq_true rfl⟩ hcs ?_
                                                            refine p_nm h (fun σ429 h => ?_)
                                                            refine p_fstoreU (lv' := [(7, .float v428), (6, .int (zJ v424)), (0, .ref b), (1, .ref (ga Γ 26)), (2, .ref (ga Γ 0)), (3, .ref (ga Γ 127)), (4, .ref (ga Γ 128)), (5, .int (zJ u5_28))]) G dL_law_1492 (by decide) rfl ?_
                                                            refine p_aload_n G rfl 4 rfl dL_law_1494 ?_
                                                            obtain ⟨v430, hc, h⟩ := bnd_some h
                                                            refine p_callVr G zl_73 dL_law_1495 lk_L_95 (c_X7_thrown (gl Γ) hc) (As := []) (ci := 7) rfl zk_73 (zs_x zs_73 _) rfl rfl rfl (Nat.le_of_ble_eq_true rfl) ⟨rfl, rfl, Nat.le_of_ble_eq_true rfl, Nat.le_of_ble_eq_true rfl⟩ hcs ?_
                                                            refine p_iload G 1 rfl dL_law_1498 ?_
                                                            refine p_icmpeq (tgt := 1505) G dL_law_1500 (by decide) h (fun c441 h => ?_) (fun c441 h => ?_)
                                                            · refine p_iload G 1 rfl dL_law_1505 ?_
                                                              refine p_ifne (tgt := 1543) G dL_law_1507 (by decide) h (fun c440 h => ?_) (fun c440 h => ?_)
                                                              · refine p_goto (tgt := 1627) G dL_law_1543 (by decide) ?_
                                                                refine p_iincE (lv' := fun v431 => [(5, .int (zJ v431)), (7, .float v428), (6, .int (zJ v424)), (0, .ref b), (1, .ref (ga Γ 26)), (2, .ref (ga Γ 0)), (3, .ref (ga Γ 127)), (4, .ref (ga Γ 128))]) G dL_law_1627 h 7 rfl (by decide) (fun _ => rfl) (fun v431 hv431 h => ?_)
                                                                refine p_goto (tgt := 28) G dL_law_1630 (by decide) ?_
                                                                refine p_lv [3, 4, 5, 6, 7, 0] rfl ?_
                                                                exact hin28 _ (Option.some.inj h).symm Γ _ _ G hR hM (by show 0 ≤ _ ; omega) (by show _ ≤ (3072 : Int); omega) (by show _ ≤ (600000 : Int); push_cast; omega) (by show _ ≤ (7000000 : Int); push_cast; omega)
                                                              · refine p_aload G 6 rfl dL_law_1510 ?_
                                                                refine p_iconst G rfl dL_law_1512 ?_
                                                                refine p_dald G dL_law_1513 (k := 128) rfl h (fun c432 h => ?_)
                                                                refine p_fload G 0 rfl dL_law_1514 ?_
                                                                refine p_f2d G dL_law_1516 h (fun h => ?_)
                                                                refine p_dcmp G dL_law_1517 ?_
                                                                refine p_ifeq (tgt := 1543) G dL_law_1518 (by decide) h (fun c439 h => ?_) (fun c439 h => ?_)
                                                                · refine p_goto (tgt := 1627) G dL_law_1543 (by decide) ?_
                                                                  refine p_iincE (lv' := fun v433 => [(5, .int (zJ v433)), (7, .float v428), (6, .int (zJ v424)), (0, .ref b), (1, .ref (ga Γ 26)), (2, .ref (ga Γ 0)), (3, .ref (ga Γ 127)), (4, .ref (ga Γ 128))]) G dL_law_1627 h 7 rfl (by decide) (fun _ => rfl) (fun v433 hv433 h => ?_)
                                                                  refine p_goto (tgt := 28) G dL_law_1630 (by decide) ?_
                                                                  refine p_lv [3, 4, 5, 6, 7, 0] rfl ?_
                                                                  exact hin28 _ (Option.some.inj h).symm Γ _ _ G hR hM (by show 0 ≤ _ ; omega) (by show _ ≤ (3072 : Int); omega) (by show _ ≤ (600000 : Int); push_cast; omega) (by show _ ≤ (7000000 : Int); push_cast; omega)
                                                                · refine p_aload G 6 rfl dL_law_1521 ?_
                                                                  refine p_iconst G rfl dL_law_1523 ?_
                                                                  refine p_dald G dL_law_1524 (k := 128) rfl h (fun c434 h => ?_)
                                                                  refine p_aload G 6 rfl dL_law_1525 ?_
                                                                  refine p_iconst G rfl dL_law_1527 ?_
                                                                  refine p_dald G dL_law_1528 (k := 128) rfl h (fun c435 h => ?_)
                                                                  refine p_dcmp G dL_law_1529 ?_
                                                                  refine p_ifeq (tgt := 1541) G dL_law_1530 (by decide) h (fun c438 h => ?_) (fun c438 h => ?_)
                                                                  · cases h
                                                                  · refine p_fload G 0 rfl dL_law_1533 ?_
                                                                    refine p_fload G 0 rfl dL_law_1535 ?_
                                                                    refine p_fcmp G dL_law_1537 ?_
                                                                    refine p_ifne (tgt := 1543) G dL_law_1538 (by decide) h (fun c437 h => ?_) (fun c437 h => ?_)
                                                                    · refine p_goto (tgt := 1627) G dL_law_1543 (by decide) ?_
                                                                      refine p_iincE (lv' := fun v436 => [(5, .int (zJ v436)), (7, .float v428), (6, .int (zJ v424)), (0, .ref b), (1, .ref (ga Γ 26)), (2, .ref (ga Γ 0)), (3, .ref (ga Γ 127)), (4, .ref (ga Γ 128))]) G dL_law_1627 h 7 rfl (by decide) (fun _ => rfl) (fun v436 hv436 h => ?_)
                                                                      refine p_goto (tgt := 28) G dL_law_1630 (by decide) ?_
                                                                      refine p_lv [3, 4, 5, 6, 7, 0] rfl ?_
                                                                      exact hin28 _ (Option.some.inj h).symm Γ _ _ G hR hM (by show 0 ≤ _ ; omega) (by show _ ≤ (3072 : Int); omega) (by show _ ≤ (600000 : Int); push_cast; omega) (by show _ ≤ (7000000 : Int); push_cast; omega)
                                                                    · cases h
                                                            · cases h
                                                          · refine zite h (fun c28_45 h => ?_) (fun c28_45 h => ?_)
                                                            · refine p_tin (tgt := 1546) (off := 1501) G dL_law_45 c28_45 (by decide) (by decide) rfl (by decide) ?_
                                                              refine p_aload_n G rfl 1 rfl dL_law_1546 ?_
                                                              refine p_aload_n G rfl 0 rfl dL_law_1547 ?_
                                                              refine p_iload G 5 rfl dL_law_1548 ?_
                                                              refine p_iconst G rfl dL_law_1550 ?_
                                                              refine p_iadd G dL_law_1551 ?_
                                                              refine p_sld G hR dL_law_1552 h (fun c442 h => ?_)
                                                              refine p_aload_n G rfl 3 rfl dL_law_1553 ?_
                                                              obtain ⟨⟨σ443, v444⟩, hc, h⟩ := bnd_some h
                                                              rw [un2_mk] at h
                                                              refine p_callHS (np := 3) (lv' := fun a => [(0, .ref b), (1, .ref (a 26)), (2, .ref (a 0)), (3, .ref (a 127)), (4, .ref (a 128)), (5, .int (zJ u5_28))]) (st' := fun a => []) G hR hM zl_74 dL_law_1554 gm_1094 gm_1095 gm_88 gm_1096 (by decide +kernel) (c_L_writeLaying (gl Γ) (by rw [hM.1]; exact hl) hc) (As := [.ref (ga Γ 26), .int (zJ (xs 0 (zix (u5_28 + (1 : Int))))), .ref (ga Γ 127)]) rfl zk_74 (by decide +kernel) (by decide +kernel) (zs_x zs_74 _) rfl (Nat.le_of_ble_eq_true rfl) ⟨rfl, rfl, Nat.le_of_ble_eq_true rfl, Nat.le_of_ble_eq_true rfl⟩ (le_rc (by omega)) (le_rs (by omega)) h (fun a e => by have q0 := e 0 _ rfl rfl; have q26 := e 26 _ rfl rfl; have q127 := e 127 _ rfl rfl; have q128 := e 128 _ rfl rfl; exact ⟨by simp only [q0, q26, q127, q128], by rfl⟩) (fun Γ G hR hM σ445 h => ?_)
                                                              refine (?_ : PT Γ 10 shLaw 1557 σ445 [(0, .ref b), (1, .ref (ga Γ 26)), (2, .ref (ga Γ 0)), (3, .ref (ga Γ 127)), (4, .ref (ga Γ 128)), (5, .int (zJ u5_28))] [.int (zJ v444)])
                                                              have hcs := mk_cs G hM (le_rc (by omega)) (le_rs (by omega))
                                                              refine p_istoreU (lv' := [(6, .int (zJ v444)), (0, .ref b), (1, .ref (ga Γ 26)), (2, .ref (ga Γ 0)), (3, .ref (ga Γ 127)), (4, .ref (ga Γ 128)), (5, .int (zJ u5_28))]) G dL_law_1557 (by decide) rfl ?_
                                                              refine p_aload_n G rfl 3 rfl dL_law_1559 ?_
                                                              refine p_aload_n G rfl 1 rfl dL_law_1560 ?_
                                                              refine p_iload G 6 rfl dL_law_1561 ?_
                                                              refine p_iconst G rfl dL_law_1563 ?_
                                                              refine p_iadd G dL_law_1564 ?_
                                                              refine p_sld G hR dL_law_1565 h (fun c446 h => ?_)
                                                              obtain ⟨⟨σ447, v448⟩, hc, h⟩ := bnd_some h
                                                              rw [un2_mk] at h
                                                              refine p_callV G zl_73 dL_law_1566 lk_L_194 (c_X7_writeLaying (gl Γ) hc) (As := [.int (zJ (xs 0 (zix (u5_28 + (1 : Int)))))]) (ci := 7) rfl zk_73 (zs_x zs_73 _) rfl rfl rfl (Nat.le_of_ble_eq_true rfl) ⟨rfl, rfl, Nat.le_of_ble_eq_true rfl, Nat.le_of_ble_eq_true rfl⟩ hcs ?_
                                                              refine p_nm h (fun σ449 h => ?_)
                                                              refine p_istoreU (lv' := [(7, .int (zJ v448)), (6, .int (zJ v444)), (0, .ref b), (1, .ref (ga Γ 26)), (2, .ref (ga Γ 0)), (3, .ref (ga Γ 127)), (4, .ref (ga Γ 128)), (5, .int (zJ u5_28))]) G dL_law_1569 (by decide) rfl ?_
                                                              refine p_aload_n G rfl 4 rfl dL_law_1571 ?_
                                                              obtain ⟨v450, hc, h⟩ := bnd_some h
                                                              refine p_callVr G zl_73 dL_law_1572 lk_L_95 (c_X7_thrown (gl Γ) hc) (As := []) (ci := 7) rfl zk_73 (zs_x zs_73 _) rfl rfl rfl (Nat.le_of_ble_eq_true rfl) ⟨rfl, rfl, Nat.le_of_ble_eq_true rfl, Nat.le_of_ble_eq_true rfl⟩ hcs ?_
                                                              refine p_iload G 1 rfl dL_law_1575 ?_
                                                              refine p_icmpeq (tgt := 1582) G dL_law_1577 (by decide) h (fun c456 h => ?_) (fun c456 h => ?_)
                                                              · refine p_iload G 1 rfl dL_law_1582 ?_
                                                                refine p_ifne (tgt := 1599) G dL_law_1584 (by decide) h (fun c455 h => ?_) (fun c455 h => ?_)
                                                                · refine p_goto (tgt := 1627) G dL_law_1599 (by decide) ?_
                                                                  refine p_iincE (lv' := fun v451 => [(5, .int (zJ v451)), (7, .int (zJ v448)), (6, .int (zJ v444)), (0, .ref b), (1, .ref (ga Γ 26)), (2, .ref (ga Γ 0)), (3, .ref (ga Γ 127)), (4, .ref (ga Γ 128))]) G dL_law_1627 h 7 rfl (by decide) (fun _ => rfl) (fun v451 hv451 h => ?_)
                                                                  refine p_goto (tgt := 28) G dL_law_1630 (by decide) ?_
                                                                  refine p_lv [3, 4, 5, 6, 7, 0] rfl ?_
                                                                  exact hin28 _ (Option.some.inj h).symm Γ _ _ G hR hM (by show 0 ≤ _ ; omega) (by show _ ≤ (3072 : Int); omega) (by show _ ≤ (600000 : Int); push_cast; omega) (by show _ ≤ (7000000 : Int); push_cast; omega)
                                                                · refine p_aload_n G rfl 5 rfl dL_law_1587 ?_
                                                                  refine p_iconst G rfl dL_law_1588 ?_
                                                                  refine p_lald G dL_law_1589 (k := 127) rfl (zt_c _) h (fun c452 h => ?_)
                                                                  refine p_iload G 0 rfl dL_law_1590 ?_
                                                                  refine p_i2l G dL_law_1592 ?_
                                                                  refine p_lcmp G dL_law_1593 ?_
                                                                  refine p_ifeq (tgt := 1599) G dL_law_1594 (by decide) h (fun c454 h => ?_) (fun c454 h => ?_)
                                                                  · refine p_goto (tgt := 1627) G dL_law_1599 (by decide) ?_
                                                                    refine p_iincE (lv' := fun v453 => [(5, .int (zJ v453)), (7, .int (zJ v448)), (6, .int (zJ v444)), (0, .ref b), (1, .ref (ga Γ 26)), (2, .ref (ga Γ 0)), (3, .ref (ga Γ 127)), (4, .ref (ga Γ 128))]) G dL_law_1627 h 7 rfl (by decide) (fun _ => rfl) (fun v453 hv453 h => ?_)
                                                                    refine p_goto (tgt := 28) G dL_law_1630 (by decide) ?_
                                                                    refine p_lv [3, 4, 5, 6, 7, 0] rfl ?_
                                                                    exact hin28 _ (Option.some.inj h).symm Γ _ _ G hR hM (by show 0 ≤ _ ; omega) (by show _ ≤ (3072 : Int); omega) (by show _ ≤ (600000 : Int); push_cast; omega) (by show _ ≤ (7000000 : Int); push_cast; omega)
                                                                  · cases h
                                                              · cases h
                                                            · refine zite h (fun c29_45 h => ?_) (fun c29_45 h => ?_)
                                                              · refine p_tin (tgt := 1602) (off := 1557) G dL_law_45 c29_45 (by decide) (by decide) rfl (by decide) ?_
                                                                refine p_aload_n G rfl 1 rfl dL_law_1602 ?_
                                                                refine p_aload_n G rfl 0 rfl dL_law_1603 ?_
                                                                refine p_iload G 5 rfl dL_law_1604 ?_
                                                                refine p_iconst G rfl dL_law_1606 ?_
                                                                refine p_iadd G dL_law_1607 ?_
                                                                refine p_sld G hR dL_law_1608 h (fun c457 h => ?_)
                                                                obtain ⟨v458, hc, h⟩ := bnd_some h
                                                                refine p_callVr G zl_72 dL_law_1609 lk_L_195 (c_X6_reportByte (gl Γ) hc) (As := [.int (zJ (xs 0 (zix (u5_28 + (1 : Int)))))]) (ci := 6) rfl zk_72 (zs_x zs_72 _) rfl rfl rfl (Nat.le_of_ble_eq_true rfl) ⟨rfl, rfl, Nat.le_of_ble_eq_true rfl, Nat.le_of_ble_eq_true rfl⟩ hcs ?_
                                                                refine p_aload_n G rfl 2 rfl dL_law_1612 ?_
                                                                refine p_aload_n G rfl 0 rfl dL_law_1613 ?_
                                                                refine p_iload G 5 rfl dL_law_1614 ?_
                                                                refine p_iconst G rfl dL_law_1616 ?_
                                                                refine p_iadd G dL_law_1617 ?_
                                                                refine p_sld G hR dL_law_1618 h (fun c459 h => ?_)
                                                                obtain ⟨⟨σ460, v461⟩, hc, h⟩ := bnd_some h
                                                                rw [un2_mk] at h
                                                                refine p_callV G zl_73 dL_law_1619 lk_L_198 (c_X7_reportByte (gl Γ) hc) (As := [.int (zJ (xs 0 (zix (u5_28 + (1 : Int)))))]) (ci := 7) rfl zk_73 (zs_x zs_73 _) rfl rfl rfl (Nat.le_of_ble_eq_true rfl) ⟨rfl, rfl, Nat.le_of_ble_eq_true rfl, Nat.le_of_ble_eq_true rfl⟩ hcs ?_
                                                                refine p_nm h (fun σ462 h => ?_)
                                                                refine p_icmpeq (tgt := 1627) G dL_law_1622 (by decide) h (fun c464 h => ?_) (fun c464 h => ?_)
                                                                · refine p_iincE (lv' := fun v463 => [(5, .int (zJ v463)), (0, .ref b), (1, .ref (ga Γ 26)), (2, .ref (ga Γ 0)), (3, .ref (ga Γ 127)), (4, .ref (ga Γ 128))]) G dL_law_1627 h 5 rfl (by decide) (fun _ => rfl) (fun v463 hv463 h => ?_)
                                                                  refine p_goto (tgt := 28) G dL_law_1630 (by decide) ?_
                                                                  refine p_lv [1, 2, 3, 4, 5, 0] rfl ?_
                                                                  exact hin28 _ (Option.some.inj h).symm Γ _ _ G hR hM (by show 0 ≤ _ ; omega) (by show _ ≤ (3072 : Int); omega) (by show _ ≤ (600000 : Int); push_cast; omega) (by show _ ≤ (7000000 : Int); push_cast; omega)
                                                                · cases h
                                                              · refine p_tout (tgt := 1627) G dL_law_45 (by omega) (by decide) ?_
                                                                refine p_iincE (lv' := fun v465 => [(5, .int (zJ v465)), (0, .ref b), (1, .ref (ga Γ 26)), (2, .ref (ga Γ 0)), (3, .ref (ga Γ 127)), (4, .ref (ga Γ 128))]) G dL_law_1627 h 5 rfl (by decide) (fun _ => rfl) (fun v465 hv465 h => ?_)
                                                                refine p_goto (tgt := 28) G dL_law_1630 (by decide) ?_
                                                                refine p_lv [1, 2, 3, 4, 5, 0] rfl ?_
                                                                exact hin28 _ (Option.some.inj h).symm Γ _ _ G hR hM (by show 0 ≤ _ ; omega) (by show _ ≤ (3072 : Int); omega) (by show _ ≤ (600000 : Int); push_cast; omega) (by show _ ≤ (7000000 : Int); push_cast; omega)
set_option maxHeartbeats 4000000 in
set_option maxRecDepth 100000 in
theorem law_pt (l : Launch) (hl : l.stackTraces = false) {xs : Mm} {L b : Nat} {nm : String} {σ : Mm} (h : x_L_law xs L σ = some ()) {Γ : Cx} (G : Gd Γ code R_law 10 room_1 shLg) (hR : RTN Γ shLg shLg lawR xs none L b) (hM : Mk Γ l nm 0 0) : PT Γ 10 shLg 0 σ [(0, .ref b)] [] := by
  unfold x_L_law at h
  obtain ⟨σ1, hc, h⟩ := bnd_some h
  refine p_newObjSt (s0 := shXc) (s9 := shX) (lvr := fun r => [(1, .ref r), (0, .ref b)]) (lv' := fun a => [(1, .ref (a 26)), (0, .ref b)]) (kf := 200) (j := 0) (K := 26) G hR hM zl_76 nw_L_8 rfl (by decide +kernel) li_L_75 (fun a => c_X6_init (gl Γ) hc) dL_law_0 dL_law_3 dL_law_4 dL_law_7 rfl ⟨rfl, rfl, Nat.le_of_ble_eq_true rfl, Nat.le_of_ble_eq_true rfl⟩ (Nat.le_of_ble_eq_true rfl) (Nat.le_of_ble_eq_true rfl) rfl rfl zk_76 (by decide +kernel) (by decide +kernel) (by decide) (fun _ => rfl) h (fun a e => rfl) (fun Γ G hR hM σ2 h => ?_)
  refine (?_ : PT Γ 10 shLg 8 σ2 [(1, .ref (ga Γ 26)), (0, .ref b)] [])
  obtain ⟨σ3, hc, h⟩ := bnd_some h
  refine p_newObjSt (s0 := shWc) (s9 := shW) (lvr := fun r => [(2, .ref r), (1, .ref (ga Γ 26)), (0, .ref b)]) (lv' := fun a => [(2, .ref (a 0)), (1, .ref (a 26)), (0, .ref b)]) (kf := 200) (j := 1) (K := 0) G hR hM zl_77 nw_L_76 rfl (by decide +kernel) li_L_78 (fun a => c_X7_init (gl Γ) hc) dL_law_8 dL_law_11 dL_law_12 dL_law_15 rfl ⟨rfl, rfl, Nat.le_of_ble_eq_true rfl, Nat.le_of_ble_eq_true rfl⟩ (Nat.le_of_ble_eq_true rfl) (Nat.le_of_ble_eq_true rfl) rfl rfl zk_77 (by decide +kernel) (by decide +kernel) (by decide) (fun _ => rfl) h (fun a e => (by simp only [e 26 (by decide +kernel)])) (fun Γ G hR hM σ4 h => ?_)
  refine (?_ : PT Γ 10 shLg 16 σ4 [(2, .ref (ga Γ 0)), (1, .ref (ga Γ 26)), (0, .ref b)] [])
  refine p_iconst G rfl dL_law_16 ?_
  refine p_newaSt (ins := .return_) (lv' := fun a => [(3, .ref (a 127)), (2, .ref (a 0)), (1, .ref (a 26)), (0, .ref b)]) (kf := 200) (j := 2) (K := 127) (N := 1) (c1 := 1) (kd := 1) (ir := 3) (ln := 1) G hR hM gm_195 dL_law_17 (fun a H locs mc ms ls hl k => lv_astore_n G.1 G.2.1 dL_law_19 rfl hl (by decide) rfl k) rfl (by decide +kernel) (by decide +kernel) (by decide +kernel) (fun _ => rfl) (fun _ _ h => h) (fun j2 => by unfold zFk; rw [if_neg (by decide)]; unfold zF; rw [zt_c]; exact congrArg Value.long (show (0 : Int64) = zL 0 by decide)) (by decide) (by decide) (by decide) (by decide) (Nat.le_of_ble_eq_true rfl) (Nat.le_of_ble_eq_true rfl) h (fun a e => (by have q0 := e 0 (by decide +kernel); have q26 := e 26 (by decide +kernel); simp only [q0, q26]; rfl)) (fun Γ G hR hM σ5 h => ?_)
  refine (?_ : PT Γ 10 shLg 20 σ5 [(3, .ref (ga Γ 127)), (2, .ref (ga Γ 0)), (1, .ref (ga Γ 26)), (0, .ref b)] [])
  refine p_iconst G rfl dL_law_20 ?_
  refine p_newaSt (ins := .return_) (lv' := fun a => [(4, .ref (a 128)), (3, .ref (a 127)), (2, .ref (a 0)), (1, .ref (a 26)), (0, .ref b)]) (kf := 200) (j := 3) (K := 128) (N := 1) (c1 := 0) (kd := 6) (ir := 4) (ln := 2) G hR hM gm_1650 dL_law_21 (fun a H locs mc ms ls hl k => lv_astore G.1 G.2.1 dL_law_23 hl (by decide) rfl k) rfl (by decide +kernel) (by decide +kernel) (by decide +kernel) (fun _ => rfl) (fun _ _ h => h) (fun j2 => by unfold zFk; rw [if_pos rfl]; exact congrArg Value.double (show (0 : UInt64) = zU 0 by decide)) (by decide) (by decide) (by decide) (by decide) (Nat.le_of_ble_eq_true rfl) (Nat.le_of_ble_eq_true rfl) h (fun a e => (by have q127 := e 127 (by decide +kernel); have q0 := e 0 (by decide +kernel); have q26 := e 26 (by decide +kernel); simp only [q127, q0, q26]; rfl)) (fun Γ G hR hM σ6 h => ?_)
  refine (?_ : PT Γ 10 shLg 25 σ6 [(4, .ref (ga Γ 128)), (3, .ref (ga Γ 127)), (2, .ref (ga Γ 0)), (1, .ref (ga Γ 26)), (0, .ref b)] [])
  refine zift h (fun hf h => ?_)
  refine p_conv (s9 := shLaw) G [(200, 0), (200, 1), (200, 2), (200, 3)] hR hM zk_78 hf (fun Γ9 G hR hM hga => ?_)
  rw [← hga]
  clear hga
  revert hM hR G
  generalize Γ9 = Γ
  intro G hR hM
  have hR := (rtn_law (s1 := shLaw) (s8 := shLaw) hR).1
  refine p_iconst G rfl dL_law_25 ?_
  refine p_istoreU (lv' := [(5, .int (zJ (0 : Int))), (4, .ref (ga Γ 128)), (3, .ref (ga Γ 127)), (2, .ref (ga Γ 0)), (1, .ref (ga Γ 26)), (0, .ref b)]) G dL_law_26 (by decide) rfl ?_
  refine p_lv [5, 4, 3, 2, 1, 0] rfl ?_
  obtain ⟨e, hlp, -⟩ := bnd_some h
  exact law_loop l hl (s := (σ6, 0)) hlp Γ _ _ G hR hM (by show (0 : Int) ≤ 0; decide) (by show (0 : Int) ≤ 3072; decide) (by show _ + 12 * (3100 - (0 : Int)) ≤ _; decide) (by show _ + 500 * (3100 - (0 : Int)) ≤ _; decide)
