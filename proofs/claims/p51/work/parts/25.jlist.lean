set_option maxHeartbeats 4000000 in
set_option maxRecDepth 100000 in
theorem pm_max (l : Launch) (a b : Int) (h_0 : -2147483648 ≤ a ∧ a < 2147483648) (h_1 : -2147483648 ≤ b ∧ b < 2147483648) : PM l yJ9_max_7cf53 cJ9_max_7cf53 2 (some .int) 0 0 [.int (iI a), .int (iI b)] (.int (iI (if a ≤ b then b else a))) := by
  intro S0 H
  refine ct_of (by decide +kernel) (Nat.le_of_ble_eq_true rfl) ?_
  intro pg en s mi args below meth co ls fx hs hr hlk hxt hin hl
  subst hs
  obtain ⟨hx, hb, hml, hown, hts⟩ := id fx.1
  have hS : va_S (fun _ => False) s.heap s.heap [] := va_S.rf
  refine lv_iload_n hx hb dJ9_max_7cf53_0 rfl (lv_at hl 0 rfl) ?_
  refine lv_iload_n hx hb dJ9_max_7cf53_1 rfl (lv_at hl 1 rfl) ?_
  refine q_clt (tgt := 9) hx hb dJ9_max_7cf53_2 (by decide) (by omega) (by omega) (fun c1 => ?_) (fun c1 => ?_)
  · refine lv_iload_n hx hb dJ9_max_7cf53_9 rfl (lv_at hl 1 rfl) ?_
    exact e_i hx hb hr hlk hS dJ9_max_7cf53_10 (Nat.le_refl _) (Nat.le_refl _) ⟨ex_i (by first | omega | (split <;> omega)), rfl⟩
  · refine lv_iload_n hx hb dJ9_max_7cf53_5 rfl (lv_at hl 0 rfl) ?_
    refine lv_goto (tgt := 10) hx hb dJ9_max_7cf53_6 (by decide) ?_
    exact e_i hx hb hr hlk hS dJ9_max_7cf53_10 (Nat.le_refl _) (Nat.le_refl _) ⟨ex_i (by first | omega | (split <;> omega)), rfl⟩

set_option maxHeartbeats 4000000 in
set_option maxRecDepth 100000 in
theorem jm_acInit (θ : TH) (l : Launch) (S0 : State) (H : Heap) (hz : SZ θ S0 H) (hj : SJ θ S0 H) (L : Nat) : CT l yJxa1e45_init_da8c8 cJxa1e45_init_da8c8 1 none 1 20 0 0 [.ref L] S0 H (fun v9 H1 => v9 = none ∧ H1 = H) (fun _ _ => False) (fun _ : Nat => False) := by
  refine ct_of (by decide +kernel) (Nat.le_of_ble_eq_true rfl) ?_
  intro pg en s mi args below meth co ls fx hs hr hlk hxt hin hl
  subst hs
  obtain ⟨hx, hb, hml, hown, hts⟩ := id fx.1
  have hS : va_S (fun _ : Nat => False) s.heap s.heap [] := va_S.rf
  have hAB : ∀ x : Nat, (fun _ : Nat => False) x → θ.2.2.2 ≤ x := fun q h => h.elim
  have hz0 := hz
  have hj0 := hj
  have hK := sz_K fx.2 hz
  have hz2 := hz.2.1
  refine lv_aload_n hx hb dJxa1e45_init_da8c8_0 rfl (lv_at hl 0 rfl) ?_
  refine r_oinit hx hb hml hl hts hown k1315 k37 k38 dJxa1e45_init_da8c8_1 (Nat.le_of_ble_eq_true rfl) (Nat.le_of_ble_eq_true rfl) ?_
  first | exact e_v hx hb hr hlk hS dJxa1e45_init_da8c8_4 (by first | exact Nat.le_of_ble_eq_true rfl | ((try dsimp only); omega)) (by first | exact Nat.le_of_ble_eq_true rfl | ((try dsimp only); omega)) ⟨rfl, rfl⟩ | exact (show False by omega).elim

set_option maxHeartbeats 4000000 in
set_option maxRecDepth 100000 in
theorem jm_alInit0 (θ : TH) (l : Launch) (S0 : State) (H : Heap) (hz : SZ θ S0 H) (hj : SJ θ S0 H) (L : Nat) (h_q0 : OB θ H L 6 [.int (iI 0), .null, .int (iI 0)]) (h_0 : θ.2.2.2 ≤ L) : CT l yJxc12de_init_da8c8 cJxc12de_init_da8c8 1 none 2 40 0 0 [.ref L] S0 H (fun v9 H1 => v9 = none ∧ H1.size = H.size + 0 ∧ OB θ H1 L 6 [.int (iI 0), .null, .int (iI 0)]) (fun _ _ => False) (fun x : Nat => x = L) := by
  refine ct_of (by decide +kernel) (Nat.le_of_ble_eq_true rfl) ?_
  intro pg en s mi args below meth co ls fx hs hr hlk hxt hin hl
  subst hs
  obtain ⟨hx, hb, hml, hown, hts⟩ := id fx.1
  have hS : va_S (fun x : Nat => x = L) s.heap s.heap [] := va_S.rf
  have hAB : ∀ x : Nat, (fun x : Nat => x = L) x → θ.2.2.2 ≤ x := fun x hx => by have hz2 := hz.2.1; (try dsimp only at hx); omega
  have hz0 := hz
  have hj0 := hj
  have hK := sz_K fx.2 hz
  have hz2 := hz.2.1
  have lh_q0 := h_q0.lt
  refine lv_aload_n hx hb dJxc12de_init_da8c8_0 rfl (lv_at hl 0 rfl) ?_
  refine c_Ir (As := []) (rest := []) (r := none) (st1 := []) fx hl (jm_acInit θ l S0 _ hz hj L) dJxc12de_init_da8c8_1 k1312 k1313 k16 k1314 rfl hd_Jxa1e45_init_da8c8 rfl rfl ⟨by decide, by decide⟩ (Nat.le_of_ble_eq_true rfl) ⟨by (try dsimp only); omega, by (try dsimp only); omega⟩ hS (fun x hx => by first | exact hx.elim | ((try dsimp only at hx ⊢); omega)) (fun H1 locs hpH1 hsz0H1 hk0H1 hS => ?_)
  obtain rfl := hpH1.symm
  refine lv_aload_n hx hb dJxc12de_init_da8c8_4 rfl (lv_at hl 0 rfl) ?_
  refine q_con hx hb dJxc12de_init_da8c8_5 ?_
  refine r_put (θ := θ) (C := RJx4a65c) (T := TJx4a65c) (N := 3) (ci := 6) (v := .int (iI 0)) (ty := .int) hx hb hts gwJx4a65c tyJx4a65c tyJx4a65c_ok nmJx4a65c hown hK h_q0 (by first | ((try dsimp only); omega) | dsimp only) hS rfl 0 (by decide) k1322 (fun _ h => h) rfl (by decide +kernel) rfl rfl (Nat.le_of_ble_eq_true rfl) dJxc12de_init_da8c8_6 (fun H2 locs hqH2 hszH2 hkH2 hS => ?_)
  have hnH2 : OB θ H2 L 6 [.int (iI 0), .null, .int (iI 0)] := hqH2
  have hzH2 := hz0.at hAB hS
  have hjH2 := hj0.at hAB hS
  have lnH2 := hnH2.lt
  first | exact e_v hx hb hr hlk hS dJxc12de_init_da8c8_9 (by first | exact Nat.le_of_ble_eq_true rfl | ((try dsimp only); omega)) (by first | exact Nat.le_of_ble_eq_true rfl | ((try dsimp only); omega)) ⟨rfl, ⟨by omega, by first | exact hnH2 | (subst_vars; exact hnH2)⟩⟩ | exact (show False by omega).elim

set_option maxHeartbeats 4000000 in
set_option maxRecDepth 100000 in
theorem jm_alInit (θ : TH) (l : Launch) (S0 : State) (H : Heap) (hz : SZ θ S0 H) (hj : SJ θ S0 H) (L : Nat) (h_q0 : OB θ H L 6 [.int (iI 0), .null, .int (iI 0)]) (h_0 : θ.2.2.2 ≤ L) : CT l yJx4a65c_init_da8c8 cJx4a65c_init_da8c8 1 none 3 60 0 0 [.ref L] S0 H (fun v9 H1 => v9 = none ∧ H1.size = H.size + 0 ∧ OB θ H1 L 6 [.int (iI 0), .ref (θ.2.2.1 23), .int (iI 0)]) (fun _ _ => False) (fun x : Nat => x = L) := by
  refine ct_of (by decide +kernel) (Nat.le_of_ble_eq_true rfl) ?_
  intro pg en s mi args below meth co ls fx hs hr hlk hxt hin hl
  subst hs
  obtain ⟨hx, hb, hml, hown, hts⟩ := id fx.1
  have hS : va_S (fun x : Nat => x = L) s.heap s.heap [] := va_S.rf
  have hAB : ∀ x : Nat, (fun x : Nat => x = L) x → θ.2.2.2 ≤ x := fun x hx => by have hz2 := hz.2.1; (try dsimp only at hx); omega
  have hz0 := hz
  have hj0 := hj
  have hK := sz_K fx.2 hz
  have hz2 := hz.2.1
  have lh_q0 := h_q0.lt
  refine lv_aload_n hx hb dJx4a65c_init_da8c8_0 rfl (lv_at hl 0 rfl) ?_
  refine c_Ir (As := []) (rest := []) (r := none) (st1 := []) fx hl (jm_alInit0 θ l S0 _ hz hj L h_q0 (by omega)) dJx4a65c_init_da8c8_1 k1309 k1310 k17 k1311 rfl hd_Jxc12de_init_da8c8 rfl rfl ⟨by decide, by decide⟩ (Nat.le_of_ble_eq_true rfl) ⟨by (try dsimp only); omega, by (try dsimp only); omega⟩ hS (fun x hx => by first | exact hx.elim | ((try dsimp only at hx ⊢); omega)) (fun H1 locs hpH1 hsz0H1 hk0H1 hS => ?_)
  obtain ⟨hszH1, hoH1_0⟩ := hpH1
  have hkH1 : ∀ q : Nat, q < (s.heap).size → ¬ (q = L) → H1[q]? = (s.heap)[q]? := fun q hq hn => hk0H1 q hq (by (try dsimp only); omega)
  have lhoH1_0 := hoH1_0.lt
  have hzH1 := hz0.at hAB hS
  have hjH1 := hj0.at hAB hS
  refine lv_aload_n hx hb dJx4a65c_init_da8c8_4 rfl (lv_at hl 0 rfl) ?_
  refine r_gets (θ := θ) hx hb fx.2 hj0.2.2.2.2.2.2.1.1 hAB hS hown (hts _ k1316) dJx4a65c_init_da8c8_5 ?_
  refine r_put (θ := θ) (C := RJx4a65c) (T := TJx4a65c) (N := 3) (ci := 6) (v := .ref (θ.2.2.1 23)) (ty := .array (.object "java/lang/Object")) hx hb hts gwJx4a65c tyJx4a65c tyJx4a65c_ok nmJx4a65c hown hK hoH1_0 (by first | ((try dsimp only); omega) | dsimp only) hS rfl 1 (by decide) k1318 (fun _ h => h) rfl (by decide +kernel) rfl rfl (Nat.le_of_ble_eq_true rfl) dJx4a65c_init_da8c8_8 (fun H2 locs hqH2 hszH2 hkH2 hS => ?_)
  have hnH2 : OB θ H2 L 6 [.int (iI 0), .ref (θ.2.2.1 23), .int (iI 0)] := hqH2
  have hzH2 := hz0.at hAB hS
  have hjH2 := hj0.at hAB hS
  have lnH2 := hnH2.lt
  first | exact e_v hx hb hr hlk hS dJx4a65c_init_da8c8_11 (by first | exact Nat.le_of_ble_eq_true rfl | ((try dsimp only); omega)) (by first | exact Nat.le_of_ble_eq_true rfl | ((try dsimp only); omega)) ⟨rfl, ⟨by omega, by first | exact hnH2 | (subst_vars; exact hnH2)⟩⟩ | exact (show False by omega).elim

set_option maxHeartbeats 4000000 in
set_option maxRecDepth 100000 in
theorem jm_valueOf (θ : TH) (l : Launch) (S0 : State) (H : Heap) (hz : SZ θ S0 H) (hj : SJ θ S0 H) (v : Int) (h_0 : -128 ≤ v ∧ v ≤ 127) : CT l yJ6_valueOf_2dffe cJ6_valueOf_2dffe 1 (some (.object "java/lang/Integer")) 0 0 0 0 [.int (iI v)] S0 H (fun v9 H1 => v9 = some (.ref (bx θ v)) ∧ H1 = H) (fun _ _ => False) (fun _ : Nat => False) := by
  refine ct_of (by decide +kernel) (Nat.le_of_ble_eq_true rfl) ?_
  intro pg en s mi args below meth co ls fx hs hr hlk hxt hin hl
  subst hs
  obtain ⟨hx, hb, hml, hown, hts⟩ := id fx.1
  have hS : va_S (fun _ : Nat => False) s.heap s.heap [] := va_S.rf
  have hAB : ∀ x : Nat, (fun _ : Nat => False) x → θ.2.2.2 ≤ x := fun q h => h.elim
  have hz0 := hz
  have hj0 := hj
  have hK := sz_K fx.2 hz
  have hz2 := hz.2.1
  refine lv_iload_n hx hb dJ6_valueOf_2dffe_0 rfl (lv_at hl 0 rfl) ?_
  refine q_bip hx hb dJ6_valueOf_2dffe_1 (by decide) ?_
  refine q_clt (tgt := 23) hx hb dJ6_valueOf_2dffe_3 (by decide) (by omega) (by omega) (fun c1 => ?_) (fun c1 => ?_)
  · exact (show False by omega).elim
  · refine lv_iload_n hx hb dJ6_valueOf_2dffe_6 rfl (lv_at hl 0 rfl) ?_
    refine r_gets (θ := θ) hx hb fx.2 hj0.2.2.2.1 hAB hS hown (hts _ k1336) dJ6_valueOf_2dffe_7 ?_
    refine q_ai 127 rfl ?_
    refine q_cgt (tgt := 23) hx hb dJ6_valueOf_2dffe_10 (by decide) (by omega) (by omega) (fun c2 => ?_) (fun c2 => ?_)
    · exact (show False by omega).elim
    · refine r_gets (θ := θ) hx hb fx.2 hj0.2.2.2.2.1.1 hAB hS hown (hts _ k1338) dJ6_valueOf_2dffe_13 ?_
      refine lv_iload_n hx hb dJ6_valueOf_2dffe_16 rfl (lv_at hl 0 rfl) ?_
      refine q_sip hx hb dJ6_valueOf_2dffe_17 (by decide) ?_
      refine q_add hx hb dJ6_valueOf_2dffe_20 ?_
      refine q_as (v + 128) (by omega) ?_
      refine r_cache (v := v) hx hb fx.2 hj0.2.2.2.2.1.2 hAB hS (by omega) dJ6_valueOf_2dffe_21 ?_
      first | exact e_a hx hb hr (by first | exact Or.inl ⟨_, rfl⟩ | exact Or.inr ⟨_, rfl⟩) hlk hS dJ6_valueOf_2dffe_22 (by first | exact Nat.le_of_ble_eq_true rfl | ((try dsimp only); omega)) (by first | exact Nat.le_of_ble_eq_true rfl | ((try dsimp only); omega)) ⟨by first | rfl | (subst_vars; rfl) | (rw [show (bx θ v) = (bx θ v) from by omega]), rfl⟩ | exact (show False by omega).elim

set_option maxHeartbeats 4000000 in
set_option maxRecDepth 100000 in
theorem jm_intValue (θ : TH) (l : Launch) (S0 : State) (H : Heap) (hz : SZ θ S0 H) (hj : SJ θ S0 H) (a : Nat) (v : Int) (h_0 : a = bx θ v) (h_1 : -128 ≤ v ∧ v ≤ 127) : CT l yJ6_intValue_8abf5 cJ6_intValue_8abf5 1 (some .int) 0 0 0 0 [.ref a] S0 H (fun v9 H1 => v9 = some (.int (iI v)) ∧ H1 = H) (fun _ _ => False) (fun _ : Nat => False) := by
  refine ct_of (by decide +kernel) (Nat.le_of_ble_eq_true rfl) ?_
  intro pg en s mi args below meth co ls fx hs hr hlk hxt hin hl
  subst hs
  obtain ⟨hx, hb, hml, hown, hts⟩ := id fx.1
  have hS : va_S (fun _ : Nat => False) s.heap s.heap [] := va_S.rf
  have hAB : ∀ x : Nat, (fun _ : Nat => False) x → θ.2.2.2 ≤ x := fun q h => h.elim
  have hz0 := hz
  have hj0 := hj
  have hK := sz_K fx.2 hz
  have hz2 := hz.2.1
  refine lv_aload_n hx hb dJ6_intValue_8abf5_0 rfl (lv_at hl 0 rfl) ?_
  have hbx := hj0.box (v := v) (by omega)
  rw [← h_0] at hbx
  refine r_getOF hx hb fx.2 hbx.2 hown (hts _ k1349) (fun _ h => h) dJ6_intValue_8abf5_1 ?_
  first | exact e_i hx hb hr hlk hS dJ6_intValue_8abf5_4 (by first | exact Nat.le_of_ble_eq_true rfl | ((try dsimp only); omega)) (by first | exact Nat.le_of_ble_eq_true rfl | ((try dsimp only); omega)) ⟨ex_i (by omega), rfl⟩ | exact (show False by omega).elim

set_option maxHeartbeats 4000000 in
set_option maxRecDepth 100000 in
theorem jm_checkIndex0 (θ : TH) (l : Launch) (S0 : State) (H : Heap) (hz : SZ θ S0 H) (hj : SJ θ S0 H) (x1 : Int) (x2 : Int) (h_0 : 0 ≤ x1 ∧ x1 < x2 ∧ x2 ≤ 1000) : CT l yJ3_checkIndex_8e157 cJ3_checkIndex_8e157 3 (some .int) 0 0 0 0 [.int (iI x1), .int (iI x2), .null] S0 H (fun v9 H1 => v9 = some (.int (iI x1)) ∧ H1 = H) (fun _ _ => False) (fun _ : Nat => False) := by
  refine ct_of (by decide +kernel) (Nat.le_of_ble_eq_true rfl) ?_
  intro pg en s mi args below meth co ls fx hs hr hlk hxt hin hl
  subst hs
  obtain ⟨hx, hb, hml, hown, hts⟩ := id fx.1
  have hS : va_S (fun _ : Nat => False) s.heap s.heap [] := va_S.rf
  have hAB : ∀ x : Nat, (fun _ : Nat => False) x → θ.2.2.2 ≤ x := fun q h => h.elim
  have hz0 := hz
  have hj0 := hj
  have hK := sz_K fx.2 hz
  have hz2 := hz.2.1
  refine lv_iload_n hx hb dJ3_checkIndex_8e157_0 rfl (lv_at hl 0 rfl) ?_
  refine q_ilt (tgt := 9) hx hb dJ3_checkIndex_8e157_1 (by decide) (by omega) (fun c1 => ?_) (fun c1 => ?_)
  · exact (show False by omega).elim
  · refine lv_iload_n hx hb dJ3_checkIndex_8e157_4 rfl (lv_at hl 0 rfl) ?_
    refine lv_iload_n hx hb dJ3_checkIndex_8e157_5 rfl (lv_at hl 1 rfl) ?_
    refine q_clt (tgt := 16) hx hb dJ3_checkIndex_8e157_6 (by decide) (by omega) (by omega) (fun c2 => ?_) (fun c2 => ?_)
    · refine lv_iload_n hx hb dJ3_checkIndex_8e157_16 rfl (lv_at hl 0 rfl) ?_
      first | exact e_i hx hb hr hlk hS dJ3_checkIndex_8e157_17 (by first | exact Nat.le_of_ble_eq_true rfl | ((try dsimp only); omega)) (by first | exact Nat.le_of_ble_eq_true rfl | ((try dsimp only); omega)) ⟨ex_i (by omega), rfl⟩ | exact (show False by omega).elim
    · exact (show False by omega).elim

set_option maxHeartbeats 4000000 in
set_option maxRecDepth 100000 in
theorem jm_checkIndex (θ : TH) (l : Launch) (S0 : State) (H : Heap) (hz : SZ θ S0 H) (hj : SJ θ S0 H) (x1 : Int) (x2 : Int) (h_0 : 0 ≤ x1 ∧ x1 < x2 ∧ x2 ≤ 1000) : CT l yJ15_checkIndex_7cf53 cJ15_checkIndex_7cf53 2 (some .int) 1 22 0 0 [.int (iI x1), .int (iI x2)] S0 H (fun v9 H1 => v9 = some (.int (iI x1)) ∧ H1 = H) (fun _ _ => False) (fun _ : Nat => False) := by
  refine ct_of (by decide +kernel) (Nat.le_of_ble_eq_true rfl) ?_
  intro pg en s mi args below meth co ls fx hs hr hlk hxt hin hl
  subst hs
  obtain ⟨hx, hb, hml, hown, hts⟩ := id fx.1
  have hS : va_S (fun _ : Nat => False) s.heap s.heap [] := va_S.rf
  have hAB : ∀ x : Nat, (fun _ : Nat => False) x → θ.2.2.2 ≤ x := fun q h => h.elim
  have hz0 := hz
  have hj0 := hj
  have hK := sz_K fx.2 hz
  have hz2 := hz.2.1
  refine lv_iload_n hx hb dJ15_checkIndex_7cf53_0 rfl (lv_at hl 0 rfl) ?_
  refine lv_iload_n hx hb dJ15_checkIndex_7cf53_1 rfl (lv_at hl 1 rfl) ?_
  refine lv_null hx hb dJ15_checkIndex_7cf53_2 ?_
  refine c_Sr (As := [.int (iI x1), .int (iI x2), .null]) (rest := []) (r := some (.int (iI x1))) (st1 := [.int (iI x1)]) fx hl (jm_checkIndex0 θ l S0 _ hz hj x1 x2 (by omega)) dJ15_checkIndex_7cf53_3 k1405 k617 k26 k618 hd_J3_checkIndex_8e157 rfl rfl ⟨by decide, by decide⟩ (Nat.le_of_ble_eq_true rfl) ⟨by (try dsimp only); omega, by (try dsimp only); omega⟩ hS (fun x hx => by first | exact hx.elim | ((try dsimp only at hx ⊢); omega)) (fun H1 locs hpH1 hsz0H1 hk0H1 hS => ?_)
  obtain rfl := hpH1.symm
  first | exact e_i hx hb hr hlk hS dJ15_checkIndex_7cf53_6 (by first | exact Nat.le_of_ble_eq_true rfl | ((try dsimp only); omega)) (by first | exact Nat.le_of_ble_eq_true rfl | ((try dsimp only); omega)) ⟨ex_i (by omega), rfl⟩ | exact (show False by omega).elim

set_option maxHeartbeats 4000000 in
set_option maxRecDepth 100000 in
theorem jm_elementData (θ : TH) (l : Launch) (S0 : State) (H : Heap) (hz : SZ θ S0 H) (hj : SJ θ S0 H) (L : Nat) (x1 : Int) (d : Nat) (cap : Nat) (k : Int) (m : Int) (g : Nat → Option Nat) (y : Nat) (h_q0 : OB θ H L 6 [.int (iI m), .ref d, .int (iI k)]) (h_q1 : AO θ H d cap g) (h_0 : 0 ≤ x1 ∧ x1 < cap) (h_1 : cap ≤ 1000) (h_2 : g x1.toNat = some y) : CT l yJx4a65c_elementData_915e3 cJx4a65c_elementData_915e3 2 (some (.object "java/lang/Object")) 0 0 0 0 [.ref L, .int (iI x1)] S0 H (fun v9 H1 => v9 = some (.ref y) ∧ H1 = H) (fun _ _ => False) (fun _ : Nat => False) := by
  refine ct_of (by decide +kernel) (Nat.le_of_ble_eq_true rfl) ?_
  intro pg en s mi args below meth co ls fx hs hr hlk hxt hin hl
  subst hs
  obtain ⟨hx, hb, hml, hown, hts⟩ := id fx.1
  have hS : va_S (fun _ : Nat => False) s.heap s.heap [] := va_S.rf
  have hAB : ∀ x : Nat, (fun _ : Nat => False) x → θ.2.2.2 ≤ x := fun q h => h.elim
  have hz0 := hz
  have hj0 := hj
  have hK := sz_K fx.2 hz
  have hz2 := hz.2.1
  have lh_q0 := h_q0.lt
  have lh_q1 := h_q1.lt
  refine lv_aload_n hx hb dJx4a65c_elementData_915e3_0 rfl (lv_at hl 0 rfl) ?_
  refine r_get (θ := θ) (C := RJx4a65c) (T := TJx4a65c) (N := 3) (ci := 6) hx hb hts gwJx4a65c hown hK h_q0 rfl 1 (by decide) k1318 (fun _ h => h) (v := .ref d) rfl dJx4a65c_elementData_915e3_1 ?_
  refine lv_iload_n hx hb dJx4a65c_elementData_915e3_4 rfl (lv_at hl 1 rfl) ?_
  refine r_oald (θ := θ) (y := y) (i := x1) hx hb hK h_q1 (by omega) (by omega) h_2 dJx4a65c_elementData_915e3_5 ?_
  first | exact e_a hx hb hr (by first | exact Or.inl ⟨_, rfl⟩ | exact Or.inr ⟨_, rfl⟩) hlk hS dJx4a65c_elementData_915e3_6 (by first | exact Nat.le_of_ble_eq_true rfl | ((try dsimp only); omega)) (by first | exact Nat.le_of_ble_eq_true rfl | ((try dsimp only); omega)) ⟨by first | rfl | (subst_vars; rfl) | (rw [show y = y from by omega]), rfl⟩ | exact (show False by omega).elim

set_option maxHeartbeats 4000000 in
set_option maxRecDepth 100000 in
theorem jm_get (θ : TH) (l : Launch) (S0 : State) (H : Heap) (hz : SZ θ S0 H) (hj : SJ θ S0 H) (L : Nat) (x1 : Int) (d : Nat) (cap : Nat) (k : Int) (m : Int) (g : Nat → Option Nat) (y : Nat) (h_q0 : OB θ H L 6 [.int (iI m), .ref d, .int (iI k)]) (h_q1 : AO θ H d cap g) (h_0 : 0 ≤ x1 ∧ x1 < k ∧ k ≤ cap) (h_1 : cap ≤ 1000) (h_2 : g x1.toNat = some y) : CT l yJx4a65c_get_915e3 cJx4a65c_get_915e3 2 (some (.object "java/lang/Object")) 2 43 0 0 [.ref L, .int (iI x1)] S0 H (fun v9 H1 => v9 = some (.ref y) ∧ H1 = H) (fun _ _ => False) (fun _ : Nat => False) := by
  refine ct_of (by decide +kernel) (Nat.le_of_ble_eq_true rfl) ?_
  intro pg en s mi args below meth co ls fx hs hr hlk hxt hin hl
  subst hs
  obtain ⟨hx, hb, hml, hown, hts⟩ := id fx.1
  have hS : va_S (fun _ : Nat => False) s.heap s.heap [] := va_S.rf
  have hAB : ∀ x : Nat, (fun _ : Nat => False) x → θ.2.2.2 ≤ x := fun q h => h.elim
  have hz0 := hz
  have hj0 := hj
  have hK := sz_K fx.2 hz
  have hz2 := hz.2.1
  have lh_q0 := h_q0.lt
  have lh_q1 := h_q1.lt
  refine lv_iload_n hx hb dJx4a65c_get_915e3_0 rfl (lv_at hl 1 rfl) ?_
  refine lv_aload_n hx hb dJx4a65c_get_915e3_1 rfl (lv_at hl 0 rfl) ?_
  refine r_get (θ := θ) (C := RJx4a65c) (T := TJx4a65c) (N := 3) (ci := 6) hx hb hts gwJx4a65c hown hK h_q0 rfl 2 (by decide) k1321 (fun _ h => h) (v := .int (iI k)) rfl dJx4a65c_get_915e3_2 ?_
  refine c_Sr (As := [.int (iI x1), .int (iI k)]) (rest := []) (r := some (.int (iI x1))) (st1 := [.int (iI x1)]) fx hl (jm_checkIndex θ l S0 _ hz hj x1 k (by omega)) dJx4a65c_get_915e3_5 k1402 k1403 k25 k1404 hd_J15_checkIndex_7cf53 rfl rfl ⟨by decide, by decide⟩ (Nat.le_of_ble_eq_true rfl) ⟨by (try dsimp only); omega, by (try dsimp only); omega⟩ hS (fun x hx => by first | exact hx.elim | ((try dsimp only at hx ⊢); omega)) (fun H1 locs hpH1 hsz0H1 hk0H1 hS => ?_)
  obtain rfl := hpH1.symm
  refine lv_pop hx hb dJx4a65c_get_915e3_8 rfl ?_
  refine lv_aload_n hx hb dJx4a65c_get_915e3_9 rfl (lv_at hl 0 rfl) ?_
  refine lv_iload_n hx hb dJx4a65c_get_915e3_10 rfl (lv_at hl 1 rfl) ?_
  refine c_Vr (C := "java/util/ArrayList") (As := [.int (iI x1)]) (rest := []) (r := some (.ref y)) (st1 := [.ref y]) fx hl (jm_elementData θ l S0 _ hz hj L x1 d cap k m g y h_q0 h_q1 (by omega) (by omega) (by exact h_2)) (ob_recv hK h_q0 rfl) dJx4a65c_get_915e3_11 k1406 k1407 k1408 k18 k1409 hd_Jx4a65c_elementData_915e3 rfl rfl ⟨by decide, by decide⟩ (Nat.le_of_ble_eq_true rfl) ⟨by (try dsimp only); omega, by (try dsimp only); omega⟩ hS (fun x hx => by first | exact hx.elim | ((try dsimp only at hx ⊢); omega)) (fun H2 locs hpH2 hsz0H2 hk0H2 hS => ?_)
  obtain rfl := hpH2.symm
  first | exact e_a hx hb hr (by first | exact Or.inl ⟨_, rfl⟩ | exact Or.inr ⟨_, rfl⟩) hlk hS dJx4a65c_get_915e3_14 (by first | exact Nat.le_of_ble_eq_true rfl | ((try dsimp only); omega)) (by first | exact Nat.le_of_ble_eq_true rfl | ((try dsimp only); omega)) ⟨by first | rfl | (subst_vars; rfl) | (rw [show y = y from by omega]), rfl⟩ | exact (show False by omega).elim

set_option maxHeartbeats 4000000 in
set_option maxRecDepth 100000 in
theorem jm_newLength (θ : TH) (l : Launch) (S0 : State) (H : Heap) (hz : SZ θ S0 H) (hj : SJ θ S0 H) (x1 : Int) (x2 : Int) (x3 : Int) (nc : Int) (h_0 : 0 ≤ x1 ∧ x1 ≤ 1000 ∧ 1 ≤ x2 ∧ x2 ≤ 1000 ∧ 0 ≤ x3 ∧ x3 ≤ 1000) (h_1 : nc = x1 + (if x2 ≤ x3 then x3 else x2)) : CT l yJ8_newLength_cabcc cJ8_newLength_cabcc 4 (some .int) 1 21 0 0 [.int (iI x1), .int (iI x2), .int (iI x3)] S0 H (fun v9 H1 => v9 = some (.int (iI nc)) ∧ H1 = H) (fun _ _ => False) (fun _ : Nat => False) := by
  refine ct_of (by decide +kernel) (Nat.le_of_ble_eq_true rfl) ?_
  intro pg en s mi args below meth co ls fx hs hr hlk hxt hin hl
  subst hs
  obtain ⟨hx, hb, hml, hown, hts⟩ := id fx.1
  have hS : va_S (fun _ : Nat => False) s.heap s.heap [] := va_S.rf
  have hAB : ∀ x : Nat, (fun _ : Nat => False) x → θ.2.2.2 ≤ x := fun q h => h.elim
  have hz0 := hz
  have hj0 := hj
  have hK := sz_K fx.2 hz
  have hz2 := hz.2.1
  have hnc : x1 + 1 ≤ nc ∧ nc ≤ 2000 := by rw [h_1]; split <;> omega
  refine lv_iload_n hx hb dJ8_newLength_cabcc_0 rfl (lv_at hl 0 rfl) ?_
  refine lv_iload_n hx hb dJ8_newLength_cabcc_1 rfl (lv_at hl 1 rfl) ?_
  refine lv_iload_n hx hb dJ8_newLength_cabcc_2 rfl (lv_at hl 2 rfl) ?_
  refine c_P (As := [.int (iI x2), .int (iI x3)]) (rest := [.int (iI x1)]) fx hl (pm_max l x2 x3 (by omega) (by omega)) dJ8_newLength_cabcc_3 k361 k362 k14 k363 hd_J9_max_7cf53 rfl ⟨by decide, by decide⟩ (Nat.le_of_ble_eq_true rfl) ⟨by (try dsimp only); omega, by (try dsimp only); omega⟩ ?_
  refine q_nm (fun z1 ez1 => ?_)
  refine q_add hx hb dJ8_newLength_cabcc_6 ?_
  refine q_as (nc) (by first | omega | (subst_vars; omega) | (subst_vars; split <;> split <;> omega) | (rw [h_1]; subst_vars; rfl) | (rw [h_1]; subst_vars; split <;> omega)) ?_
  refine lv_istore_n (lv' := [(3, .int (iI nc)), (0, .int (iI x1)), (1, .int (iI x2)), (2, .int (iI x3))]) hx hb dJ8_newLength_cabcc_7 rfl hl (by decide) rfl (fun ls hl => ?_)
  refine q_con hx hb dJ8_newLength_cabcc_8 ?_
  refine lv_iload_n hx hb dJ8_newLength_cabcc_9 rfl (lv_at hl 0 rfl) ?_
  refine q_cge (tgt := 21) hx hb dJ8_newLength_cabcc_10 (by decide) (by omega) (by omega) (fun c2 => ?_) (fun c2 => ?_)
  · exact (show False by omega).elim
  · refine lv_iload_n hx hb dJ8_newLength_cabcc_13 rfl (lv_at hl 0 rfl) ?_
    refine q_ldc (n := 2147483639) hx hb hown (hts _ k364) (by decide) dJ8_newLength_cabcc_14 ?_
    refine q_cgt (tgt := 21) hx hb dJ8_newLength_cabcc_16 (by decide) (by omega) (by omega) (fun c3 => ?_) (fun c3 => ?_)
    · exact (show False by omega).elim
    · refine lv_iload_n hx hb dJ8_newLength_cabcc_19 rfl (lv_at hl 0 rfl) ?_
      first | exact e_i hx hb hr hlk hS dJ8_newLength_cabcc_20 (by first | exact Nat.le_of_ble_eq_true rfl | ((try dsimp only); omega)) (by first | exact Nat.le_of_ble_eq_true rfl | ((try dsimp only); omega)) ⟨ex_i (by omega), rfl⟩ | exact (show False by omega).elim

set_option maxHeartbeats 4000000 in
set_option maxRecDepth 100000 in
theorem jm_copyOf3 (θ : TH) (l : Launch) (S0 : State) (H : Heap) (hz : SZ θ S0 H) (hj : SJ θ S0 H) (q : Nat) (x1 : Int) (mj : Nat) (cap : Nat) (g : Nat → Option Nat) (h_q0 : AO θ H q cap g) (h_0 : cap ≤ x1 ∧ x1 ≤ 100) (h_1 : ∀ i : Nat, (i : Int) < cap → ∀ y : Nat, g i = some y → ∃ v : Int, -128 ≤ v ∧ v ≤ 127 ∧ y = bx θ v) (h_2 : va_Mi "[Ljava/lang/Object;" mj S0) : CT l yJ7_copyOf_6403c cJ7_copyOf_6403c 4 (some (.array (.object "java/lang/Object"))) 1 60 1 100 [.ref q, .int (iI x1), .ref mj] S0 H (fun v9 H1 => v9 = some (.ref H.size) ∧ H1.size = H.size + 1 ∧ AO θ H1 H.size x1.toNat (fun j : Nat => if (j : Int) < cap then g j else none)) (fun _ _ => False) (fun x : Nat => H.size ≤ x) := by
  refine ct_of (by decide +kernel) (Nat.le_of_ble_eq_true rfl) ?_
  intro pg en s mi args below meth co ls fx hs hr hlk hxt hin hl
  subst hs
  obtain ⟨hx, hb, hml, hown, hts⟩ := id fx.1
  have hS : va_S (fun x : Nat => s.heap.size ≤ x) s.heap s.heap [] := va_S.rf
  have hAB : ∀ x : Nat, (fun x : Nat => s.heap.size ≤ x) x → θ.2.2.2 ≤ x := fun x hx => by have hz2 := hz.2.1; (try dsimp only at hx); omega
  have hz0 := hz
  have hj0 := hj
  have hK := sz_K fx.2 hz
  have hz2 := hz.2.1
  have lh_q0 := h_q0.lt
  refine lv_aload_n hx hb dJ7_copyOf_6403c_0 rfl (lv_at hl 2 rfl) ?_
  refine va_ldcM hx hb hown (hts _ k1393) (va_Mi.moved fx.2.alike h_2) dJ7_copyOf_6403c_1 ?_
  refine lv_acmp_ne (tgt := 13) (rx := some mj) (ry := some mj) hx hb dJ7_copyOf_6403c_3 (by decide) (fun h => absurd rfl h) (fun _ => ?_)
  refine lv_iload_n hx hb dJ7_copyOf_6403c_6 rfl (lv_at hl 1 rfl) ?_
  refine r_onew (θ := θ) hx hb hts fx.2 hown k1395 hj0.1.2.1 hK hS (n := x1) (by omega) (by (try dsimp only); omega) (by (try dsimp only); omega) dJ7_copyOf_6403c_7 (fun H1 hnH1 hszH1 hkH1 hS => ?_)
  have h_q0_H1 := h_q0.kept (hkH1 _ h_q0.lt)
  have hzH1 := hz0.at hAB hS
  have hjH1 := hj0.at hAB hS
  have lnH1 := hnH1.lt
  refine lv_goto (tgt := 24) hx hb dJ7_copyOf_6403c_10 (by decide) ?_
  refine lv_astore_n (lv' := [(3, .ref s.heap.size), (0, .ref q), (1, .int (iI x1)), (2, .ref mj)]) hx hb dJ7_copyOf_6403c_24 rfl hl (by decide) rfl (fun ls hl => ?_)
  refine lv_aload_n hx hb dJ7_copyOf_6403c_25 rfl (lv_at hl 1 rfl) ?_
  refine q_con hx hb dJ7_copyOf_6403c_26 ?_
  refine lv_aload_n hx hb dJ7_copyOf_6403c_27 rfl (lv_at hl 0 rfl) ?_
  refine q_con hx hb dJ7_copyOf_6403c_28 ?_
  refine lv_aload_n hx hb dJ7_copyOf_6403c_29 rfl (lv_at hl 1 rfl) ?_
  refine r_olen (θ := θ) hx hb hK h_q0_H1 dJ7_copyOf_6403c_30 ?_
  refine lv_iload_n hx hb dJ7_copyOf_6403c_31 rfl (lv_at hl 2 rfl) ?_
  refine c_P (As := [.int (iI ((cap : Nat) : Int)), .int (iI x1)]) (rest := [.int (iI 0), .ref s.heap.size, .int (iI 0), .ref q]) fx hl (pm_min l ((cap : Nat) : Int) x1 (by omega) (by omega)) dJ7_copyOf_6403c_32 k379 k135 k14 k136 hd_J9_min_7cf53 rfl ⟨by decide, by decide⟩ (Nat.le_of_ble_eq_true rfl) ⟨by (try dsimp only); omega, by (try dsimp only); omega⟩ ?_
  refine q_nm (fun z2 ez2 => ?_)
  refine q_as ((cap : Int)) (by first | omega | (subst_vars; first | (rw [if_pos (by omega)]) | (split <;> omega))) ?_
  refine r_ocopy (θ := θ) (a := s.heap.size) (n := (cap : Int)) hx hb (hml.trans hl.1.symm) hts hown k380 k382 k381 k24 hK h_q0_H1 hnH1 (by first | ((try dsimp only); omega) | dsimp only) hS (by omega) (by omega) (by omega) (by omega) (fun i hi y hy => by obtain ⟨v, h1, h2, rfl⟩ := h_1 i (by omega) y hy; exact bx_any fx.2 hz0 (hjH1.box ⟨h1, h2⟩).1) (Nat.le_of_ble_eq_true rfl) (Nat.le_of_ble_eq_true rfl) dJ7_copyOf_6403c_35 (fun H3 locs hnH3 hszH3 hkH3 hS => ?_)
  have h_q0_H3 := h_q0_H1.kept (hkH3 _ (by omega))
  have hzH3 := hz0.at hAB hS
  have hjH3 := hj0.at hAB hS
  have lnH3 := hnH3.lt
  refine lv_aload_n hx hb dJ7_copyOf_6403c_38 rfl (lv_at hl 0 rfl) ?_
  first | exact e_a hx hb hr (by first | exact Or.inl ⟨_, rfl⟩ | exact Or.inr ⟨_, rfl⟩) hlk hS dJ7_copyOf_6403c_39 (by first | exact Nat.le_of_ble_eq_true rfl | ((try dsimp only); omega)) (by first | exact Nat.le_of_ble_eq_true rfl | ((try dsimp only); omega)) ⟨by first | rfl | (subst_vars; rfl) | (rw [show s.heap.size = s.heap.size from by omega]), ⟨by omega, by first | exact hnH3 | (subst_vars; exact hnH3)⟩⟩ | exact (show False by omega).elim

set_option maxHeartbeats 4000000 in
set_option maxRecDepth 100000 in
theorem jm_copyOf2 (θ : TH) (l : Launch) (S0 : State) (H : Heap) (hz : SZ θ S0 H) (hj : SJ θ S0 H) (q : Nat) (x1 : Int) (cap : Nat) (g : Nat → Option Nat) (h_q0 : AO θ H q cap g) (h_0 : cap ≤ x1 ∧ x1 ≤ 100) (h_1 : ∀ i : Nat, (i : Int) < cap → ∀ y : Nat, g i = some y → ∃ v : Int, -128 ≤ v ∧ v ≤ 127 ∧ y = bx θ v) : CT l yJ7_copyOf_1904c cJ7_copyOf_1904c 2 (some (.array (.object "java/lang/Object"))) 2 83 1 100 [.ref q, .int (iI x1)] S0 H (fun v9 H1 => v9 = some (.ref H.size) ∧ H1.size = H.size + 1 ∧ AO θ H1 H.size x1.toNat (fun j : Nat => if (j : Int) < cap then g j else none)) (fun _ _ => False) (fun x : Nat => H.size ≤ x) := by
  refine ct_of (by decide +kernel) (Nat.le_of_ble_eq_true rfl) ?_
  intro pg en s mi args below meth co ls fx hs hr hlk hxt hin hl
  subst hs
  obtain ⟨hx, hb, hml, hown, hts⟩ := id fx.1
  have hS : va_S (fun x : Nat => s.heap.size ≤ x) s.heap s.heap [] := va_S.rf
  have hAB : ∀ x : Nat, (fun x : Nat => s.heap.size ≤ x) x → θ.2.2.2 ≤ x := fun x hx => by have hz2 := hz.2.1; (try dsimp only at hx); omega
  have hz0 := hz
  have hj0 := hj
  have hK := sz_K fx.2 hz
  have hz2 := hz.2.1
  have lh_q0 := h_q0.lt
  refine lv_aload_n hx hb dJ7_copyOf_1904c_0 rfl (lv_at hl 0 rfl) ?_
  refine lv_iload_n hx hb dJ7_copyOf_1904c_1 rfl (lv_at hl 1 rfl) ?_
  refine lv_aload_n hx hb dJ7_copyOf_1904c_2 rfl (lv_at hl 0 rfl) ?_
  obtain ⟨m1, hm1⟩ := hj0.1.2.2.2.1
  refine va_getC (C := "[Ljava/lang/Object;") hx hb (hml.trans hl.1.symm) hown (hts _ k1373) (va_Dc.use (va_Dc.moved fx.2.alike hj0.1.2.2.1)) (hts _ k1656) (hts _ k1374) (hts _ k1389) (va_Mi.moved fx.2.alike hm1) (ao_recv hK h_q0) (Nat.le_of_ble_eq_true rfl) (Nat.le_of_ble_eq_true rfl) dJ7_copyOf_1904c_3 ?_
  refine c_Sr (As := [.ref q, .int (iI x1), .ref m1]) (rest := []) (r := some (.ref s.heap.size)) (st1 := [.ref s.heap.size]) fx hl (jm_copyOf3 θ l S0 _ hz hj q x1 m1 cap g h_q0 (by omega) (by assumption) (by assumption)) dJ7_copyOf_1904c_6 k1390 k1391 k23 k1392 hd_J7_copyOf_6403c rfl rfl ⟨by decide, by decide⟩ (Nat.le_of_ble_eq_true rfl) ⟨by (try dsimp only); omega, by (try dsimp only); omega⟩ hS (fun x hx => by first | exact hx.elim | ((try dsimp only at hx ⊢); omega)) (fun H2 locs hpH2 hsz0H2 hk0H2 hS => ?_)
  obtain ⟨hszH2, hoH2_0⟩ := hpH2
  have hkH2 : ∀ q : Nat, q < (s.heap).size → H2[q]? = (s.heap)[q]? := fun q hq => hk0H2 q hq (Nat.not_le.mpr hq)
  have h_q0_H2 := h_q0.kept (hkH2 _ h_q0.lt)
  have lhoH2_0 := hoH2_0.lt
  have hzH2 := hz0.at hAB hS
  have hjH2 := hj0.at hAB hS
  first | exact e_a hx hb hr (by first | exact Or.inl ⟨_, rfl⟩ | exact Or.inr ⟨_, rfl⟩) hlk hS dJ7_copyOf_1904c_9 (by first | exact Nat.le_of_ble_eq_true rfl | ((try dsimp only); omega)) (by first | exact Nat.le_of_ble_eq_true rfl | ((try dsimp only); omega)) ⟨by first | rfl | (subst_vars; rfl) | (rw [show s.heap.size = s.heap.size from by omega]), ⟨by omega, by first | exact hoH2_0 | (subst_vars; exact hoH2_0)⟩⟩ | exact (show False by omega).elim

set_option maxHeartbeats 4000000 in
set_option maxRecDepth 100000 in
theorem jm_growN (θ : TH) (l : Launch) (S0 : State) (H : Heap) (hz : SZ θ S0 H) (hj : SJ θ S0 H) (L : Nat) (x1 : Int) (d : Nat) (cap : Nat) (k : Int) (m : Int) (g : Nat → Option Nat) (nc : Int) (h_q0 : OB θ H L 6 [.int (iI m), .ref d, .int (iI k)]) (h_q1 : AO θ H d cap g) (h_0 : 2 ≤ cap ∧ cap ≤ 60) (h_1 : x1 = cap + 1) (h_2 : nc = cap + cap / 2) (h_3 : ∀ i : Nat, (i : Int) < cap → ∀ y : Nat, g i = some y → ∃ v : Int, -128 ≤ v ∧ v ≤ 127 ∧ y = bx θ v) (h_4 : L ≠ d) (h_5 : θ.2.2.2 ≤ L) : CT l yJx4a65c_grow_92f84 cJx4a65c_grow_92f84 4 (some (.array (.object "java/lang/Object"))) 3 104 1 100 [.ref L, .int (iI x1)] S0 H (fun v9 H1 => v9 = some (.ref H.size) ∧ H1.size = H.size + 1 ∧ OB θ H1 L 6 [.int (iI m), .ref H.size, .int (iI k)] ∧ AO θ H1 H.size nc.toNat (fun j : Nat => if (j : Int) < cap then g j else none)) (fun _ _ => False) (fun x : Nat => x = L ∨ H.size ≤ x) := by
  refine ct_of (by decide +kernel) (Nat.le_of_ble_eq_true rfl) ?_
  intro pg en s mi args below meth co ls fx hs hr hlk hxt hin hl
  subst hs
  obtain ⟨hx, hb, hml, hown, hts⟩ := id fx.1
  have hS : va_S (fun x : Nat => x = L ∨ s.heap.size ≤ x) s.heap s.heap [] := va_S.rf
  have hAB : ∀ x : Nat, (fun x : Nat => x = L ∨ s.heap.size ≤ x) x → θ.2.2.2 ≤ x := fun x hx => by have hz2 := hz.2.1; (try dsimp only at hx); omega
  have hz0 := hz
  have hj0 := hj
  have hK := sz_K fx.2 hz
  have hz2 := hz.2.1
  have lh_q0 := h_q0.lt
  have lh_q1 := h_q1.lt
  refine lv_aload_n hx hb dJx4a65c_grow_92f84_0 rfl (lv_at hl 0 rfl) ?_
  refine r_get (θ := θ) (C := RJx4a65c) (T := TJx4a65c) (N := 3) (ci := 6) hx hb hts gwJx4a65c hown hK h_q0 rfl 1 (by decide) k1318 (fun _ h => h) (v := .ref d) rfl dJx4a65c_grow_92f84_1 ?_
  refine r_olen (θ := θ) hx hb hK h_q1 dJx4a65c_grow_92f84_4 ?_
  refine q_nm (fun z1 ez1 => ?_)
  refine lv_istore_n (lv' := [(2, .int (iI z1)), (0, .ref L), (1, .int (iI x1))]) hx hb dJx4a65c_grow_92f84_5 rfl hl (by decide) rfl (fun ls hl => ?_)
  refine lv_iload_n hx hb dJx4a65c_grow_92f84_6 rfl (lv_at hl 0 rfl) ?_
  refine q_igt (tgt := 20) hx hb dJx4a65c_grow_92f84_7 (by decide) (by omega) (fun c2 => ?_) (fun c2 => ?_)
  · refine lv_iload_n hx hb dJx4a65c_grow_92f84_20 rfl (lv_at hl 0 rfl) ?_
    refine lv_iload_n hx hb dJx4a65c_grow_92f84_21 rfl (lv_at hl 2 rfl) ?_
    refine lv_iload_n hx hb dJx4a65c_grow_92f84_22 rfl (lv_at hl 0 rfl) ?_
    refine q_sub hx hb dJx4a65c_grow_92f84_23 ?_
    refine lv_iload_n hx hb dJx4a65c_grow_92f84_24 rfl (lv_at hl 0 rfl) ?_
    refine q_con hx hb dJx4a65c_grow_92f84_25 ?_
    refine q_shr1 hx hb (by omega) dJx4a65c_grow_92f84_26 ?_
    refine c_Sr (As := [.int (iI z1), .int (iI (x1 - z1)), .int (iI (z1 / 2))]) (rest := []) (r := some (.int (iI nc))) (st1 := [.int (iI nc)]) fx hl (jm_newLength θ l S0 _ hz hj z1 (x1 - z1) (z1 / 2) nc (by omega) (by (rw [show (if _ ≤ _ then _ else _ : Int) = _ from if_pos (by omega)]; omega))) dJx4a65c_grow_92f84_27 k1369 k359 k22 k360 hd_J8_newLength_cabcc rfl rfl ⟨by decide, by decide⟩ (Nat.le_of_ble_eq_true rfl) ⟨by (try dsimp only); omega, by (try dsimp only); omega⟩ hS (fun x hx => by first | exact hx.elim | ((try dsimp only at hx ⊢); omega)) (fun H3 locs hpH3 hsz0H3 hk0H3 hS => ?_)
    obtain rfl := hpH3.symm
    refine lv_istore_n (lv' := [(3, .int (iI nc)), (2, .int (iI z1)), (0, .ref L), (1, .int (iI x1))]) hx hb dJx4a65c_grow_92f84_30 rfl hl (by decide) rfl (fun ls hl => ?_)
    refine lv_aload_n hx hb dJx4a65c_grow_92f84_31 rfl (lv_at hl 2 rfl) ?_
    refine lv_aload_n hx hb dJx4a65c_grow_92f84_32 rfl (lv_at hl 2 rfl) ?_
    refine r_get (θ := θ) (C := RJx4a65c) (T := TJx4a65c) (N := 3) (ci := 6) hx hb hts gwJx4a65c hown hK h_q0 rfl 1 (by decide) k1318 (fun _ h => h) (v := .ref d) rfl dJx4a65c_grow_92f84_33 ?_
    refine lv_iload_n hx hb dJx4a65c_grow_92f84_36 rfl (lv_at hl 0 rfl) ?_
    refine c_Sr (As := [.ref d, .int (iI nc)]) (rest := [.ref L]) (r := some (.ref s.heap.size)) (st1 := [.ref s.heap.size, .ref L]) fx hl (jm_copyOf2 θ l S0 _ hz hj d nc cap g h_q1 (by omega) (by assumption)) dJx4a65c_grow_92f84_37 k1370 k1371 k23 k1372 hd_J7_copyOf_1904c rfl rfl ⟨by decide, by decide⟩ (Nat.le_of_ble_eq_true rfl) ⟨by (try dsimp only); omega, by (try dsimp only); omega⟩ hS (fun x hx => by first | exact hx.elim | ((try dsimp only at hx ⊢); omega)) (fun H4 locs hpH4 hsz0H4 hk0H4 hS => ?_)
    obtain ⟨hszH4, hoH4_0⟩ := hpH4
    have hkH4 : ∀ q : Nat, q < (s.heap).size → H4[q]? = (s.heap)[q]? := fun q hq => hk0H4 q hq (Nat.not_le.mpr hq)
    have h_q0_H4 := h_q0.kept (hkH4 _ h_q0.lt)
    have h_q1_H4 := h_q1.kept (hkH4 _ h_q1.lt)
    have lhoH4_0 := hoH4_0.lt
    have hzH4 := hz0.at hAB hS
    have hjH4 := hj0.at hAB hS
    refine lv_dup_x1 hx hb dJx4a65c_grow_92f84_40 rfl rfl ?_
    refine r_put (θ := θ) (C := RJx4a65c) (T := TJx4a65c) (N := 3) (ci := 6) (v := .ref s.heap.size) (ty := .array (.object "java/lang/Object")) hx hb hts gwJx4a65c tyJx4a65c tyJx4a65c_ok nmJx4a65c hown hK h_q0_H4 (by first | ((try dsimp only); omega) | dsimp only) hS rfl 1 (by decide) k1318 (fun _ h => h) rfl (by decide +kernel) rfl rfl (Nat.le_of_ble_eq_true rfl) dJx4a65c_grow_92f84_41 (fun H5 locs hqH5 hszH5 hkH5 hS => ?_)
    have hnH5 : OB θ H5 L 6 [.int (iI m), .ref s.heap.size, .int (iI k)] := hqH5
    have h_q1_H5 := h_q1_H4.kept (hkH5 _ (by omega))
    have hoH4_0_H5 := hoH4_0.kept (hkH5 _ (by omega))
    have hzH5 := hz0.at hAB hS
    have hjH5 := hj0.at hAB hS
    have lnH5 := hnH5.lt
    first | exact e_a hx hb hr (by first | exact Or.inl ⟨_, rfl⟩ | exact Or.inr ⟨_, rfl⟩) hlk hS dJx4a65c_grow_92f84_44 (by first | exact Nat.le_of_ble_eq_true rfl | ((try dsimp only); omega)) (by first | exact Nat.le_of_ble_eq_true rfl | ((try dsimp only); omega)) ⟨by first | rfl | (subst_vars; rfl) | (rw [show s.heap.size = s.heap.size from by omega]), ⟨by omega, by first | exact hnH5 | (subst_vars; exact hnH5), by first | exact hoH4_0_H5 | (subst_vars; exact hoH4_0_H5)⟩⟩ | exact (show False by omega).elim
  · exact (show False by omega).elim

set_option maxHeartbeats 4000000 in
set_option maxRecDepth 100000 in
theorem jm_growM (θ : TH) (l : Launch) (S0 : State) (H : Heap) (hz : SZ θ S0 H) (hj : SJ θ S0 H) (L : Nat) (d : Nat) (cap : Nat) (k : Int) (m : Int) (g : Nat → Option Nat) (nc : Int) (h_q0 : OB θ H L 6 [.int (iI m), .ref d, .int (iI k)]) (h_q1 : AO θ H d cap g) (h_0 : 2 ≤ cap ∧ cap ≤ 60) (h_1 : k = cap) (h_2 : nc = cap + cap / 2) (h_3 : ∀ i : Nat, (i : Int) < cap → ∀ y : Nat, g i = some y → ∃ v : Int, -128 ≤ v ∧ v ≤ 127 ∧ y = bx θ v) (h_4 : L ≠ d) (h_5 : θ.2.2.2 ≤ L) : CT l yJx4a65c_grow_d5877 cJx4a65c_grow_d5877 1 (some (.array (.object "java/lang/Object"))) 4 127 1 100 [.ref L] S0 H (fun v9 H1 => v9 = some (.ref H.size) ∧ H1.size = H.size + 1 ∧ OB θ H1 L 6 [.int (iI m), .ref H.size, .int (iI k)] ∧ AO θ H1 H.size nc.toNat (fun j : Nat => if (j : Int) < cap then g j else none)) (fun _ _ => False) (fun x : Nat => x = L ∨ H.size ≤ x) := by
  refine ct_of (by decide +kernel) (Nat.le_of_ble_eq_true rfl) ?_
  intro pg en s mi args below meth co ls fx hs hr hlk hxt hin hl
  subst hs
  obtain ⟨hx, hb, hml, hown, hts⟩ := id fx.1
  have hS : va_S (fun x : Nat => x = L ∨ s.heap.size ≤ x) s.heap s.heap [] := va_S.rf
  have hAB : ∀ x : Nat, (fun x : Nat => x = L ∨ s.heap.size ≤ x) x → θ.2.2.2 ≤ x := fun x hx => by have hz2 := hz.2.1; (try dsimp only at hx); omega
  have hz0 := hz
  have hj0 := hj
  have hK := sz_K fx.2 hz
  have hz2 := hz.2.1
  have lh_q0 := h_q0.lt
  have lh_q1 := h_q1.lt
  refine lv_aload_n hx hb dJx4a65c_grow_d5877_0 rfl (lv_at hl 0 rfl) ?_
  refine lv_aload_n hx hb dJx4a65c_grow_d5877_1 rfl (lv_at hl 0 rfl) ?_
  refine r_get (θ := θ) (C := RJx4a65c) (T := TJx4a65c) (N := 3) (ci := 6) hx hb hts gwJx4a65c hown hK h_q0 rfl 2 (by decide) k1321 (fun _ h => h) (v := .int (iI k)) rfl dJx4a65c_grow_d5877_2 ?_
  refine q_con hx hb dJx4a65c_grow_d5877_5 ?_
  refine q_add hx hb dJx4a65c_grow_d5877_6 ?_
  refine c_Vr (C := "java/util/ArrayList") (As := [.int (iI (k + 1))]) (rest := []) (r := some (.ref s.heap.size)) (st1 := [.ref s.heap.size]) fx hl (jm_growN θ l S0 _ hz hj L (k + 1) d cap k m g nc h_q0 h_q1 (by omega) (by omega) (by omega) (by assumption) (by omega) (by omega)) (ob_recv hK h_q0 rfl) dJx4a65c_grow_d5877_7 k1365 k1367 ks24 k18 k1368 hd_Jx4a65c_grow_92f84 rfl rfl ⟨by decide, by decide⟩ (Nat.le_of_ble_eq_true rfl) ⟨by (try dsimp only); omega, by (try dsimp only); omega⟩ hS (fun x hx => by first | exact hx.elim | ((try dsimp only at hx ⊢); omega)) (fun H1 locs hpH1 hsz0H1 hk0H1 hS => ?_)
  obtain ⟨hszH1, hoH1_0, hoH1_1⟩ := hpH1
  have hkH1 : ∀ q : Nat, q < (s.heap).size → ¬ (q = L) → H1[q]? = (s.heap)[q]? := fun q hq hn => hk0H1 q hq (by (try dsimp only); omega)
  have h_q1_H1 := h_q1.kept (hkH1 _ h_q1.lt (by omega))
  have lhoH1_0 := hoH1_0.lt
  have lhoH1_1 := hoH1_1.lt
  have hzH1 := hz0.at hAB hS
  have hjH1 := hj0.at hAB hS
  first | exact e_a hx hb hr (by first | exact Or.inl ⟨_, rfl⟩ | exact Or.inr ⟨_, rfl⟩) hlk hS dJx4a65c_grow_d5877_10 (by first | exact Nat.le_of_ble_eq_true rfl | ((try dsimp only); omega)) (by first | exact Nat.le_of_ble_eq_true rfl | ((try dsimp only); omega)) ⟨by first | rfl | (subst_vars; rfl) | (rw [show s.heap.size = s.heap.size from by omega]), ⟨by omega, by first | exact hoH1_0 | (subst_vars; exact hoH1_0), by first | exact hoH1_1 | (subst_vars; exact hoH1_1)⟩⟩ | exact (show False by omega).elim

set_option maxHeartbeats 4000000 in
set_option maxRecDepth 100000 in
theorem jm_grow0 (θ : TH) (l : Launch) (S0 : State) (H : Heap) (hz : SZ θ S0 H) (hj : SJ θ S0 H) (L : Nat) (x1 : Int) (m : Int) (k : Int) (h_q0 : OB θ H L 6 [.int (iI m), .ref (θ.2.2.1 23), .int (iI k)]) (h_0 : x1 = 1) (h_1 : θ.2.2.2 ≤ L) : CT l yJx4a65c_grow_92f84 cJx4a65c_grow_92f84 4 (some (.array (.object "java/lang/Object"))) 1 21 1 100 [.ref L, .int (iI x1)] S0 H (fun v9 H1 => v9 = some (.ref H.size) ∧ H1.size = H.size + 1 ∧ OB θ H1 L 6 [.int (iI m), .ref H.size, .int (iI k)] ∧ AO θ H1 H.size 10 (fun _ => none)) (fun _ _ => False) (fun x : Nat => x = L ∨ H.size ≤ x) := by
  refine ct_of (by decide +kernel) (Nat.le_of_ble_eq_true rfl) ?_
  intro pg en s mi args below meth co ls fx hs hr hlk hxt hin hl
  subst hs
  obtain ⟨hx, hb, hml, hown, hts⟩ := id fx.1
  have hS : va_S (fun x : Nat => x = L ∨ s.heap.size ≤ x) s.heap s.heap [] := va_S.rf
  have hAB : ∀ x : Nat, (fun x : Nat => x = L ∨ s.heap.size ≤ x) x → θ.2.2.2 ≤ x := fun x hx => by have hz2 := hz.2.1; (try dsimp only at hx); omega
  have hz0 := hz
  have hj0 := hj
  have hK := sz_K fx.2 hz
  have hz2 := hz.2.1
  have lh_q0 := h_q0.lt
  refine lv_aload_n hx hb dJx4a65c_grow_92f84_0 rfl (lv_at hl 0 rfl) ?_
  refine r_get (θ := θ) (C := RJx4a65c) (T := TJx4a65c) (N := 3) (ci := 6) hx hb hts gwJx4a65c hown hK h_q0 rfl 1 (by decide) k1318 (fun _ h => h) (v := .ref (θ.2.2.1 23)) rfl dJx4a65c_grow_92f84_1 ?_
  refine r_talen hx hb ((va_T.moved fx.2.alike hj0.2.2.2.2.2.2.1.2)) dJx4a65c_grow_92f84_4 ?_
  refine q_as 0 rfl ?_
  refine lv_istore_n (lv' := [(2, .int (iI 0)), (0, .ref L), (1, .int (iI x1))]) hx hb dJx4a65c_grow_92f84_5 rfl hl (by decide) rfl (fun ls hl => ?_)
  refine lv_iload_n hx hb dJx4a65c_grow_92f84_6 rfl (lv_at hl 0 rfl) ?_
  refine q_igt (tgt := 20) hx hb dJx4a65c_grow_92f84_7 (by decide) (by omega) (fun c1 => ?_) (fun c1 => ?_)
  · exact (show False by omega).elim
  · refine lv_aload_n hx hb dJx4a65c_grow_92f84_10 rfl (lv_at hl 1 rfl) ?_
    refine r_get (θ := θ) (C := RJx4a65c) (T := TJx4a65c) (N := 3) (ci := 6) hx hb hts gwJx4a65c hown hK h_q0 rfl 1 (by decide) k1318 (fun _ h => h) (v := .ref (θ.2.2.1 23)) rfl dJx4a65c_grow_92f84_11 ?_
    refine r_gets (θ := θ) hx hb fx.2 hj0.2.2.2.2.2.2.1.1 hAB hS hown (hts _ k1316) dJx4a65c_grow_92f84_14 ?_
    refine lv_acmp_eq (tgt := 45) (rx := some (θ.2.2.1 23)) (ry := some (θ.2.2.1 23)) hx hb dJx4a65c_grow_92f84_17 (by decide) (fun _ => ?_) (fun h => absurd rfl h)
    refine lv_aload_n hx hb dJx4a65c_grow_92f84_45 rfl (lv_at hl 1 rfl) ?_
    refine q_bip hx hb dJx4a65c_grow_92f84_46 (by decide) ?_
    refine lv_iload_n hx hb dJx4a65c_grow_92f84_48 rfl (lv_at hl 2 rfl) ?_
    refine c_P (As := [.int (iI 10), .int (iI x1)]) (rest := [.ref L]) fx hl (pm_max l 10 x1 (by omega) (by omega)) dJx4a65c_grow_92f84_49 k1396 k362 k14 k363 hd_J9_max_7cf53 rfl ⟨by decide, by decide⟩ (Nat.le_of_ble_eq_true rfl) ⟨by (try dsimp only); omega, by (try dsimp only); omega⟩ ?_
    refine q_nm (fun z2 ez2 => ?_)
    refine q_as (10) (by first | omega | (subst_vars; first | rfl | (split <;> omega))) ?_
    refine r_onew (θ := θ) hx hb hts fx.2 hown k1397 hj0.1.2.1 hK hS (n := 10) (by omega) (by (try dsimp only); omega) (by (try dsimp only); omega) dJx4a65c_grow_92f84_52 (fun H3 hnH3 hszH3 hkH3 hS => ?_)
    have h_q0_H3 := h_q0.kept (hkH3 _ h_q0.lt)
    have hzH3 := hz0.at hAB hS
    have hjH3 := hj0.at hAB hS
    have lnH3 := hnH3.lt
    refine lv_dup_x1 hx hb dJx4a65c_grow_92f84_55 rfl rfl ?_
    refine r_put (θ := θ) (C := RJx4a65c) (T := TJx4a65c) (N := 3) (ci := 6) (v := .ref s.heap.size) (ty := .array (.object "java/lang/Object")) hx hb hts gwJx4a65c tyJx4a65c tyJx4a65c_ok nmJx4a65c hown hK h_q0_H3 (by first | ((try dsimp only); omega) | dsimp only) hS rfl 1 (by decide) k1318 (fun _ h => h) rfl (by decide +kernel) rfl rfl (Nat.le_of_ble_eq_true rfl) dJx4a65c_grow_92f84_56 (fun H4 locs hqH4 hszH4 hkH4 hS => ?_)
    have hnH4 : OB θ H4 L 6 [.int (iI m), .ref s.heap.size, .int (iI k)] := hqH4
    have hnH3_H4 := hnH3.kept (hkH4 _ (by omega))
    have hzH4 := hz0.at hAB hS
    have hjH4 := hj0.at hAB hS
    have lnH4 := hnH4.lt
    first | exact e_a hx hb hr (by first | exact Or.inl ⟨_, rfl⟩ | exact Or.inr ⟨_, rfl⟩) hlk hS dJx4a65c_grow_92f84_59 (by first | exact Nat.le_of_ble_eq_true rfl | ((try dsimp only); omega)) (by first | exact Nat.le_of_ble_eq_true rfl | ((try dsimp only); omega)) ⟨by first | rfl | (subst_vars; rfl) | (rw [show s.heap.size = s.heap.size from by omega]), ⟨by omega, by first | exact hnH4 | (subst_vars; exact hnH4), by first | exact hnH3_H4 | (subst_vars; exact hnH3_H4)⟩⟩ | exact (show False by omega).elim

set_option maxHeartbeats 4000000 in
set_option maxRecDepth 100000 in
theorem jm_grow1 (θ : TH) (l : Launch) (S0 : State) (H : Heap) (hz : SZ θ S0 H) (hj : SJ θ S0 H) (L : Nat) (m : Int) (k : Int) (h_q0 : OB θ H L 6 [.int (iI m), .ref (θ.2.2.1 23), .int (iI k)]) (h_0 : k = 0) (h_1 : θ.2.2.2 ≤ L) : CT l yJx4a65c_grow_d5877 cJx4a65c_grow_d5877 1 (some (.array (.object "java/lang/Object"))) 2 44 1 100 [.ref L] S0 H (fun v9 H1 => v9 = some (.ref H.size) ∧ H1.size = H.size + 1 ∧ OB θ H1 L 6 [.int (iI m), .ref H.size, .int (iI k)] ∧ AO θ H1 H.size 10 (fun _ => none)) (fun _ _ => False) (fun x : Nat => x = L ∨ H.size ≤ x) := by
  refine ct_of (by decide +kernel) (Nat.le_of_ble_eq_true rfl) ?_
  intro pg en s mi args below meth co ls fx hs hr hlk hxt hin hl
  subst hs
  obtain ⟨hx, hb, hml, hown, hts⟩ := id fx.1
  have hS : va_S (fun x : Nat => x = L ∨ s.heap.size ≤ x) s.heap s.heap [] := va_S.rf
  have hAB : ∀ x : Nat, (fun x : Nat => x = L ∨ s.heap.size ≤ x) x → θ.2.2.2 ≤ x := fun x hx => by have hz2 := hz.2.1; (try dsimp only at hx); omega
  have hz0 := hz
  have hj0 := hj
  have hK := sz_K fx.2 hz
  have hz2 := hz.2.1
  have lh_q0 := h_q0.lt
  refine lv_aload_n hx hb dJx4a65c_grow_d5877_0 rfl (lv_at hl 0 rfl) ?_
  refine lv_aload_n hx hb dJx4a65c_grow_d5877_1 rfl (lv_at hl 0 rfl) ?_
  refine r_get (θ := θ) (C := RJx4a65c) (T := TJx4a65c) (N := 3) (ci := 6) hx hb hts gwJx4a65c hown hK h_q0 rfl 2 (by decide) k1321 (fun _ h => h) (v := .int (iI k)) rfl dJx4a65c_grow_d5877_2 ?_
  refine q_con hx hb dJx4a65c_grow_d5877_5 ?_
  refine q_add hx hb dJx4a65c_grow_d5877_6 ?_
  refine c_Vr (C := "java/util/ArrayList") (As := [.int (iI (k + 1))]) (rest := []) (r := some (.ref s.heap.size)) (st1 := [.ref s.heap.size]) fx hl (jm_grow0 θ l S0 _ hz hj L (k + 1) m k h_q0 (by omega) (by omega)) (ob_recv hK h_q0 rfl) dJx4a65c_grow_d5877_7 k1365 k1367 ks24 k18 k1368 hd_Jx4a65c_grow_92f84 rfl rfl ⟨by decide, by decide⟩ (Nat.le_of_ble_eq_true rfl) ⟨by (try dsimp only); omega, by (try dsimp only); omega⟩ hS (fun x hx => by first | exact hx.elim | ((try dsimp only at hx ⊢); omega)) (fun H1 locs hpH1 hsz0H1 hk0H1 hS => ?_)
  obtain ⟨hszH1, hoH1_0, hoH1_1⟩ := hpH1
  have hkH1 : ∀ q : Nat, q < (s.heap).size → ¬ (q = L) → H1[q]? = (s.heap)[q]? := fun q hq hn => hk0H1 q hq (by (try dsimp only); omega)
  have lhoH1_0 := hoH1_0.lt
  have lhoH1_1 := hoH1_1.lt
  have hzH1 := hz0.at hAB hS
  have hjH1 := hj0.at hAB hS
  first | exact e_a hx hb hr (by first | exact Or.inl ⟨_, rfl⟩ | exact Or.inr ⟨_, rfl⟩) hlk hS dJx4a65c_grow_d5877_10 (by first | exact Nat.le_of_ble_eq_true rfl | ((try dsimp only); omega)) (by first | exact Nat.le_of_ble_eq_true rfl | ((try dsimp only); omega)) ⟨by first | rfl | (subst_vars; rfl) | (rw [show s.heap.size = s.heap.size from by omega]), ⟨by omega, by first | exact hoH1_0 | (subst_vars; exact hoH1_0), by first | exact hoH1_1 | (subst_vars; exact hoH1_1)⟩⟩ | exact (show False by omega).elim

set_option maxHeartbeats 4000000 in
set_option maxRecDepth 100000 in
theorem jm_add2A (θ : TH) (l : Launch) (S0 : State) (H : Heap) (hz : SZ θ S0 H) (hj : SJ θ S0 H) (L : Nat) (e1 : Nat) (d : Nat) (x1 : Int) (v : Int) (cap : Nat) (k : Int) (m : Int) (g : Nat → Option Nat) (h_q0 : OB θ H L 6 [.int (iI m), .ref d, .int (iI k)]) (h_q1 : AO θ H d cap g) (h_0 : e1 = bx θ v) (h_1 : -128 ≤ v ∧ v ≤ 127) (h_2 : k < cap ∧ cap ≤ 100 ∧ 0 ≤ k) (h_3 : L ≠ d) (h_4 : x1 = k) (h_5 : θ.2.2.2 ≤ L) (h_6 : θ.2.2.2 ≤ d) : CT l yJx4a65c_add_72be8 cJx4a65c_add_72be8 4 none 0 0 1 100 [.ref L, .ref e1, .ref d, .int (iI x1)] S0 H (fun v9 H1 => v9 = none ∧ H1.size = H.size + 0 ∧ OB θ H1 L 6 [.int (iI m), .ref d, .int (iI (k + 1))] ∧ AO θ H1 d cap (up g k.toNat (some e1))) (fun _ _ => False) (fun x : Nat => x = L ∨ x = d) := by
  refine ct_of (by decide +kernel) (Nat.le_of_ble_eq_true rfl) ?_
  intro pg en s mi args below meth co ls fx hs hr hlk hxt hin hl
  subst hs
  obtain ⟨hx, hb, hml, hown, hts⟩ := id fx.1
  have hS : va_S (fun x : Nat => x = L ∨ x = d) s.heap s.heap [] := va_S.rf
  have hAB : ∀ x : Nat, (fun x : Nat => x = L ∨ x = d) x → θ.2.2.2 ≤ x := fun x hx => by have hz2 := hz.2.1; (try dsimp only at hx); omega
  have hz0 := hz
  have hj0 := hj
  have hK := sz_K fx.2 hz
  have hz2 := hz.2.1
  have lh_q0 := h_q0.lt
  have lh_q1 := h_q1.lt
  refine lv_iload_n hx hb dJx4a65c_add_72be8_0 rfl (lv_at hl 3 rfl) ?_
  refine lv_aload_n hx hb dJx4a65c_add_72be8_1 rfl (lv_at hl 2 rfl) ?_
  refine r_olen (θ := θ) hx hb hK h_q1 dJx4a65c_add_72be8_2 ?_
  refine q_cne (tgt := 11) hx hb dJx4a65c_add_72be8_3 (by decide) (by omega) (by omega) (fun c1 => ?_) (fun c1 => ?_)
  · refine lv_aload_n hx hb dJx4a65c_add_72be8_11 rfl (lv_at hl 2 rfl) ?_
    refine lv_iload_n hx hb dJx4a65c_add_72be8_12 rfl (lv_at hl 3 rfl) ?_
    refine lv_aload_n hx hb dJx4a65c_add_72be8_13 rfl (lv_at hl 1 rfl) ?_
    refine r_oast (θ := θ) (a := d) (v := e1) (i := x1) hx hb hK h_q1 (bx_any fx.2 hz0 (by rw [h_0]; exact (hj.box (v := v) (by omega)).1)) (by first | ((try dsimp only); omega) | dsimp only) hS (by omega) (by omega) dJx4a65c_add_72be8_14 (fun H2 locs hnH2 hszH2 hkH2 hS => ?_)
    have h_q0_H2 := h_q0.kept (hkH2 _ (by omega))
    have hzH2 := hz0.at hAB hS
    have hjH2 := hj0.at hAB hS
    have lnH2 := hnH2.lt
    refine lv_aload_n hx hb dJx4a65c_add_72be8_15 rfl (lv_at hl 0 rfl) ?_
    refine lv_iload_n hx hb dJx4a65c_add_72be8_16 rfl (lv_at hl 3 rfl) ?_
    refine q_con hx hb dJx4a65c_add_72be8_17 ?_
    refine q_add hx hb dJx4a65c_add_72be8_18 ?_
    refine q_nm (fun z3 ez3 => ?_)
    refine r_put (θ := θ) (C := RJx4a65c) (T := TJx4a65c) (N := 3) (ci := 6) (v := .int (iI z3)) (ty := .int) hx hb hts gwJx4a65c tyJx4a65c tyJx4a65c_ok nmJx4a65c hown hK h_q0_H2 (by first | ((try dsimp only); omega) | dsimp only) hS rfl 2 (by decide) k1321 (fun _ h => h) rfl (by decide +kernel) rfl rfl (Nat.le_of_ble_eq_true rfl) dJx4a65c_add_72be8_19 (fun H4 locs hqH4 hszH4 hkH4 hS => ?_)
    have hnH4 : OB θ H4 L 6 [.int (iI m), .ref d, .int (iI z3)] := hqH4
    have hnH2_H4 := hnH2.kept (hkH4 _ (by omega))
    have hzH4 := hz0.at hAB hS
    have hjH4 := hj0.at hAB hS
    have lnH4 := hnH4.lt
    first | exact e_v hx hb hr hlk hS dJx4a65c_add_72be8_22 (by first | exact Nat.le_of_ble_eq_true rfl | ((try dsimp only); omega)) (by first | exact Nat.le_of_ble_eq_true rfl | ((try dsimp only); omega)) ⟨rfl, ⟨by omega, by first | exact hnH4 | (subst_vars; exact hnH4), by first | exact hnH2_H4 | (subst_vars; exact hnH2_H4)⟩⟩ | exact (show False by omega).elim
  · exact (show False by omega).elim

set_option maxHeartbeats 4000000 in
set_option maxRecDepth 100000 in
theorem jm_add2B (θ : TH) (l : Launch) (S0 : State) (H : Heap) (hz : SZ θ S0 H) (hj : SJ θ S0 H) (L : Nat) (e1 : Nat) (d : Nat) (x1 : Int) (v : Int) (cap : Nat) (k : Int) (m : Int) (g : Nat → Option Nat) (nc : Int) (h_q0 : OB θ H L 6 [.int (iI m), .ref d, .int (iI k)]) (h_q1 : AO θ H d cap g) (h_0 : e1 = bx θ v) (h_1 : -128 ≤ v ∧ v ≤ 127) (h_2 : 2 ≤ cap ∧ cap ≤ 60) (h_3 : k = cap) (h_4 : nc = cap + cap / 2) (h_5 : ∀ i : Nat, (i : Int) < cap → ∀ y : Nat, g i = some y → ∃ v : Int, -128 ≤ v ∧ v ≤ 127 ∧ y = bx θ v) (h_6 : L ≠ d) (h_7 : x1 = k) (h_8 : θ.2.2.2 ≤ L) : CT l yJx4a65c_add_72be8 cJx4a65c_add_72be8 4 none 5 147 1 100 [.ref L, .ref e1, .ref d, .int (iI x1)] S0 H (fun v9 H1 => v9 = none ∧ H1.size = H.size + 1 ∧ OB θ H1 L 6 [.int (iI m), .ref H.size, .int (iI (k + 1))] ∧ AO θ H1 H.size nc.toNat (up (fun j : Nat => if (j : Int) < cap then g j else none) k.toNat (some e1))) (fun _ _ => False) (fun x : Nat => x = L ∨ H.size ≤ x) := by
  refine ct_of (by decide +kernel) (Nat.le_of_ble_eq_true rfl) ?_
  intro pg en s mi args below meth co ls fx hs hr hlk hxt hin hl
  subst hs
  obtain ⟨hx, hb, hml, hown, hts⟩ := id fx.1
  have hS : va_S (fun x : Nat => x = L ∨ s.heap.size ≤ x) s.heap s.heap [] := va_S.rf
  have hAB : ∀ x : Nat, (fun x : Nat => x = L ∨ s.heap.size ≤ x) x → θ.2.2.2 ≤ x := fun x hx => by have hz2 := hz.2.1; (try dsimp only at hx); omega
  have hz0 := hz
  have hj0 := hj
  have hK := sz_K fx.2 hz
  have hz2 := hz.2.1
  have lh_q0 := h_q0.lt
  have lh_q1 := h_q1.lt
  refine lv_iload_n hx hb dJx4a65c_add_72be8_0 rfl (lv_at hl 3 rfl) ?_
  refine lv_aload_n hx hb dJx4a65c_add_72be8_1 rfl (lv_at hl 2 rfl) ?_
  refine r_olen (θ := θ) hx hb hK h_q1 dJx4a65c_add_72be8_2 ?_
  refine q_cne (tgt := 11) hx hb dJx4a65c_add_72be8_3 (by decide) (by omega) (by omega) (fun c1 => ?_) (fun c1 => ?_)
  · exact (show False by omega).elim
  · refine lv_aload_n hx hb dJx4a65c_add_72be8_6 rfl (lv_at hl 0 rfl) ?_
    refine c_Vr (C := "java/util/ArrayList") (As := []) (rest := []) (r := some (.ref s.heap.size)) (st1 := [.ref s.heap.size]) fx hl (jm_growM θ l S0 _ hz hj L d cap k m g nc h_q0 h_q1 (by omega) (by omega) (by omega) (by assumption) (by omega) (by omega)) (ob_recv hK h_q0 rfl) dJx4a65c_add_72be8_7 k1361 k1363 ks23 k18 k1364 hd_Jx4a65c_grow_d5877 rfl rfl ⟨by decide, by decide⟩ (Nat.le_of_ble_eq_true rfl) ⟨by (try dsimp only); omega, by (try dsimp only); omega⟩ hS (fun x hx => by first | exact hx.elim | ((try dsimp only at hx ⊢); omega)) (fun H2 locs hpH2 hsz0H2 hk0H2 hS => ?_)
    obtain ⟨hszH2, hoH2_0, hoH2_1⟩ := hpH2
    have hkH2 : ∀ q : Nat, q < (s.heap).size → ¬ (q = L) → H2[q]? = (s.heap)[q]? := fun q hq hn => hk0H2 q hq (by (try dsimp only); omega)
    have h_q1_H2 := h_q1.kept (hkH2 _ h_q1.lt (by omega))
    have lhoH2_0 := hoH2_0.lt
    have lhoH2_1 := hoH2_1.lt
    have hzH2 := hz0.at hAB hS
    have hjH2 := hj0.at hAB hS
    refine lv_astore_n (lv' := [(2, .ref s.heap.size), (0, .ref L), (1, .ref e1), (3, .int (iI x1))]) hx hb dJx4a65c_add_72be8_10 rfl hl (by decide) rfl (fun ls hl => ?_)
    refine lv_aload_n hx hb dJx4a65c_add_72be8_11 rfl (lv_at hl 0 rfl) ?_
    refine lv_iload_n hx hb dJx4a65c_add_72be8_12 rfl (lv_at hl 3 rfl) ?_
    refine lv_aload_n hx hb dJx4a65c_add_72be8_13 rfl (lv_at hl 2 rfl) ?_
    refine r_oast (θ := θ) (a := s.heap.size) (v := e1) (i := x1) hx hb hK hoH2_1 (bx_any fx.2 hz0 (by rw [h_0]; exact (hjH2.box (v := v) (by omega)).1)) (by first | ((try dsimp only); omega) | dsimp only) hS (by omega) (by omega) dJx4a65c_add_72be8_14 (fun H3 locs hnH3 hszH3 hkH3 hS => ?_)
    have hoH2_0_H3 := hoH2_0.kept (hkH3 _ (by omega))
    have h_q1_H3 := h_q1_H2.kept (hkH3 _ (by omega))
    have hzH3 := hz0.at hAB hS
    have hjH3 := hj0.at hAB hS
    have lnH3 := hnH3.lt
    refine lv_aload_n hx hb dJx4a65c_add_72be8_15 rfl (lv_at hl 1 rfl) ?_
    refine lv_iload_n hx hb dJx4a65c_add_72be8_16 rfl (lv_at hl 3 rfl) ?_
    refine q_con hx hb dJx4a65c_add_72be8_17 ?_
    refine q_add hx hb dJx4a65c_add_72be8_18 ?_
    refine q_nm (fun z4 ez4 => ?_)
    refine r_put (θ := θ) (C := RJx4a65c) (T := TJx4a65c) (N := 3) (ci := 6) (v := .int (iI z4)) (ty := .int) hx hb hts gwJx4a65c tyJx4a65c tyJx4a65c_ok nmJx4a65c hown hK hoH2_0_H3 (by first | ((try dsimp only); omega) | dsimp only) hS rfl 2 (by decide) k1321 (fun _ h => h) rfl (by decide +kernel) rfl rfl (Nat.le_of_ble_eq_true rfl) dJx4a65c_add_72be8_19 (fun H5 locs hqH5 hszH5 hkH5 hS => ?_)
    have hnH5 : OB θ H5 L 6 [.int (iI m), .ref s.heap.size, .int (iI z4)] := hqH5
    have h_q1_H5 := h_q1_H3.kept (hkH5 _ (by omega))
    have hnH3_H5 := hnH3.kept (hkH5 _ (by omega))
    have hzH5 := hz0.at hAB hS
    have hjH5 := hj0.at hAB hS
    have lnH5 := hnH5.lt
    first | exact e_v hx hb hr hlk hS dJx4a65c_add_72be8_22 (by first | exact Nat.le_of_ble_eq_true rfl | ((try dsimp only); omega)) (by first | exact Nat.le_of_ble_eq_true rfl | ((try dsimp only); omega)) ⟨rfl, ⟨by omega, by first | exact hnH5 | (subst_vars; exact hnH5), by first | exact hnH3_H5 | (subst_vars; exact hnH3_H5)⟩⟩ | exact (show False by omega).elim

set_option maxHeartbeats 4000000 in
set_option maxRecDepth 100000 in
theorem jm_add2C (θ : TH) (l : Launch) (S0 : State) (H : Heap) (hz : SZ θ S0 H) (hj : SJ θ S0 H) (L : Nat) (e1 : Nat) (d : Nat) (x1 : Int) (v : Int) (k : Int) (m : Int) (h_q0 : OB θ H L 6 [.int (iI m), .ref (θ.2.2.1 23), .int (iI k)]) (h_0 : e1 = bx θ v) (h_1 : -128 ≤ v ∧ v ≤ 127) (h_2 : k = 0) (h_3 : d = (θ.2.2.1 23)) (h_4 : x1 = k) (h_5 : θ.2.2.2 ≤ L) : CT l yJx4a65c_add_72be8 cJx4a65c_add_72be8 4 none 3 64 1 100 [.ref L, .ref e1, .ref d, .int (iI x1)] S0 H (fun v9 H1 => v9 = none ∧ H1.size = H.size + 1 ∧ OB θ H1 L 6 [.int (iI m), .ref H.size, .int (iI (k + 1))] ∧ AO θ H1 H.size 10 (up (fun _ => none) k.toNat (some e1))) (fun _ _ => False) (fun x : Nat => x = L ∨ H.size ≤ x) := by
  refine ct_of (by decide +kernel) (Nat.le_of_ble_eq_true rfl) ?_
  intro pg en s mi args below meth co ls fx hs hr hlk hxt hin hl
  subst hs
  obtain ⟨hx, hb, hml, hown, hts⟩ := id fx.1
  have hS : va_S (fun x : Nat => x = L ∨ s.heap.size ≤ x) s.heap s.heap [] := va_S.rf
  have hAB : ∀ x : Nat, (fun x : Nat => x = L ∨ s.heap.size ≤ x) x → θ.2.2.2 ≤ x := fun x hx => by have hz2 := hz.2.1; (try dsimp only at hx); omega
  have hz0 := hz
  have hj0 := hj
  have hK := sz_K fx.2 hz
  have hz2 := hz.2.1
  have lh_q0 := h_q0.lt
  refine lv_iload_n hx hb dJx4a65c_add_72be8_0 rfl (lv_at hl 3 rfl) ?_
  obtain rfl := h_3
  refine lv_aload_n hx hb dJx4a65c_add_72be8_1 rfl (lv_at hl 2 rfl) ?_
  refine r_talen hx hb ((va_T.moved fx.2.alike hj0.2.2.2.2.2.2.1.2)) dJx4a65c_add_72be8_2 ?_
  refine q_as 0 rfl ?_
  refine q_cne (tgt := 11) hx hb dJx4a65c_add_72be8_3 (by decide) (by omega) (by omega) (fun c1 => ?_) (fun c1 => ?_)
  · exact (show False by omega).elim
  · refine lv_aload_n hx hb dJx4a65c_add_72be8_6 rfl (lv_at hl 0 rfl) ?_
    refine c_Vr (C := "java/util/ArrayList") (As := []) (rest := []) (r := some (.ref s.heap.size)) (st1 := [.ref s.heap.size]) fx hl (jm_grow1 θ l S0 _ hz hj L m k h_q0 (by omega) (by omega)) (ob_recv hK h_q0 rfl) dJx4a65c_add_72be8_7 k1361 k1363 ks23 k18 k1364 hd_Jx4a65c_grow_d5877 rfl rfl ⟨by decide, by decide⟩ (Nat.le_of_ble_eq_true rfl) ⟨by (try dsimp only); omega, by (try dsimp only); omega⟩ hS (fun x hx => by first | exact hx.elim | ((try dsimp only at hx ⊢); omega)) (fun H2 locs hpH2 hsz0H2 hk0H2 hS => ?_)
    obtain ⟨hszH2, hoH2_0, hoH2_1⟩ := hpH2
    have hkH2 : ∀ q : Nat, q < (s.heap).size → ¬ (q = L) → H2[q]? = (s.heap)[q]? := fun q hq hn => hk0H2 q hq (by (try dsimp only); omega)
    have lhoH2_0 := hoH2_0.lt
    have lhoH2_1 := hoH2_1.lt
    have hzH2 := hz0.at hAB hS
    have hjH2 := hj0.at hAB hS
    refine lv_astore_n (lv' := [(2, .ref s.heap.size), (0, .ref L), (1, .ref e1), (3, .int (iI x1))]) hx hb dJx4a65c_add_72be8_10 rfl hl (by decide) rfl (fun ls hl => ?_)
    refine lv_aload_n hx hb dJx4a65c_add_72be8_11 rfl (lv_at hl 0 rfl) ?_
    refine lv_iload_n hx hb dJx4a65c_add_72be8_12 rfl (lv_at hl 3 rfl) ?_
    refine lv_aload_n hx hb dJx4a65c_add_72be8_13 rfl (lv_at hl 2 rfl) ?_
    refine r_oast (θ := θ) (a := s.heap.size) (v := e1) (i := x1) hx hb hK hoH2_1 (bx_any fx.2 hz0 (by rw [h_0]; exact (hjH2.box (v := v) (by omega)).1)) (by first | ((try dsimp only); omega) | dsimp only) hS (by omega) (by omega) dJx4a65c_add_72be8_14 (fun H3 locs hnH3 hszH3 hkH3 hS => ?_)
    have hoH2_0_H3 := hoH2_0.kept (hkH3 _ (by omega))
    have hzH3 := hz0.at hAB hS
    have hjH3 := hj0.at hAB hS
    have lnH3 := hnH3.lt
    refine lv_aload_n hx hb dJx4a65c_add_72be8_15 rfl (lv_at hl 1 rfl) ?_
    refine lv_iload_n hx hb dJx4a65c_add_72be8_16 rfl (lv_at hl 3 rfl) ?_
    refine q_con hx hb dJx4a65c_add_72be8_17 ?_
    refine q_add hx hb dJx4a65c_add_72be8_18 ?_
    refine q_nm (fun z4 ez4 => ?_)
    refine r_put (θ := θ) (C := RJx4a65c) (T := TJx4a65c) (N := 3) (ci := 6) (v := .int (iI z4)) (ty := .int) hx hb hts gwJx4a65c tyJx4a65c tyJx4a65c_ok nmJx4a65c hown hK hoH2_0_H3 (by first | ((try dsimp only); omega) | dsimp only) hS rfl 2 (by decide) k1321 (fun _ h => h) rfl (by decide +kernel) rfl rfl (Nat.le_of_ble_eq_true rfl) dJx4a65c_add_72be8_19 (fun H5 locs hqH5 hszH5 hkH5 hS => ?_)
    have hnH5 : OB θ H5 L 6 [.int (iI m), .ref s.heap.size, .int (iI z4)] := hqH5
    have hnH3_H5 := hnH3.kept (hkH5 _ (by omega))
    have hzH5 := hz0.at hAB hS
    have hjH5 := hj0.at hAB hS
    have lnH5 := hnH5.lt
    first | exact e_v hx hb hr hlk hS dJx4a65c_add_72be8_22 (by first | exact Nat.le_of_ble_eq_true rfl | ((try dsimp only); omega)) (by first | exact Nat.le_of_ble_eq_true rfl | ((try dsimp only); omega)) ⟨rfl, ⟨by omega, by first | exact hnH5 | (subst_vars; exact hnH5), by first | exact hnH3_H5 | (subst_vars; exact hnH3_H5)⟩⟩ | exact (show False by omega).elim

set_option maxHeartbeats 4000000 in
set_option maxRecDepth 100000 in
theorem jm_addA (θ : TH) (l : Launch) (S0 : State) (H : Heap) (hz : SZ θ S0 H) (hj : SJ θ S0 H) (L : Nat) (e1 : Nat) (v : Int) (d : Nat) (cap : Nat) (k : Int) (m : Int) (g : Nat → Option Nat) (h_q0 : OB θ H L 6 [.int (iI m), .ref d, .int (iI k)]) (h_q1 : AO θ H d cap g) (h_0 : e1 = bx θ v) (h_1 : -128 ≤ v ∧ v ≤ 127) (h_2 : k < cap ∧ cap ≤ 100 ∧ 0 ≤ k) (h_3 : L ≠ d) (h_4 : θ.2.2.2 ≤ L) (h_5 : θ.2.2.2 ≤ d) : CT l yJx4a65c_add_9ea2d cJx4a65c_add_9ea2d 2 (some .boolean) 6 220 1 100 [.ref L, .ref e1] S0 H (fun v9 H1 => v9 = some (.int (iI 1)) ∧ H1.size = H.size + 0 ∧ OB θ H1 L 6 [.int (iI (m + 1)), .ref d, .int (iI (k + 1))] ∧ AO θ H1 d cap (up g k.toNat (some e1))) (fun _ _ => False) (fun x : Nat => x = L ∨ (0 < cap ∧ x = d) ∨ H.size ≤ x) := by
  refine ct_of (by decide +kernel) (Nat.le_of_ble_eq_true rfl) ?_
  intro pg en s mi args below meth co ls fx hs hr hlk hxt hin hl
  subst hs
  obtain ⟨hx, hb, hml, hown, hts⟩ := id fx.1
  have hS : va_S (fun x : Nat => x = L ∨ (0 < cap ∧ x = d) ∨ s.heap.size ≤ x) s.heap s.heap [] := va_S.rf
  have hAB : ∀ x : Nat, (fun x : Nat => x = L ∨ (0 < cap ∧ x = d) ∨ s.heap.size ≤ x) x → θ.2.2.2 ≤ x := fun x hx => by have hz2 := hz.2.1; (try dsimp only at hx); omega
  have hz0 := hz
  have hj0 := hj
  have hK := sz_K fx.2 hz
  have hz2 := hz.2.1
  have lh_q0 := h_q0.lt
  have lh_q1 := h_q1.lt
  refine lv_aload_n hx hb dJx4a65c_add_9ea2d_0 rfl (lv_at hl 0 rfl) ?_
  refine lv_dup hx hb dJx4a65c_add_9ea2d_1 rfl ?_
  refine r_get (θ := θ) (C := RJx4a65c) (T := TJx4a65c) (N := 3) (ci := 6) hx hb hts gwJx4a65c hown hK h_q0 rfl 0 (by decide) k1325 (u_same (hts _ k1324)) (v := .int (iI m)) rfl dJx4a65c_add_9ea2d_2 ?_
  refine q_con hx hb dJx4a65c_add_9ea2d_5 ?_
  refine q_add hx hb dJx4a65c_add_9ea2d_6 ?_
  refine q_nm (fun z1 ez1 => ?_)
  refine r_put (θ := θ) (C := RJx4a65c) (T := TJx4a65c) (N := 3) (ci := 6) (v := .int (iI z1)) (ty := .int) hx hb hts gwJx4a65c tyJx4a65c tyJx4a65c_ok nmJx4a65c hown hK h_q0 (by first | ((try dsimp only); omega) | dsimp only) hS rfl 0 (by decide) k1325 (u_same (hts _ k1324)) rfl (by decide +kernel) rfl rfl (Nat.le_of_ble_eq_true rfl) dJx4a65c_add_9ea2d_7 (fun H2 locs hqH2 hszH2 hkH2 hS => ?_)
  have hnH2 : OB θ H2 L 6 [.int (iI z1), .ref d, .int (iI k)] := hqH2
  have h_q1_H2 := h_q1.kept (hkH2 _ (by omega))
  have hzH2 := hz0.at hAB hS
  have hjH2 := hj0.at hAB hS
  have lnH2 := hnH2.lt
  refine lv_aload_n hx hb dJx4a65c_add_9ea2d_10 rfl (lv_at hl 0 rfl) ?_
  refine lv_aload_n hx hb dJx4a65c_add_9ea2d_11 rfl (lv_at hl 1 rfl) ?_
  refine lv_aload_n hx hb dJx4a65c_add_9ea2d_12 rfl (lv_at hl 0 rfl) ?_
  refine r_get (θ := θ) (C := RJx4a65c) (T := TJx4a65c) (N := 3) (ci := 6) hx hb hts gwJx4a65c hown hK hnH2 rfl 1 (by decide) k1318 (fun _ h => h) (v := .ref d) rfl dJx4a65c_add_9ea2d_13 ?_
  refine lv_aload_n hx hb dJx4a65c_add_9ea2d_16 rfl (lv_at hl 0 rfl) ?_
  refine r_get (θ := θ) (C := RJx4a65c) (T := TJx4a65c) (N := 3) (ci := 6) hx hb hts gwJx4a65c hown hK hnH2 rfl 2 (by decide) k1321 (fun _ h => h) (v := .int (iI k)) rfl dJx4a65c_add_9ea2d_17 ?_
  refine c_Vr (C := "java/util/ArrayList") (As := [.ref e1, .ref d, .int (iI k)]) (rest := []) (r := none) (st1 := []) fx hl (jm_add2A θ l S0 _ hzH2 hjH2 L e1 d k v cap k z1 g hnH2 h_q1_H2 (by exact h_0) (by omega) (by omega) (by omega) (by omega) (by omega) (by omega)) (ob_recv hK hnH2 rfl) dJx4a65c_add_9ea2d_20 k1357 k1359 ks22 k18 k1360 hd_Jx4a65c_add_72be8 rfl rfl ⟨by decide, by decide⟩ (Nat.le_of_ble_eq_true rfl) ⟨by (try dsimp only); omega, by (try dsimp only); omega⟩ hS (fun x hx => by first | exact hx.elim | ((try dsimp only at hx ⊢); omega)) (fun H3 locs hpH3 hsz0H3 hk0H3 hS => ?_)
  obtain ⟨hszH3, hoH3_0, hoH3_1⟩ := hpH3
  have hkH3 : ∀ q : Nat, q < (H2).size → ¬ (q = L ∨ q = d) → H3[q]? = (H2)[q]? := fun q hq hn => hk0H3 q hq (by (try dsimp only); omega)
  have lhoH3_0 := hoH3_0.lt
  have lhoH3_1 := hoH3_1.lt
  have hzH3 := hz0.at hAB hS
  have hjH3 := hj0.at hAB hS
  refine q_con hx hb dJx4a65c_add_9ea2d_23 ?_
  first | exact e_b hx hb hr hlk (by rfl) hS dJx4a65c_add_9ea2d_24 (by first | exact Nat.le_of_ble_eq_true rfl | ((try dsimp only); omega)) (by first | exact Nat.le_of_ble_eq_true rfl | ((try dsimp only); omega)) ⟨by first | rfl | exact ex_i (by omega), ⟨by omega, by first | exact hoH3_0 | (subst_vars; exact hoH3_0), by first | exact hoH3_1 | (subst_vars; exact hoH3_1)⟩⟩ | exact (show False by omega).elim

set_option maxHeartbeats 4000000 in
set_option maxRecDepth 100000 in
theorem jm_addB (θ : TH) (l : Launch) (S0 : State) (H : Heap) (hz : SZ θ S0 H) (hj : SJ θ S0 H) (L : Nat) (e1 : Nat) (v : Int) (d : Nat) (cap : Nat) (k : Int) (m : Int) (g : Nat → Option Nat) (nc : Int) (h_q0 : OB θ H L 6 [.int (iI m), .ref d, .int (iI k)]) (h_q1 : AO θ H d cap g) (h_0 : e1 = bx θ v) (h_1 : -128 ≤ v ∧ v ≤ 127) (h_2 : 2 ≤ cap ∧ cap ≤ 60) (h_3 : k = cap) (h_4 : nc = cap + cap / 2) (h_5 : ∀ i : Nat, (i : Int) < cap → ∀ y : Nat, g i = some y → ∃ v : Int, -128 ≤ v ∧ v ≤ 127 ∧ y = bx θ v) (h_6 : L ≠ d) (h_7 : θ.2.2.2 ≤ d) (h_8 : θ.2.2.2 ≤ L) : CT l yJx4a65c_add_9ea2d cJx4a65c_add_9ea2d 2 (some .boolean) 6 220 1 100 [.ref L, .ref e1] S0 H (fun v9 H1 => v9 = some (.int (iI 1)) ∧ H1.size = H.size + 1 ∧ OB θ H1 L 6 [.int (iI (m + 1)), .ref H.size, .int (iI (k + 1))] ∧ AO θ H1 H.size nc.toNat (up (fun j : Nat => if (j : Int) < cap then g j else none) k.toNat (some e1))) (fun _ _ => False) (fun x : Nat => x = L ∨ (0 < cap ∧ x = d) ∨ H.size ≤ x) := by
  refine ct_of (by decide +kernel) (Nat.le_of_ble_eq_true rfl) ?_
  intro pg en s mi args below meth co ls fx hs hr hlk hxt hin hl
  subst hs
  obtain ⟨hx, hb, hml, hown, hts⟩ := id fx.1
  have hS : va_S (fun x : Nat => x = L ∨ (0 < cap ∧ x = d) ∨ s.heap.size ≤ x) s.heap s.heap [] := va_S.rf
  have hAB : ∀ x : Nat, (fun x : Nat => x = L ∨ (0 < cap ∧ x = d) ∨ s.heap.size ≤ x) x → θ.2.2.2 ≤ x := fun x hx => by have hz2 := hz.2.1; (try dsimp only at hx); omega
  have hz0 := hz
  have hj0 := hj
  have hK := sz_K fx.2 hz
  have hz2 := hz.2.1
  have lh_q0 := h_q0.lt
  have lh_q1 := h_q1.lt
  refine lv_aload_n hx hb dJx4a65c_add_9ea2d_0 rfl (lv_at hl 0 rfl) ?_
  refine lv_dup hx hb dJx4a65c_add_9ea2d_1 rfl ?_
  refine r_get (θ := θ) (C := RJx4a65c) (T := TJx4a65c) (N := 3) (ci := 6) hx hb hts gwJx4a65c hown hK h_q0 rfl 0 (by decide) k1325 (u_same (hts _ k1324)) (v := .int (iI m)) rfl dJx4a65c_add_9ea2d_2 ?_
  refine q_con hx hb dJx4a65c_add_9ea2d_5 ?_
  refine q_add hx hb dJx4a65c_add_9ea2d_6 ?_
  refine q_nm (fun z1 ez1 => ?_)
  refine r_put (θ := θ) (C := RJx4a65c) (T := TJx4a65c) (N := 3) (ci := 6) (v := .int (iI z1)) (ty := .int) hx hb hts gwJx4a65c tyJx4a65c tyJx4a65c_ok nmJx4a65c hown hK h_q0 (by first | ((try dsimp only); omega) | dsimp only) hS rfl 0 (by decide) k1325 (u_same (hts _ k1324)) rfl (by decide +kernel) rfl rfl (Nat.le_of_ble_eq_true rfl) dJx4a65c_add_9ea2d_7 (fun H2 locs hqH2 hszH2 hkH2 hS => ?_)
  have hnH2 : OB θ H2 L 6 [.int (iI z1), .ref d, .int (iI k)] := hqH2
  have h_q1_H2 := h_q1.kept (hkH2 _ (by omega))
  have hzH2 := hz0.at hAB hS
  have hjH2 := hj0.at hAB hS
  have lnH2 := hnH2.lt
  refine lv_aload_n hx hb dJx4a65c_add_9ea2d_10 rfl (lv_at hl 0 rfl) ?_
  refine lv_aload_n hx hb dJx4a65c_add_9ea2d_11 rfl (lv_at hl 1 rfl) ?_
  refine lv_aload_n hx hb dJx4a65c_add_9ea2d_12 rfl (lv_at hl 0 rfl) ?_
  refine r_get (θ := θ) (C := RJx4a65c) (T := TJx4a65c) (N := 3) (ci := 6) hx hb hts gwJx4a65c hown hK hnH2 rfl 1 (by decide) k1318 (fun _ h => h) (v := .ref d) rfl dJx4a65c_add_9ea2d_13 ?_
  refine lv_aload_n hx hb dJx4a65c_add_9ea2d_16 rfl (lv_at hl 0 rfl) ?_
  refine r_get (θ := θ) (C := RJx4a65c) (T := TJx4a65c) (N := 3) (ci := 6) hx hb hts gwJx4a65c hown hK hnH2 rfl 2 (by decide) k1321 (fun _ h => h) (v := .int (iI k)) rfl dJx4a65c_add_9ea2d_17 ?_
  refine c_Vr (C := "java/util/ArrayList") (As := [.ref e1, .ref d, .int (iI k)]) (rest := []) (r := none) (st1 := []) fx hl (jm_add2B θ l S0 _ hzH2 hjH2 L e1 d k v cap k z1 g nc hnH2 h_q1_H2 (by exact h_0) (by omega) (by omega) (by omega) (by omega) (by assumption) (by omega) (by omega) (by omega)) (ob_recv hK hnH2 rfl) dJx4a65c_add_9ea2d_20 k1357 k1359 ks22 k18 k1360 hd_Jx4a65c_add_72be8 rfl rfl ⟨by decide, by decide⟩ (Nat.le_of_ble_eq_true rfl) ⟨by (try dsimp only); omega, by (try dsimp only); omega⟩ hS (fun x hx => by first | exact hx.elim | ((try dsimp only at hx ⊢); omega)) (fun H3 locs hpH3 hsz0H3 hk0H3 hS => ?_)
  obtain ⟨hszH3, hoH3_0, hoH3_1⟩ := hpH3
  have hkH3 : ∀ q : Nat, q < (H2).size → ¬ (q = L) → H3[q]? = (H2)[q]? := fun q hq hn => hk0H3 q hq (by (try dsimp only); omega)
  have h_q1_H3 := h_q1_H2.kept (hkH3 _ h_q1_H2.lt (by omega))
  have lhoH3_0 := hoH3_0.lt
  have lhoH3_1 := hoH3_1.lt
  have hzH3 := hz0.at hAB hS
  have hjH3 := hj0.at hAB hS
  refine q_con hx hb dJx4a65c_add_9ea2d_23 ?_
  first | exact e_b hx hb hr hlk (by rfl) hS dJx4a65c_add_9ea2d_24 (by first | exact Nat.le_of_ble_eq_true rfl | ((try dsimp only); omega)) (by first | exact Nat.le_of_ble_eq_true rfl | ((try dsimp only); omega)) ⟨by first | rfl | exact ex_i (by omega), ⟨by omega, (by first | (rw [show s.heap.size = H2.size from by omega]; exact hoH3_0) | (subst_vars; rw [show s.heap.size = H2.size from by omega]; exact hoH3_0)), (by first | (rw [show s.heap.size = H2.size from by omega]; exact hoH3_1) | (subst_vars; rw [show s.heap.size = H2.size from by omega]; exact hoH3_1))⟩⟩ | exact (show False by omega).elim

set_option maxHeartbeats 4000000 in
set_option maxRecDepth 100000 in
theorem jm_addC (θ : TH) (l : Launch) (S0 : State) (H : Heap) (hz : SZ θ S0 H) (hj : SJ θ S0 H) (L : Nat) (e1 : Nat) (v : Int) (d : Nat) (cap : Nat) (k : Int) (m : Int) (h_q0 : OB θ H L 6 [.int (iI m), .ref (θ.2.2.1 23), .int (iI k)]) (h_0 : e1 = bx θ v) (h_1 : -128 ≤ v ∧ v ≤ 127) (h_2 : k = 0) (h_3 : cap = 0) (h_4 : θ.2.2.2 ≤ L) : CT l yJx4a65c_add_9ea2d cJx4a65c_add_9ea2d 2 (some .boolean) 6 220 1 100 [.ref L, .ref e1] S0 H (fun v9 H1 => v9 = some (.int (iI 1)) ∧ H1.size = H.size + 1 ∧ OB θ H1 L 6 [.int (iI (m + 1)), .ref H.size, .int (iI (k + 1))] ∧ AO θ H1 H.size 10 (up (fun _ => none) k.toNat (some e1))) (fun _ _ => False) (fun x : Nat => x = L ∨ (0 < cap ∧ x = d) ∨ H.size ≤ x) := by
  refine ct_of (by decide +kernel) (Nat.le_of_ble_eq_true rfl) ?_
  intro pg en s mi args below meth co ls fx hs hr hlk hxt hin hl
  subst hs
  obtain ⟨hx, hb, hml, hown, hts⟩ := id fx.1
  have hS : va_S (fun x : Nat => x = L ∨ (0 < cap ∧ x = d) ∨ s.heap.size ≤ x) s.heap s.heap [] := va_S.rf
  have hAB : ∀ x : Nat, (fun x : Nat => x = L ∨ (0 < cap ∧ x = d) ∨ s.heap.size ≤ x) x → θ.2.2.2 ≤ x := fun x hx => by have hz2 := hz.2.1; (try dsimp only at hx); omega
  have hz0 := hz
  have hj0 := hj
  have hK := sz_K fx.2 hz
  have hz2 := hz.2.1
  have lh_q0 := h_q0.lt
  refine lv_aload_n hx hb dJx4a65c_add_9ea2d_0 rfl (lv_at hl 0 rfl) ?_
  refine lv_dup hx hb dJx4a65c_add_9ea2d_1 rfl ?_
  refine r_get (θ := θ) (C := RJx4a65c) (T := TJx4a65c) (N := 3) (ci := 6) hx hb hts gwJx4a65c hown hK h_q0 rfl 0 (by decide) k1325 (u_same (hts _ k1324)) (v := .int (iI m)) rfl dJx4a65c_add_9ea2d_2 ?_
  refine q_con hx hb dJx4a65c_add_9ea2d_5 ?_
  refine q_add hx hb dJx4a65c_add_9ea2d_6 ?_
  refine q_nm (fun z1 ez1 => ?_)
  refine r_put (θ := θ) (C := RJx4a65c) (T := TJx4a65c) (N := 3) (ci := 6) (v := .int (iI z1)) (ty := .int) hx hb hts gwJx4a65c tyJx4a65c tyJx4a65c_ok nmJx4a65c hown hK h_q0 (by first | ((try dsimp only); omega) | dsimp only) hS rfl 0 (by decide) k1325 (u_same (hts _ k1324)) rfl (by decide +kernel) rfl rfl (Nat.le_of_ble_eq_true rfl) dJx4a65c_add_9ea2d_7 (fun H2 locs hqH2 hszH2 hkH2 hS => ?_)
  have hnH2 : OB θ H2 L 6 [.int (iI z1), .ref (θ.2.2.1 23), .int (iI k)] := hqH2
  have hzH2 := hz0.at hAB hS
  have hjH2 := hj0.at hAB hS
  have lnH2 := hnH2.lt
  refine lv_aload_n hx hb dJx4a65c_add_9ea2d_10 rfl (lv_at hl 0 rfl) ?_
  refine lv_aload_n hx hb dJx4a65c_add_9ea2d_11 rfl (lv_at hl 1 rfl) ?_
  refine lv_aload_n hx hb dJx4a65c_add_9ea2d_12 rfl (lv_at hl 0 rfl) ?_
  refine r_get (θ := θ) (C := RJx4a65c) (T := TJx4a65c) (N := 3) (ci := 6) hx hb hts gwJx4a65c hown hK hnH2 rfl 1 (by decide) k1318 (fun _ h => h) (v := .ref (θ.2.2.1 23)) rfl dJx4a65c_add_9ea2d_13 ?_
  refine lv_aload_n hx hb dJx4a65c_add_9ea2d_16 rfl (lv_at hl 0 rfl) ?_
  refine r_get (θ := θ) (C := RJx4a65c) (T := TJx4a65c) (N := 3) (ci := 6) hx hb hts gwJx4a65c hown hK hnH2 rfl 2 (by decide) k1321 (fun _ h => h) (v := .int (iI k)) rfl dJx4a65c_add_9ea2d_17 ?_
  refine c_Vr (C := "java/util/ArrayList") (As := [.ref e1, .ref (θ.2.2.1 23), .int (iI k)]) (rest := []) (r := none) (st1 := []) fx hl (jm_add2C θ l S0 _ hzH2 hjH2 L e1 (θ.2.2.1 23) k v k z1 hnH2 (by exact h_0) (by omega) (by omega) (by rfl) (by omega) (by omega)) (ob_recv hK hnH2 rfl) dJx4a65c_add_9ea2d_20 k1357 k1359 ks22 k18 k1360 hd_Jx4a65c_add_72be8 rfl rfl ⟨by decide, by decide⟩ (Nat.le_of_ble_eq_true rfl) ⟨by (try dsimp only); omega, by (try dsimp only); omega⟩ hS (fun x hx => by first | exact hx.elim | ((try dsimp only at hx ⊢); omega)) (fun H3 locs hpH3 hsz0H3 hk0H3 hS => ?_)
  obtain ⟨hszH3, hoH3_0, hoH3_1⟩ := hpH3
  have hkH3 : ∀ q : Nat, q < (H2).size → ¬ (q = L) → H3[q]? = (H2)[q]? := fun q hq hn => hk0H3 q hq (by (try dsimp only); omega)
  have lhoH3_0 := hoH3_0.lt
  have lhoH3_1 := hoH3_1.lt
  have hzH3 := hz0.at hAB hS
  have hjH3 := hj0.at hAB hS
  refine q_con hx hb dJx4a65c_add_9ea2d_23 ?_
  first | exact e_b hx hb hr hlk (by rfl) hS dJx4a65c_add_9ea2d_24 (by first | exact Nat.le_of_ble_eq_true rfl | ((try dsimp only); omega)) (by first | exact Nat.le_of_ble_eq_true rfl | ((try dsimp only); omega)) ⟨by first | rfl | exact ex_i (by omega), ⟨by omega, (by first | (rw [show s.heap.size = H2.size from by omega]; exact hoH3_0) | (subst_vars; rw [show s.heap.size = H2.size from by omega]; exact hoH3_0)), (by first | (rw [show s.heap.size = H2.size from by omega]; exact hoH3_1) | (subst_vars; rw [show s.heap.size = H2.size from by omega]; exact hoH3_1))⟩⟩ | exact (show False by omega).elim

/-- one more box in the list -/
theorem jm_add (θ : TH) (l : Launch) (S0 : State) (H : Heap) (hz : SZ θ S0 H) (hj : SJ θ S0 H) (L : Nat) (v : Int) (d cap k : Nat) (el : Nat → Int) (h : LI θ H L d cap k el) (hv : -128 ≤ v ∧ v ≤ 127) (hk : k < 50) (hc : cap = 0 ∨ (10 ≤ cap ∧ cap ≤ 73)) (hL : θ.2.2.2 ≤ L) (hd : 0 < cap → θ.2.2.2 ≤ d ∧ L ≠ d) :
    CT l yJx4a65c_add_9ea2d cJx4a65c_add_9ea2d 2 (some .boolean) 6 220 1 100 [.ref L, .ref (bx θ v)] S0 H (fun v9 H1 => v9 = some (.int (iI 1)) ∧ ∃ d1 cap1 : Nat, LI θ H1 L d1 cap1 (k + 1) (up el k v) ∧ (10 ≤ cap1 ∧ cap1 ≤ 73) ∧ (θ.2.2.2 ≤ d1 ∧ L ≠ d1) ∧ ((0 < cap ∧ d1 = d) ∨ H.size ≤ d1)) (fun _ _ => False) (fun x : Nat => x = L ∨ (0 < cap ∧ x = d) ∨ H.size ≤ x) := by
  obtain ⟨g, ho, h0, ha, hkc, hc1, hel⟩ := id h
  have lL := ho.lt
  have hz2 := hz.2.1
  have e1 : (((k + 1 : Nat)) : Int) = (k : Int) + 1 := by omega
  have hup : ∀ j : Nat, j < k + 1 → ¬ j = k → j < k := fun j h1 h2 => by omega
  by_cases hcap : cap = 0
  · obtain rfl := h0 hcap
    have hk0 : k = 0 := by omega
    subst hk0
    refine CT.mono (jm_addC θ l S0 H hz hj L (bx θ v) v (θ.2.2.1 23) cap _ _ ho rfl hv (by omega) hcap hL) (fun v9 H1 hq => ?_)
    obtain ⟨rfl, hs, hob, hao⟩ := hq
    refine ⟨rfl, H.size, 10, ⟨_, by rw [e1]; exact hob, fun q => by omega, fun _ => hao, by omega, by omega, fun j hj => ?_⟩, by omega, ⟨by omega, by omega⟩, Or.inr (Nat.le_refl _)⟩
    obtain rfl : j = 0 := by omega
    exact ⟨rfl, hv⟩
  · have hdd := hd (by omega)
    by_cases hf : k = cap
    · have hEL : ∀ i : Nat, (i : Int) < cap → ∀ y : Nat, g i = some y → ∃ v : Int, -128 ≤ v ∧ v ≤ 127 ∧ y = bx θ v := fun i hi y hy => by
        have h3 := hel i (by omega)
        exact ⟨el i, h3.2.1, h3.2.2, Option.some.inj (hy.symm.trans h3.1)⟩
      refine CT.mono (jm_addB θ l S0 H hz hj L (bx θ v) v d cap _ _ g ((cap : Int) + cap / 2) ho (ha (by omega)) rfl hv (by omega) (by omega) rfl hEL hdd.2 hdd.1 hL) (fun v9 H1 hq => ?_)
      obtain ⟨rfl, hs, hob, hao⟩ := hq
      refine ⟨rfl, H.size, ((cap : Int) + cap / 2).toNat, ⟨_, by rw [e1]; exact hob, fun q => by omega, fun _ => hao, by omega, by omega, fun j hj => ?_⟩, by omega, ⟨by omega, by omega⟩, Or.inr (Nat.le_refl _)⟩
      rw [show (k : Int).toNat = k by omega]
      by_cases hjk : j = k
      · subst hjk
        rw [up_s, up_s]
        exact ⟨rfl, hv⟩
      · rw [up_n _ _ hjk, up_n _ _ hjk, if_pos (by omega)]
        exact hel j (hup j hj hjk)
    · refine CT.mono (jm_addA θ l S0 H hz hj L (bx θ v) v d cap _ _ g ho (ha (by omega)) rfl hv (by omega) hdd.2 hL hdd.1) (fun v9 H1 hq => ?_)
      obtain ⟨rfl, hs, hob, hao⟩ := hq
      refine ⟨rfl, d, cap, ⟨_, by rw [e1]; exact hob, fun q => by omega, fun _ => hao, by omega, by omega, fun j hj => ?_⟩, by omega, hdd, Or.inl ⟨by omega, rfl⟩⟩
      rw [show (k : Int).toNat = k by omega]
      by_cases hjk : j = k
      · subst hjk
        rw [up_s, up_s]
        exact ⟨rfl, hv⟩
      · rw [up_n _ _ hjk, up_n _ _ hjk]
        exact hel j (hup j hj hjk)

set_option maxHeartbeats 4000000 in
set_option maxRecDepth 100000 in
theorem jm_itInit (θ : TH) (l : Launch) (S0 : State) (H : Heap) (hz : SZ θ S0 H) (hj : SJ θ S0 H) (it : Nat) (L : Nat) (m : Int) (d : Nat) (k : Int) (h_q0 : OB θ H it 5 [.int (iI 0), .int (iI 0), .int (iI 0), .null]) (h_q1 : OB θ H L 6 [.int (iI m), .ref d, .int (iI k)]) (h_0 : it ≠ L) (h_1 : θ.2.2.2 ≤ it) : CT l yJx35411_init_45d68 cJx35411_init_45d68 2 none 1 20 0 0 [.ref it, .ref L] S0 H (fun v9 H1 => v9 = none ∧ H1.size = H.size + 0 ∧ OB θ H1 it 5 [.int (iI 0), .int (iI (-1)), .int (iI m), .ref L]) (fun _ _ => False) (fun x : Nat => x = it) := by
  refine ct_of (by decide +kernel) (Nat.le_of_ble_eq_true rfl) ?_
  intro pg en s mi args below meth co ls fx hs hr hlk hxt hin hl
  subst hs
  obtain ⟨hx, hb, hml, hown, hts⟩ := id fx.1
  have hS : va_S (fun x : Nat => x = it) s.heap s.heap [] := va_S.rf
  have hAB : ∀ x : Nat, (fun x : Nat => x = it) x → θ.2.2.2 ≤ x := fun x hx => by have hz2 := hz.2.1; (try dsimp only at hx); omega
  have hz0 := hz
  have hj0 := hj
  have hK := sz_K fx.2 hz
  have hz2 := hz.2.1
  have lh_q0 := h_q0.lt
  have lh_q1 := h_q1.lt
  refine lv_aload_n hx hb dJx35411_init_45d68_0 rfl (lv_at hl 0 rfl) ?_
  refine lv_aload_n hx hb dJx35411_init_45d68_1 rfl (lv_at hl 1 rfl) ?_
  refine r_putF (θ := θ) (C := RJx35411) (T := TJx35411) (N := 4) (ci := 5) (v := .ref L) (ty := .object "java/util/ArrayList") hx hb hts gwJx35411 tyJx35411 tyJx35411_ok nmJx35411 hown hK h_q0 (by first | ((try dsimp only); omega) | dsimp only) hS rfl 3 (by decide) k1433 (fun _ h => h) rfl (hin rfl) rfl (by decide +kernel) rfl rfl (Nat.le_of_ble_eq_true rfl) dJx35411_init_45d68_2 (fun H1 locs hqH1 hszH1 hkH1 hS => ?_)
  have hnH1 : OB θ H1 it 5 [.int (iI 0), .int (iI 0), .int (iI 0), .ref L] := hqH1
  have h_q1_H1 := h_q1.kept (hkH1 _ (by omega))
  have hzH1 := hz0.at hAB hS
  have hjH1 := hj0.at hAB hS
  have lnH1 := hnH1.lt
  refine lv_aload_n hx hb dJx35411_init_45d68_5 rfl (lv_at hl 0 rfl) ?_
  refine r_oinit hx hb hml hl hts hown k1429 k37 k38 dJx35411_init_45d68_6 (Nat.le_of_ble_eq_true rfl) (Nat.le_of_ble_eq_true rfl) ?_
  refine lv_aload_n hx hb dJx35411_init_45d68_9 rfl (lv_at hl 0 rfl) ?_
  refine q_con hx hb dJx35411_init_45d68_10 ?_
  refine r_put (θ := θ) (C := RJx35411) (T := TJx35411) (N := 4) (ci := 5) (v := .int (iI (-1))) (ty := .int) hx hb hts gwJx35411 tyJx35411 tyJx35411_ok nmJx35411 hown hK hnH1 (by first | ((try dsimp only); omega) | dsimp only) hS rfl 1 (by decide) k1431 (fun _ h => h) rfl (by decide +kernel) rfl rfl (Nat.le_of_ble_eq_true rfl) dJx35411_init_45d68_11 (fun H2 locs hqH2 hszH2 hkH2 hS => ?_)
  have hnH2 : OB θ H2 it 5 [.int (iI 0), .int (iI (-1)), .int (iI 0), .ref L] := hqH2
  have h_q1_H2 := h_q1_H1.kept (hkH2 _ (by omega))
  have hzH2 := hz0.at hAB hS
  have hjH2 := hj0.at hAB hS
  have lnH2 := hnH2.lt
  refine lv_aload_n hx hb dJx35411_init_45d68_14 rfl (lv_at hl 0 rfl) ?_
  refine lv_aload_n hx hb dJx35411_init_45d68_15 rfl (lv_at hl 0 rfl) ?_
  refine r_get (θ := θ) (C := RJx35411) (T := TJx35411) (N := 4) (ci := 5) hx hb hts gwJx35411 hown hK hnH2 rfl 3 (by decide) k1433 (fun _ h => h) (v := .ref L) rfl dJx35411_init_45d68_16 ?_
  refine r_get (θ := θ) (C := RJx4a65c) (T := TJx4a65c) (N := 3) (ci := 6) hx hb hts gwJx4a65c hown hK h_q1_H2 rfl 0 (by decide) k1323 (u_same (hts _ k1324)) (v := .int (iI m)) rfl dJx35411_init_45d68_19 ?_
  refine r_put (θ := θ) (C := RJx35411) (T := TJx35411) (N := 4) (ci := 5) (v := .int (iI m)) (ty := .int) hx hb hts gwJx35411 tyJx35411 tyJx35411_ok nmJx35411 hown hK hnH2 (by first | ((try dsimp only); omega) | dsimp only) hS rfl 2 (by decide) k1432 (fun _ h => h) rfl (by decide +kernel) rfl rfl (Nat.le_of_ble_eq_true rfl) dJx35411_init_45d68_22 (fun H3 locs hqH3 hszH3 hkH3 hS => ?_)
  have hnH3 : OB θ H3 it 5 [.int (iI 0), .int (iI (-1)), .int (iI m), .ref L] := hqH3
  have h_q1_H3 := h_q1_H2.kept (hkH3 _ (by omega))
  have hzH3 := hz0.at hAB hS
  have hjH3 := hj0.at hAB hS
  have lnH3 := hnH3.lt
  first | exact e_v hx hb hr hlk hS dJx35411_init_45d68_25 (by first | exact Nat.le_of_ble_eq_true rfl | ((try dsimp only); omega)) (by first | exact Nat.le_of_ble_eq_true rfl | ((try dsimp only); omega)) ⟨rfl, ⟨by omega, by first | exact hnH3 | (subst_vars; exact hnH3)⟩⟩ | exact (show False by omega).elim

set_option maxHeartbeats 4000000 in
set_option maxRecDepth 100000 in
theorem jm_iterator (θ : TH) (l : Launch) (S0 : State) (H : Heap) (hz : SZ θ S0 H) (hj : SJ θ S0 H) (L : Nat) (m : Int) (d : Nat) (k : Int) (h_q0 : OB θ H L 6 [.int (iI m), .ref d, .int (iI k)]) : CT l yJx4a65c_iterator_32c93 cJx4a65c_iterator_32c93 1 (some (.object "java/util/Iterator")) 2 41 1 4 [.ref L] S0 H (fun v9 H1 => v9 = some (.ref H.size) ∧ H1.size = H.size + 1 ∧ OB θ H1 H.size 5 [.int (iI 0), .int (iI (-1)), .int (iI m), .ref L]) (fun _ _ => False) (fun x : Nat => H.size ≤ x) := by
  refine ct_of (by decide +kernel) (Nat.le_of_ble_eq_true rfl) ?_
  intro pg en s mi args below meth co ls fx hs hr hlk hxt hin hl
  subst hs
  obtain ⟨hx, hb, hml, hown, hts⟩ := id fx.1
  have hS : va_S (fun x : Nat => s.heap.size ≤ x) s.heap s.heap [] := va_S.rf
  have hAB : ∀ x : Nat, (fun x : Nat => s.heap.size ≤ x) x → θ.2.2.2 ≤ x := fun x hx => by have hz2 := hz.2.1; (try dsimp only at hx); omega
  have hz0 := hz
  have hj0 := hj
  have hK := sz_K fx.2 hz
  have hz2 := hz.2.1
  have lh_q0 := h_q0.lt
  refine r_new (θ := θ) (ci := 5) (fs := [.int (iI 0), .int (iI 0), .int (iI 0), .null]) (C := RJx35411) (T := TJx35411) (N := 4) hx hb hts gwJx35411 tyJx35411 tyJx35411_ok hown k1424 k1425 k30 hK hS rfl (fun j hj => by rcases (show j = 0 ∨ j = 1 ∨ j = 2 ∨ j = 3 by omega) with rfl | rfl | rfl | rfl <;> rfl) (by (try dsimp only); omega) (by (try dsimp only); omega) dJx4a65c_iterator_32c93_0 (fun H1 hnH1 hszH1 hkH1 hS => ?_)
  have h_q0_H1 := h_q0.kept (hkH1 _ h_q0.lt)
  have hzH1 := hz0.at hAB hS
  have hjH1 := hj0.at hAB hS
  have lnH1 := hnH1.lt
  refine lv_dup hx hb dJx4a65c_iterator_32c93_3 rfl ?_
  refine lv_aload_n hx hb dJx4a65c_iterator_32c93_4 rfl (lv_at hl 0 rfl) ?_
  refine c_Ir (As := [.ref L]) (rest := [.ref s.heap.size]) (r := none) (st1 := [.ref s.heap.size]) fx hl (jm_itInit θ l S0 _ hzH1 hjH1 s.heap.size L m d k hnH1 h_q0_H1 (by omega) (by omega)) dJx4a65c_iterator_32c93_5 k1426 k1427 k30 k1428 rfl hd_Jx35411_init_45d68 rfl rfl ⟨by decide, by decide⟩ (Nat.le_of_ble_eq_true rfl) ⟨by (try dsimp only); omega, by (try dsimp only); omega⟩ hS (fun x hx => by first | exact hx.elim | ((try dsimp only at hx ⊢); omega)) (fun H2 locs hpH2 hsz0H2 hk0H2 hS => ?_)
  obtain ⟨hszH2, hoH2_0⟩ := hpH2
  have hkH2 : ∀ q : Nat, q < (H1).size → ¬ (q = s.heap.size) → H2[q]? = (H1)[q]? := fun q hq hn => hk0H2 q hq (by (try dsimp only); omega)
  have h_q0_H2 := h_q0_H1.kept (hkH2 _ h_q0_H1.lt (by omega))
  have lhoH2_0 := hoH2_0.lt
  have hzH2 := hz0.at hAB hS
  have hjH2 := hj0.at hAB hS
  first | exact e_a hx hb hr (by first | exact Or.inl ⟨_, rfl⟩ | exact Or.inr ⟨_, rfl⟩) hlk hS dJx4a65c_iterator_32c93_8 (by first | exact Nat.le_of_ble_eq_true rfl | ((try dsimp only); omega)) (by first | exact Nat.le_of_ble_eq_true rfl | ((try dsimp only); omega)) ⟨by first | rfl | (subst_vars; rfl) | (rw [show s.heap.size = s.heap.size from by omega]), ⟨by omega, by first | exact hoH2_0 | (subst_vars; exact hoH2_0)⟩⟩ | exact (show False by omega).elim

set_option maxHeartbeats 4000000 in
set_option maxRecDepth 100000 in
theorem jm_hasNext (θ : TH) (l : Launch) (S0 : State) (H : Heap) (hz : SZ θ S0 H) (hj : SJ θ S0 H) (it : Nat) (c1 : Int) (lr : Int) (m : Int) (L : Nat) (d : Nat) (k : Int) (h_q0 : OB θ H it 5 [.int (iI c1), .int (iI lr), .int (iI m), .ref L]) (h_q1 : OB θ H L 6 [.int (iI m), .ref d, .int (iI k)]) (h_0 : 0 ≤ c1 ∧ c1 ≤ k ∧ k ≤ 1000) : CT l yJx35411_hasNext_aae02 cJx35411_hasNext_aae02 1 (some .boolean) 0 0 0 0 [.ref it] S0 H (fun v9 H1 => v9 = some (.int (iI (if c1 = k then 0 else 1))) ∧ H1 = H) (fun _ _ => False) (fun _ : Nat => False) := by
  refine ct_of (by decide +kernel) (Nat.le_of_ble_eq_true rfl) ?_
  intro pg en s mi args below meth co ls fx hs hr hlk hxt hin hl
  subst hs
  obtain ⟨hx, hb, hml, hown, hts⟩ := id fx.1
  have hS : va_S (fun _ : Nat => False) s.heap s.heap [] := va_S.rf
  have hAB : ∀ x : Nat, (fun _ : Nat => False) x → θ.2.2.2 ≤ x := fun q h => h.elim
  have hz0 := hz
  have hj0 := hj
  have hK := sz_K fx.2 hz
  have hz2 := hz.2.1
  have lh_q0 := h_q0.lt
  have lh_q1 := h_q1.lt
  refine lv_aload_n hx hb dJx35411_hasNext_aae02_0 rfl (lv_at hl 0 rfl) ?_
  refine r_get (θ := θ) (C := RJx35411) (T := TJx35411) (N := 4) (ci := 5) hx hb hts gwJx35411 hown hK h_q0 rfl 0 (by decide) k1430 (fun _ h => h) (v := .int (iI c1)) rfl dJx35411_hasNext_aae02_1 ?_
  refine lv_aload_n hx hb dJx35411_hasNext_aae02_4 rfl (lv_at hl 0 rfl) ?_
  refine r_get (θ := θ) (C := RJx35411) (T := TJx35411) (N := 4) (ci := 5) hx hb hts gwJx35411 hown hK h_q0 rfl 3 (by decide) k1433 (fun _ h => h) (v := .ref L) rfl dJx35411_hasNext_aae02_5 ?_
  refine r_getN (θ := θ) (C := RJx4a65c) (T := TJx4a65c) (N := 3) (ci := 6) hx hb hts gwJx4a65c hown hK h_q1 rfl 2 (by decide) (va_Nw.use rfl (va_Nw.warmF fx.2 hj0.1.1.2.2.2)) (fun _ h => h) (v := .int (iI k)) rfl dJx35411_hasNext_aae02_8 ?_
  refine q_ceq (tgt := 18) hx hb dJx35411_hasNext_aae02_11 (by decide) (by omega) (by omega) (fun c1 => ?_) (fun c1 => ?_)
  · refine q_con hx hb dJx35411_hasNext_aae02_18 ?_
    first | exact e_b hx hb hr hlk (by rfl) hS dJx35411_hasNext_aae02_19 (by first | exact Nat.le_of_ble_eq_true rfl | ((try dsimp only); omega)) (by first | exact Nat.le_of_ble_eq_true rfl | ((try dsimp only); omega)) ⟨by first | rfl | exact ex_i (by first | omega | (subst_vars; split <;> omega)), rfl⟩ | exact (show False by omega).elim
  · refine q_con hx hb dJx35411_hasNext_aae02_14 ?_
    refine lv_goto (tgt := 19) hx hb dJx35411_hasNext_aae02_15 (by decide) ?_
    first | exact e_b hx hb hr hlk (by rfl) hS dJx35411_hasNext_aae02_19 (by first | exact Nat.le_of_ble_eq_true rfl | ((try dsimp only); omega)) (by first | exact Nat.le_of_ble_eq_true rfl | ((try dsimp only); omega)) ⟨by first | rfl | exact ex_i (by first | omega | (subst_vars; split <;> omega)), rfl⟩ | exact (show False by omega).elim

set_option maxHeartbeats 4000000 in
set_option maxRecDepth 100000 in
theorem jm_checkComod (θ : TH) (l : Launch) (S0 : State) (H : Heap) (hz : SZ θ S0 H) (hj : SJ θ S0 H) (it : Nat) (c1 : Int) (lr : Int) (m : Int) (L : Nat) (d : Nat) (k : Int) (h_q0 : OB θ H it 5 [.int (iI c1), .int (iI lr), .int (iI m), .ref L]) (h_q1 : OB θ H L 6 [.int (iI m), .ref d, .int (iI k)]) (h_0 : 0 ≤ m ∧ m ≤ 1000) : CT l yJx35411_checkForComodification_da8c8 cJx35411_checkForComodification_da8c8 1 none 0 0 0 0 [.ref it] S0 H (fun v9 H1 => v9 = none ∧ H1 = H) (fun _ _ => False) (fun _ : Nat => False) := by
  refine ct_of (by decide +kernel) (Nat.le_of_ble_eq_true rfl) ?_
  intro pg en s mi args below meth co ls fx hs hr hlk hxt hin hl
  subst hs
  obtain ⟨hx, hb, hml, hown, hts⟩ := id fx.1
  have hS : va_S (fun _ : Nat => False) s.heap s.heap [] := va_S.rf
  have hAB : ∀ x : Nat, (fun _ : Nat => False) x → θ.2.2.2 ≤ x := fun q h => h.elim
  have hz0 := hz
  have hj0 := hj
  have hK := sz_K fx.2 hz
  have hz2 := hz.2.1
  have lh_q0 := h_q0.lt
  have lh_q1 := h_q1.lt
  refine lv_aload_n hx hb dJx35411_checkForComodification_da8c8_0 rfl (lv_at hl 0 rfl) ?_
  refine r_get (θ := θ) (C := RJx35411) (T := TJx35411) (N := 4) (ci := 5) hx hb hts gwJx35411 hown hK h_q0 rfl 3 (by decide) k1433 (fun _ h => h) (v := .ref L) rfl dJx35411_checkForComodification_da8c8_1 ?_
  refine r_get (θ := θ) (C := RJx4a65c) (T := TJx4a65c) (N := 3) (ci := 6) hx hb hts gwJx4a65c hown hK h_q1 rfl 0 (by decide) k1323 (u_same (hts _ k1324)) (v := .int (iI m)) rfl dJx35411_checkForComodification_da8c8_4 ?_
  refine lv_aload_n hx hb dJx35411_checkForComodification_da8c8_7 rfl (lv_at hl 0 rfl) ?_
  refine r_get (θ := θ) (C := RJx35411) (T := TJx35411) (N := 4) (ci := 5) hx hb hts gwJx35411 hown hK h_q0 rfl 2 (by decide) k1432 (fun _ h => h) (v := .int (iI m)) rfl dJx35411_checkForComodification_da8c8_8 ?_
  refine q_ceq (tgt := 22) hx hb dJx35411_checkForComodification_da8c8_11 (by decide) (by omega) (by omega) (fun c1 => ?_) (fun c1 => ?_)
  · first | exact e_v hx hb hr hlk hS dJx35411_checkForComodification_da8c8_22 (by first | exact Nat.le_of_ble_eq_true rfl | ((try dsimp only); omega)) (by first | exact Nat.le_of_ble_eq_true rfl | ((try dsimp only); omega)) ⟨rfl, rfl⟩ | exact (show False by omega).elim
  · exact (show False by omega).elim

set_option maxHeartbeats 4000000 in
set_option maxRecDepth 100000 in
theorem jm_next (θ : TH) (l : Launch) (S0 : State) (H : Heap) (hz : SZ θ S0 H) (hj : SJ θ S0 H) (it : Nat) (c1 : Int) (lr : Int) (m : Int) (L : Nat) (d : Nat) (k : Int) (cap : Nat) (g : Nat → Option Nat) (y : Nat) (h_q0 : OB θ H it 5 [.int (iI c1), .int (iI lr), .int (iI m), .ref L]) (h_q1 : OB θ H L 6 [.int (iI m), .ref d, .int (iI k)]) (h_q2 : AO θ H d cap g) (h_0 : 0 ≤ m ∧ m ≤ 1000) (h_1 : 0 ≤ c1 ∧ c1 < k ∧ k ≤ cap ∧ cap ≤ 1000) (h_2 : g c1.toNat = some y) (h_3 : it ≠ L ∧ it ≠ d) (h_4 : θ.2.2.2 ≤ it) : CT l yJx35411_next_0502b cJx35411_next_0502b 3 (some (.object "java/lang/Object")) 1 20 0 0 [.ref it] S0 H (fun v9 H1 => v9 = some (.ref y) ∧ H1.size = H.size + 0 ∧ OB θ H1 it 5 [.int (iI (c1 + 1)), .int (iI c1), .int (iI m), .ref L]) (fun _ _ => False) (fun x : Nat => x = it) := by
  refine ct_of (by decide +kernel) (Nat.le_of_ble_eq_true rfl) ?_
  intro pg en s mi args below meth co ls fx hs hr hlk hxt hin hl
  subst hs
  obtain ⟨hx, hb, hml, hown, hts⟩ := id fx.1
  have hS : va_S (fun x : Nat => x = it) s.heap s.heap [] := va_S.rf
  have hAB : ∀ x : Nat, (fun x : Nat => x = it) x → θ.2.2.2 ≤ x := fun x hx => by have hz2 := hz.2.1; (try dsimp only at hx); omega
  have hz0 := hz
  have hj0 := hj
  have hK := sz_K fx.2 hz
  have hz2 := hz.2.1
  have lh_q0 := h_q0.lt
  have lh_q1 := h_q1.lt
  have lh_q2 := h_q2.lt
  refine lv_aload_n hx hb dJx35411_next_0502b_0 rfl (lv_at hl 0 rfl) ?_
  refine c_Vr (C := "java/util/ArrayList$Itr") (As := []) (rest := []) (r := none) (st1 := []) fx hl (jm_checkComod θ l S0 _ hz hj it c1 lr m L d k h_q0 h_q1 (by omega)) (ob_recv hK h_q0 rfl) dJx35411_next_0502b_1 k1462 k1463 k1464 k30 k1465 hd_Jx35411_checkForComodification_da8c8 rfl rfl ⟨by decide, by decide⟩ (Nat.le_of_ble_eq_true rfl) ⟨by (try dsimp only); omega, by (try dsimp only); omega⟩ hS (fun x hx => by first | exact hx.elim | ((try dsimp only at hx ⊢); omega)) (fun H1 locs hpH1 hsz0H1 hk0H1 hS => ?_)
  obtain rfl := hpH1.symm
  refine lv_aload_n hx hb dJx35411_next_0502b_4 rfl (lv_at hl 0 rfl) ?_
  refine r_get (θ := θ) (C := RJx35411) (T := TJx35411) (N := 4) (ci := 5) hx hb hts gwJx35411 hown hK h_q0 rfl 0 (by decide) k1430 (fun _ h => h) (v := .int (iI c1)) rfl dJx35411_next_0502b_5 ?_
  refine lv_istore_n (lv' := [(1, .int (iI c1)), (0, .ref it)]) hx hb dJx35411_next_0502b_8 rfl hl (by decide) rfl (fun ls hl => ?_)
  refine lv_iload_n hx hb dJx35411_next_0502b_9 rfl (lv_at hl 0 rfl) ?_
  refine lv_aload_n hx hb dJx35411_next_0502b_10 rfl (lv_at hl 1 rfl) ?_
  refine r_get (θ := θ) (C := RJx35411) (T := TJx35411) (N := 4) (ci := 5) hx hb hts gwJx35411 hown hK h_q0 rfl 3 (by decide) k1433 (fun _ h => h) (v := .ref L) rfl dJx35411_next_0502b_11 ?_
  refine r_getN (θ := θ) (C := RJx4a65c) (T := TJx4a65c) (N := 3) (ci := 6) hx hb hts gwJx4a65c hown hK h_q1 rfl 2 (by decide) (va_Nw.use rfl (va_Nw.warmF fx.2 hj0.1.1.2.2.2)) (fun _ h => h) (v := .int (iI k)) rfl dJx35411_next_0502b_14 ?_
  refine q_clt (tgt := 28) hx hb dJx35411_next_0502b_17 (by decide) (by omega) (by omega) (fun c2 => ?_) (fun c2 => ?_)
  · refine lv_aload_n hx hb dJx35411_next_0502b_28 rfl (lv_at hl 1 rfl) ?_
    refine r_get (θ := θ) (C := RJx35411) (T := TJx35411) (N := 4) (ci := 5) hx hb hts gwJx35411 hown hK h_q0 rfl 3 (by decide) k1433 (fun _ h => h) (v := .ref L) rfl dJx35411_next_0502b_29 ?_
    refine r_get (θ := θ) (C := RJx4a65c) (T := TJx4a65c) (N := 3) (ci := 6) hx hb hts gwJx4a65c hown hK h_q1 rfl 1 (by decide) k1319 (fun _ h => h) (v := .ref d) rfl dJx35411_next_0502b_32 ?_
    refine lv_astore_n (lv' := [(2, .ref d), (1, .int (iI c1)), (0, .ref it)]) hx hb dJx35411_next_0502b_35 rfl hl (by decide) rfl (fun ls hl => ?_)
    refine lv_iload_n hx hb dJx35411_next_0502b_36 rfl (lv_at hl 1 rfl) ?_
    refine lv_aload_n hx hb dJx35411_next_0502b_37 rfl (lv_at hl 0 rfl) ?_
    refine r_olen (θ := θ) hx hb hK h_q2 dJx35411_next_0502b_38 ?_
    refine q_clt (tgt := 50) hx hb dJx35411_next_0502b_39 (by decide) (by omega) (by omega) (fun c3 => ?_) (fun c3 => ?_)
    · refine lv_aload_n hx hb dJx35411_next_0502b_50 rfl (lv_at hl 2 rfl) ?_
      refine lv_iload_n hx hb dJx35411_next_0502b_51 rfl (lv_at hl 1 rfl) ?_
      refine q_con hx hb dJx35411_next_0502b_52 ?_
      refine q_add hx hb dJx35411_next_0502b_53 ?_
      refine q_nm (fun z4 ez4 => ?_)
      refine r_put (θ := θ) (C := RJx35411) (T := TJx35411) (N := 4) (ci := 5) (v := .int (iI z4)) (ty := .int) hx hb hts gwJx35411 tyJx35411 tyJx35411_ok nmJx35411 hown hK h_q0 (by first | ((try dsimp only); omega) | dsimp only) hS rfl 0 (by decide) k1430 (fun _ h => h) rfl (by decide +kernel) rfl rfl (Nat.le_of_ble_eq_true rfl) dJx35411_next_0502b_54 (fun H5 locs hqH5 hszH5 hkH5 hS => ?_)
      have hnH5 : OB θ H5 it 5 [.int (iI z4), .int (iI lr), .int (iI m), .ref L] := hqH5
      have h_q1_H5 := h_q1.kept (hkH5 _ (by omega))
      have h_q2_H5 := h_q2.kept (hkH5 _ (by omega))
      have hzH5 := hz0.at hAB hS
      have hjH5 := hj0.at hAB hS
      have lnH5 := hnH5.lt
      refine lv_aload_n hx hb dJx35411_next_0502b_57 rfl (lv_at hl 0 rfl) ?_
      refine lv_aload_n hx hb dJx35411_next_0502b_58 rfl (lv_at hl 2 rfl) ?_
      refine lv_iload_n hx hb dJx35411_next_0502b_59 rfl (lv_at hl 1 rfl) ?_
      refine lv_dup_x1 hx hb dJx35411_next_0502b_60 rfl rfl ?_
      refine r_put (θ := θ) (C := RJx35411) (T := TJx35411) (N := 4) (ci := 5) (v := .int (iI c1)) (ty := .int) hx hb hts gwJx35411 tyJx35411 tyJx35411_ok nmJx35411 hown hK hnH5 (by first | ((try dsimp only); omega) | dsimp only) hS rfl 1 (by decide) k1431 (fun _ h => h) rfl (by decide +kernel) rfl rfl (Nat.le_of_ble_eq_true rfl) dJx35411_next_0502b_61 (fun H6 locs hqH6 hszH6 hkH6 hS => ?_)
      have hnH6 : OB θ H6 it 5 [.int (iI z4), .int (iI c1), .int (iI m), .ref L] := hqH6
      have h_q1_H6 := h_q1_H5.kept (hkH6 _ (by omega))
      have h_q2_H6 := h_q2_H5.kept (hkH6 _ (by omega))
      have hzH6 := hz0.at hAB hS
      have hjH6 := hj0.at hAB hS
      have lnH6 := hnH6.lt
      refine r_oald (θ := θ) (y := y) (i := c1) hx hb hK h_q2_H6 (by omega) (by omega) h_2 dJx35411_next_0502b_64 ?_
      first | exact e_a hx hb hr (by first | exact Or.inl ⟨_, rfl⟩ | exact Or.inr ⟨_, rfl⟩) hlk hS dJx35411_next_0502b_65 (by first | exact Nat.le_of_ble_eq_true rfl | ((try dsimp only); omega)) (by first | exact Nat.le_of_ble_eq_true rfl | ((try dsimp only); omega)) ⟨by first | rfl | (subst_vars; rfl) | (rw [show y = y from by omega]), ⟨by omega, by first | exact hnH6 | (subst_vars; exact hnH6)⟩⟩ | exact (show False by omega).elim
    · exact (show False by omega).elim
  · exact (show False by omega).elim
