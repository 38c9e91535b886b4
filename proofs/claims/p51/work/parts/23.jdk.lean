def sgI (v : Int) : Int := if v < 10 then 1 else if v < 100 then 2 else if v < 1000 then 3 else 4
theorem sgI_b (v : Int) : (v < 10 → sgI v = 1) ∧ (10 ≤ v ∧ v < 100 → sgI v = 2) ∧ (100 ≤ v ∧ v < 1000 → sgI v = 3) ∧ (1000 ≤ v → sgI v = 4) ∧ 1 ≤ sgI v ∧ sgI v ≤ 4 := by
  unfold sgI
  (repeat' split) <;> omega
set_option maxHeartbeats 4000000 in
set_option maxRecDepth 100000 in
theorem jm_isLatin1 (θ : TH) (l : Launch) (S0 : State) (H : Heap) (hz : SZ θ S0 H) (hj : SJ θ S0 H) (a : Nat) (b : Nat) (n : Nat) (cnt : Int) (h_q0 : SB θ H a b n cnt) : CT l yJ5_isLatin1_aae02 cJ5_isLatin1_aae02 1 (some .boolean) 0 0 0 0 [.ref a] S0 H (fun v9 H1 => v9 = some (.int (iI 1)) ∧ H1 = H) (fun _ _ => False) (fun _ : Nat => False) := by
  refine ct_of (by decide +kernel) (Nat.le_of_ble_eq_true rfl) ?_
  intro pg en s mi args below meth co ls fx hs hr hlk hxt hin hl
  subst hs
  obtain ⟨hx, hb, hml, hown, hts⟩ := id fx.1
  have hS : va_S (fun _ : Nat => False) s.heap s.heap [] := va_S.rf
  have hAB : ∀ x : Nat, (fun _ : Nat => False) x → θ.2.2.2 ≤ x := fun q h => h.elim
  have hz0 := hz
  have hj0 := hj
  have hK := sz_K fx.2 hz
  have hz2 := hz.2.1
  have lh_q0 := h_q0.lt
  refine r_gets (θ := θ) hx hb fx.2 hz0.2.2.2.2.2.2.1 hAB hS hown (hts _ k48) dJ5_isLatin1_aae02_0 ?_
  refine q_ai 1 rfl ?_
  refine q_ieq (tgt := 17) hx hb dJ5_isLatin1_aae02_3 (by decide) (by omega) (fun c1 => ?_) (fun c1 => ?_)
  · exact (show False by omega).elim
  · refine lv_aload_n hx hb dJ5_isLatin1_aae02_6 rfl (lv_at hl 0 rfl) ?_
    obtain ⟨mlo2, hoo2, hbo2, hco2, hdo2⟩ := h_q0.split
    have loo2 := hoo2.lt
    have lbo2 := hbo2.lt
    refine r_get (θ := θ) (C := RJ4) (T := TJ4) (N := 4) (ci := 1) hx hb hts gwJ4 hown hK hoo2 rfl 1 (by decide) k58 (fun _ h => h) (v := .int (iI 0)) rfl dJ5_isLatin1_aae02_7 ?_
    refine q_ine (tgt := 17) hx hb dJ5_isLatin1_aae02_10 (by decide) (by omega) (fun c3 => ?_) (fun c3 => ?_)
    · exact (show False by omega).elim
    · refine q_con hx hb dJ5_isLatin1_aae02_13 ?_
      refine lv_goto (tgt := 18) hx hb dJ5_isLatin1_aae02_14 (by decide) ?_
      first | exact e_b hx hb hr hlk (by rfl) hS dJ5_isLatin1_aae02_18 (by first | exact Nat.le_of_ble_eq_true rfl | ((try dsimp only); omega)) (by first | exact Nat.le_of_ble_eq_true rfl | ((try dsimp only); omega)) ⟨by first | rfl | exact ex_i (by omega), rfl⟩ | exact (show False by omega).elim

set_option maxHeartbeats 4000000 in
set_option maxRecDepth 100000 in
theorem jm_ensureCap (θ : TH) (l : Launch) (S0 : State) (H : Heap) (hz : SZ θ S0 H) (hj : SJ θ S0 H) (a : Nat) (q : Int) (b : Nat) (n : Nat) (cnt : Int) (h_q0 : SB θ H a b n cnt) (h_0 : 0 ≤ q ∧ q ≤ n) (h_1 : n ≤ 1000) : CT l yJ5_ensureCapacityInternal_d00df cJ5_ensureCapacityInternal_d00df 3 none 0 0 0 0 [.ref a, .int (iI q)] S0 H (fun v9 H1 => v9 = none ∧ H1 = H) (fun _ _ => False) (fun _ : Nat => False) := by
  refine ct_of (by decide +kernel) (Nat.le_of_ble_eq_true rfl) ?_
  intro pg en s mi args below meth co ls fx hs hr hlk hxt hin hl
  subst hs
  obtain ⟨hx, hb, hml, hown, hts⟩ := id fx.1
  have hS : va_S (fun _ : Nat => False) s.heap s.heap [] := va_S.rf
  have hAB : ∀ x : Nat, (fun _ : Nat => False) x → θ.2.2.2 ≤ x := fun q h => h.elim
  have hz0 := hz
  have hj0 := hj
  have hK := sz_K fx.2 hz
  have hz2 := hz.2.1
  have lh_q0 := h_q0.lt
  refine lv_aload_n hx hb dJ5_ensureCapacityInternal_d00df_0 rfl (lv_at hl 0 rfl) ?_
  obtain ⟨mlo1, hoo1, hbo1, hco1, hdo1⟩ := h_q0.split
  have loo1 := hoo1.lt
  have lbo1 := hbo1.lt
  refine r_get (θ := θ) (C := RJ4) (T := TJ4) (N := 4) (ci := 1) hx hb hts gwJ4 hown hK hoo1 rfl 0 (by decide) k57 (fun _ h => h) (v := .ref b) rfl dJ5_ensureCapacityInternal_d00df_1 ?_
  obtain ⟨gy2, ty2, -⟩ := hbo1.T hK
  refine r_talen hx hb ty2 dJ5_ensureCapacityInternal_d00df_4 ?_
  refine lv_aload_n hx hb dJ5_ensureCapacityInternal_d00df_5 rfl (lv_at hl 0 rfl) ?_
  refine r_get (θ := θ) (C := RJ4) (T := TJ4) (N := 4) (ci := 1) hx hb hts gwJ4 hown hK hoo1 rfl 1 (by decide) k58 (fun _ h => h) (v := .int (iI 0)) rfl dJ5_ensureCapacityInternal_d00df_6 ?_
  refine q_shr0 hx hb dJ5_ensureCapacityInternal_d00df_9 ?_
  refine q_nm (fun z3 ez3 => ?_)
  refine lv_istore_n (lv' := [(2, .int (iI z3)), (0, .ref a), (1, .int (iI q))]) hx hb dJ5_ensureCapacityInternal_d00df_10 rfl hl (by decide) rfl (fun ls hl => ?_)
  refine lv_iload_n hx hb dJ5_ensureCapacityInternal_d00df_11 rfl (lv_at hl 2 rfl) ?_
  refine lv_iload_n hx hb dJ5_ensureCapacityInternal_d00df_12 rfl (lv_at hl 0 rfl) ?_
  refine q_sub hx hb dJ5_ensureCapacityInternal_d00df_13 ?_
  refine q_ile (tgt := 38) hx hb dJ5_ensureCapacityInternal_d00df_14 (by decide) (by omega) (fun c4 => ?_) (fun c4 => ?_)
  · first | exact e_v hx hb hr hlk hS dJ5_ensureCapacityInternal_d00df_38 (by first | exact Nat.le_of_ble_eq_true rfl | ((try dsimp only); omega)) (by first | exact Nat.le_of_ble_eq_true rfl | ((try dsimp only); omega)) ⟨rfl, rfl⟩ | exact (show False by omega).elim
  · exact (show False by omega).elim

set_option maxHeartbeats 4000000 in
set_option maxRecDepth 100000 in
theorem jm_canEncode (θ : TH) (l : Launch) (S0 : State) (H : Heap) (hz : SZ θ S0 H) (hj : SJ θ S0 H) (c1 : Int) (h_0 : 0 ≤ c1 ∧ c1 < 256) : CT l yJ1_canEncode_fc78d cJ1_canEncode_fc78d 1 (some .boolean) 0 0 0 0 [.int (iI c1)] S0 H (fun v9 H1 => v9 = some (.int (iI 1)) ∧ H1 = H) (fun _ _ => False) (fun _ : Nat => False) := by
  refine ct_of (by decide +kernel) (Nat.le_of_ble_eq_true rfl) ?_
  intro pg en s mi args below meth co ls fx hs hr hlk hxt hin hl
  subst hs
  obtain ⟨hx, hb, hml, hown, hts⟩ := id fx.1
  have hS : va_S (fun _ : Nat => False) s.heap s.heap [] := va_S.rf
  have hAB : ∀ x : Nat, (fun _ : Nat => False) x → θ.2.2.2 ≤ x := fun q h => h.elim
  have hz0 := hz
  have hj0 := hj
  have hK := sz_K fx.2 hz
  have hz2 := hz.2.1
  refine lv_iload_n hx hb dJ1_canEncode_fc78d_0 rfl (lv_at hl 0 rfl) ?_
  refine q_sip hx hb dJ1_canEncode_fc78d_1 (by decide) ?_
  refine q_cgt (tgt := 11) hx hb dJ1_canEncode_fc78d_4 (by decide) (by omega) (by omega) (fun c1 => ?_) (fun c1 => ?_)
  · refine q_con hx hb dJ1_canEncode_fc78d_11 ?_
    first | exact e_b hx hb hr hlk (by rfl) hS dJ1_canEncode_fc78d_12 (by first | exact Nat.le_of_ble_eq_true rfl | ((try dsimp only); omega)) (by first | exact Nat.le_of_ble_eq_true rfl | ((try dsimp only); omega)) ⟨by first | rfl | exact ex_i (by omega), rfl⟩ | exact (show False by omega).elim
  · refine q_con hx hb dJ1_canEncode_fc78d_7 ?_
    refine lv_goto (tgt := 12) hx hb dJ1_canEncode_fc78d_8 (by decide) ?_
    first | exact e_b hx hb hr hlk (by rfl) hS dJ1_canEncode_fc78d_12 (by first | exact Nat.le_of_ble_eq_true rfl | ((try dsimp only); omega)) (by first | exact Nat.le_of_ble_eq_true rfl | ((try dsimp only); omega)) ⟨by first | rfl | exact ex_i (by omega), rfl⟩ | exact (show False by omega).elim

set_option maxHeartbeats 4000000 in
set_option maxRecDepth 100000 in
theorem jm_appendC0 (θ : TH) (l : Launch) (S0 : State) (H : Heap) (hz : SZ θ S0 H) (hj : SJ θ S0 H) (a : Nat) (c1 : Int) (b : Nat) (n : Nat) (cnt : Int) (h_q0 : SB θ H a b n cnt) (h_0 : 0 ≤ c1 ∧ c1 < 256) (h_1 : n ≤ 1000) (h_2 : cnt + 1 ≤ n) (h_3 : a ≠ b) (h_4 : θ.2.2.2 ≤ a) (h_5 : θ.2.2.2 ≤ b) : CT l yJ5_append_3fe6f cJ5_append_3fe6f 2 (some (.object "java/lang/AbstractStringBuilder")) 1 22 0 0 [.ref a, .int (iI c1)] S0 H (fun v9 H1 => v9 = some (.ref a) ∧ H1.size = H.size + 0 ∧ SB θ H1 a b n (cnt + 1)) (fun _ _ => False) (fun x : Nat => x = a ∨ x = b) := by
  refine ct_of (by decide +kernel) (Nat.le_of_ble_eq_true rfl) ?_
  intro pg en s mi args below meth co ls fx hs hr hlk hxt hin hl
  subst hs
  obtain ⟨hx, hb, hml, hown, hts⟩ := id fx.1
  have hS : va_S (fun x : Nat => x = a ∨ x = b) s.heap s.heap [] := va_S.rf
  have hAB : ∀ x : Nat, (fun x : Nat => x = a ∨ x = b) x → θ.2.2.2 ≤ x := fun x hx => by have hz2 := hz.2.1; (try dsimp only at hx); omega
  have hz0 := hz
  have hj0 := hj
  have hK := sz_K fx.2 hz
  have hz2 := hz.2.1
  have lh_q0 := h_q0.lt
  refine lv_aload_n hx hb dJ5_append_3fe6f_0 rfl (lv_at hl 0 rfl) ?_
  refine lv_aload_n hx hb dJ5_append_3fe6f_1 rfl (lv_at hl 0 rfl) ?_
  obtain ⟨mlo1, hoo1, hbo1, hco1, hdo1⟩ := h_q0.split
  have loo1 := hoo1.lt
  have lbo1 := hbo1.lt
  refine r_get (θ := θ) (C := RJ4) (T := TJ4) (N := 4) (ci := 1) hx hb hts gwJ4 hown hK hoo1 rfl 3 (by decide) k61 (fun _ h => h) (v := .int (iI cnt)) rfl dJ5_append_3fe6f_2 ?_
  refine q_con hx hb dJ5_append_3fe6f_5 ?_
  refine q_add hx hb dJ5_append_3fe6f_6 ?_
  refine c_VPr (As := [.int (iI (cnt + 1))]) (rest := []) (r := none) (st1 := []) fx hl (jm_ensureCap θ l S0 _ hz hj a (cnt + 1) b n cnt (mk_sb hoo1 hbo1 (by omega)) (by omega) (by omega)) (ob_st hoo1) hj0.1.1.1 dJ5_append_3fe6f_7 k350 k352 k1632 k2 k353 hd_J5_ensureCapacityInternal_d00df rfl rfl ⟨by decide, by decide⟩ (Nat.le_of_ble_eq_true rfl) ⟨by (try dsimp only); omega, by (try dsimp only); omega⟩ hS (fun x hx => by first | exact hx.elim | ((try dsimp only at hx ⊢); omega)) (fun H2 locs hpH2 hsz0H2 hk0H2 hS => ?_)
  obtain rfl := hpH2.symm
  refine lv_aload_n hx hb dJ5_append_3fe6f_10 rfl (lv_at hl 0 rfl) ?_
  refine c_Vr (C := "java/lang/StringBuilder") (As := []) (rest := []) (r := some (.int (iI 1))) (st1 := [.int (iI 1)]) fx hl (jm_isLatin1 θ l S0 _ hz hj a b n cnt (mk_sb hoo1 hbo1 (by omega))) (ob_recv hK hoo1 rfl) dJ5_append_3fe6f_11 k383 k384 k386 k2 k387 hd_J5_isLatin1_aae02 rfl rfl ⟨by decide, by decide⟩ (Nat.le_of_ble_eq_true rfl) ⟨by (try dsimp only); omega, by (try dsimp only); omega⟩ hS (fun x hx => by first | exact hx.elim | ((try dsimp only at hx ⊢); omega)) (fun H3 locs hpH3 hsz0H3 hk0H3 hS => ?_)
  obtain rfl := hpH3.symm
  refine q_ieq (tgt := 45) hx hb dJ5_append_3fe6f_14 (by decide) (by omega) (fun c4 => ?_) (fun c4 => ?_)
  · exact (show False by omega).elim
  · refine lv_iload_n hx hb dJ5_append_3fe6f_17 rfl (lv_at hl 1 rfl) ?_
    refine c_Sr (As := [.int (iI c1)]) (rest := []) (r := some (.int (iI 1))) (st1 := [.int (iI 1)]) fx hl (jm_canEncode θ l S0 _ hz hj c1 (by omega)) dJ5_append_3fe6f_18 k604 k605 k28 k606 hd_J1_canEncode_fc78d rfl rfl ⟨by decide, by decide⟩ (Nat.le_of_ble_eq_true rfl) ⟨by (try dsimp only); omega, by (try dsimp only); omega⟩ hS (fun x hx => by first | exact hx.elim | ((try dsimp only at hx ⊢); omega)) (fun H5 locs hpH5 hsz0H5 hk0H5 hS => ?_)
    obtain rfl := hpH5.symm
    refine q_ieq (tgt := 45) hx hb dJ5_append_3fe6f_21 (by decide) (by omega) (fun c6 => ?_) (fun c6 => ?_)
    · exact (show False by omega).elim
    · refine lv_aload_n hx hb dJ5_append_3fe6f_24 rfl (lv_at hl 0 rfl) ?_
      refine r_get (θ := θ) (C := RJ4) (T := TJ4) (N := 4) (ci := 1) hx hb hts gwJ4 hown hK hoo1 rfl 0 (by decide) k57 (fun _ h => h) (v := .ref b) rfl dJ5_append_3fe6f_25 ?_
      refine lv_aload_n hx hb dJ5_append_3fe6f_28 rfl (lv_at hl 0 rfl) ?_
      refine lv_dup hx hb dJ5_append_3fe6f_29 rfl ?_
      refine r_get (θ := θ) (C := RJ4) (T := TJ4) (N := 4) (ci := 1) hx hb hts gwJ4 hown hK hoo1 rfl 3 (by decide) k61 (fun _ h => h) (v := .int (iI cnt)) rfl dJ5_append_3fe6f_30 ?_
      refine lv_dup_x1 hx hb dJ5_append_3fe6f_33 rfl rfl ?_
      refine q_con hx hb dJ5_append_3fe6f_34 ?_
      refine q_add hx hb dJ5_append_3fe6f_35 ?_
      refine q_nm (fun z7 ez7 => ?_)
      refine r_put (θ := θ) (C := RJ4) (T := TJ4) (N := 4) (ci := 1) (v := .int (iI z7)) (ty := .int) hx hb hts gwJ4 tyJ4 tyJ4_ok nmJ4 hown hK hoo1 (by first | ((try dsimp only); omega) | dsimp only) hS rfl 3 (by decide) k61 (fun _ h => h) rfl (by decide +kernel) rfl rfl (Nat.le_of_ble_eq_true rfl) dJ5_append_3fe6f_36 (fun H8 locs hqH8 hszH8 hkH8 hS => ?_)
      have hnH8 : OB θ H8 a 1 [.ref b, .int (iI 0), .int (iI mlo1), .int (iI z7)] := hqH8
      have hbo1_H8 := hbo1.kept (hkH8 _ (by omega))
      have hzH8 := hz0.at hAB hS
      have hjH8 := hj0.at hAB hS
      have lnH8 := hnH8.lt
      refine lv_iload_n hx hb dJ5_append_3fe6f_39 rfl (lv_at hl 1 rfl) ?_
      refine lv_i2b hx hb dJ5_append_3fe6f_40 rfl ?_
      refine r_bast (θ := θ) (a := b) hx hb hK hbo1_H8 (by first | ((try dsimp only); omega) | dsimp only) hS (i := cnt) (by omega) (by omega) dJ5_append_3fe6f_41 (fun H9 locs hnH9 hszH9 hkH9 hS => ?_)
      have hnH8_H9 := hnH8.kept (hkH9 _ (by omega))
      have hzH9 := hz0.at hAB hS
      have hjH9 := hj0.at hAB hS
      have lnH9 := hnH9.lt
      refine lv_goto (tgt := 75) hx hb dJ5_append_3fe6f_42 (by decide) ?_
      refine lv_aload_n hx hb dJ5_append_3fe6f_75 rfl (lv_at hl 0 rfl) ?_
      first | exact e_a hx hb hr (by first | exact Or.inl ⟨_, rfl⟩ | exact Or.inr ⟨_, rfl⟩) hlk hS dJ5_append_3fe6f_76 (by first | exact Nat.le_of_ble_eq_true rfl | ((try dsimp only); omega)) (by first | exact Nat.le_of_ble_eq_true rfl | ((try dsimp only); omega)) ⟨by first | rfl | (subst_vars; rfl) | (rw [show a = a from by omega]), ⟨by omega, by first | exact (mk_sb hnH8_H9 hnH9 (by omega)) | (subst_vars; exact (mk_sb hnH8_H9 hnH9 (by omega)))⟩⟩ | exact (show False by omega).elim

set_option maxHeartbeats 4000000 in
set_option maxRecDepth 100000 in
theorem jm_appendC (θ : TH) (l : Launch) (S0 : State) (H : Heap) (hz : SZ θ S0 H) (hj : SJ θ S0 H) (a : Nat) (c1 : Int) (b : Nat) (n : Nat) (cnt : Int) (h_q0 : SB θ H a b n cnt) (h_0 : 0 ≤ c1 ∧ c1 < 256) (h_1 : n ≤ 1000) (h_2 : cnt + 1 ≤ n) (h_3 : a ≠ b) (h_4 : θ.2.2.2 ≤ a) (h_5 : θ.2.2.2 ≤ b) : CT l yJ4_append_cf468 cJ4_append_cf468 2 (some (.object "java/lang/StringBuilder")) 2 43 0 0 [.ref a, .int (iI c1)] S0 H (fun v9 H1 => v9 = some (.ref a) ∧ H1.size = H.size + 0 ∧ SB θ H1 a b n (cnt + 1)) (fun _ _ => False) (fun x : Nat => x = a ∨ x = b) := by
  refine ct_of (by decide +kernel) (Nat.le_of_ble_eq_true rfl) ?_
  intro pg en s mi args below meth co ls fx hs hr hlk hxt hin hl
  subst hs
  obtain ⟨hx, hb, hml, hown, hts⟩ := id fx.1
  have hS : va_S (fun x : Nat => x = a ∨ x = b) s.heap s.heap [] := va_S.rf
  have hAB : ∀ x : Nat, (fun x : Nat => x = a ∨ x = b) x → θ.2.2.2 ≤ x := fun x hx => by have hz2 := hz.2.1; (try dsimp only at hx); omega
  have hz0 := hz
  have hj0 := hj
  have hK := sz_K fx.2 hz
  have hz2 := hz.2.1
  have lh_q0 := h_q0.lt
  refine lv_aload_n hx hb dJ4_append_cf468_0 rfl (lv_at hl 0 rfl) ?_
  refine lv_iload_n hx hb dJ4_append_cf468_1 rfl (lv_at hl 1 rfl) ?_
  refine c_SUr (As := [.int (iI c1)]) (rest := []) (r := some (.ref a)) (st1 := [.ref a]) fx hl (jm_appendC0 θ l S0 _ hz hj a c1 b n cnt h_q0 (by omega) (by omega) (by omega) (by omega) (by omega) (by omega)) hK h_q0.split.choose_spec.1 rfl dJ4_append_cf468_2 k601 k602 k1638 k70 k2 k603 (by decide) hd_J5_append_3fe6f rfl rfl ⟨by decide, by decide⟩ (Nat.le_of_ble_eq_true rfl) ⟨by (try dsimp only); omega, by (try dsimp only); omega⟩ hS (fun x hx => by first | exact hx.elim | ((try dsimp only at hx ⊢); omega)) (fun H1 locs hpH1 hsz0H1 hk0H1 hS => ?_)
  obtain ⟨hszH1, hoH1_0⟩ := hpH1
  have hkH1 : ∀ q : Nat, q < (s.heap).size → ¬ (q = a ∨ q = b) → H1[q]? = (s.heap)[q]? := fun q hq hn => hk0H1 q hq (by (try dsimp only); omega)
  have lhoH1_0 := hoH1_0.lt
  have hzH1 := hz0.at hAB hS
  have hjH1 := hj0.at hAB hS
  refine lv_pop hx hb dJ4_append_cf468_5 rfl ?_
  refine lv_aload_n hx hb dJ4_append_cf468_6 rfl (lv_at hl 0 rfl) ?_
  first | exact e_a hx hb hr (by first | exact Or.inl ⟨_, rfl⟩ | exact Or.inr ⟨_, rfl⟩) hlk hS dJ4_append_cf468_7 (by first | exact Nat.le_of_ble_eq_true rfl | ((try dsimp only); omega)) (by first | exact Nat.le_of_ble_eq_true rfl | ((try dsimp only); omega)) ⟨by first | rfl | (subst_vars; rfl) | (rw [show a = a from by omega]), ⟨by omega, by first | exact hoH1_0 | (subst_vars; exact hoH1_0)⟩⟩ | exact (show False by omega).elim

set_option maxHeartbeats 4000000 in
set_option maxRecDepth 100000 in
theorem jm_stringSize (θ : TH) (l : Launch) (S0 : State) (H : Heap) (hz : SZ θ S0 H) (hj : SJ θ S0 H) (v : Int) (h_0 : 0 ≤ v ∧ v < 10000) : CT l yJ6_stringSize_0f7a4 cJ6_stringSize_0f7a4 4 (some .int) 0 0 0 0 [.int (iI v)] S0 H (fun v9 H1 => v9 = some (.int (iI (sgI v))) ∧ H1 = H) (fun _ _ => False) (fun _ : Nat => False) := by
  refine ct_of (by decide +kernel) (Nat.le_of_ble_eq_true rfl) ?_
  intro pg en s mi args below meth co ls fx hs hr hlk hxt hin hl
  subst hs
  obtain ⟨hx, hb, hml, hown, hts⟩ := id fx.1
  have hS : va_S (fun _ : Nat => False) s.heap s.heap [] := va_S.rf
  have hAB : ∀ x : Nat, (fun _ : Nat => False) x → θ.2.2.2 ≤ x := fun q h => h.elim
  have hz0 := hz
  have hj0 := hj
  have hK := sz_K fx.2 hz
  have hz2 := hz.2.1
  refine q_con hx hb dJ6_stringSize_0f7a4_0 ?_
  refine lv_istore_n (lv' := [(1, .int (iI 1)), (0, .int (iI v))]) hx hb dJ6_stringSize_0f7a4_1 rfl hl (by decide) rfl (fun ls hl => ?_)
  refine lv_iload_n hx hb dJ6_stringSize_0f7a4_2 rfl (lv_at hl 1 rfl) ?_
  refine q_ilt (tgt := 11) hx hb dJ6_stringSize_0f7a4_3 (by decide) (by omega) (fun c1 => ?_) (fun c1 => ?_)
  · refine q_bip hx hb dJ6_stringSize_0f7a4_11 (by decide) ?_
    refine lv_istore_n (lv' := [(2, .int (iI (-10))), (1, .int (iI 1)), (0, .int (iI v))]) hx hb dJ6_stringSize_0f7a4_13 rfl hl (by decide) rfl (fun ls hl => ?_)
    refine q_con hx hb dJ6_stringSize_0f7a4_14 ?_
    refine lv_istore_n (lv' := [(3, .int (iI 1)), (2, .int (iI (-10))), (1, .int (iI 1)), (0, .int (iI v))]) hx hb dJ6_stringSize_0f7a4_15 rfl hl (by decide) rfl (fun ls hl => ?_)
    refine lv_iload_n hx hb dJ6_stringSize_0f7a4_16 rfl (lv_at hl 0 rfl) ?_
    refine q_bip hx hb dJ6_stringSize_0f7a4_17 (by decide) ?_
    refine q_cge (tgt := 42) hx hb dJ6_stringSize_0f7a4_19 (by decide) (by omega) (by omega) (fun c2 => ?_) (fun c2 => ?_)
    · exact (show False by omega).elim
    · refine lv_iload_n hx hb dJ6_stringSize_0f7a4_22 rfl (lv_at hl 3 rfl) ?_
      refine lv_iload_n hx hb dJ6_stringSize_0f7a4_23 rfl (lv_at hl 1 rfl) ?_
      refine q_cle (tgt := 31) hx hb dJ6_stringSize_0f7a4_24 (by decide) (by omega) (by omega) (fun c3 => ?_) (fun c3 => ?_)
      · refine q_bip hx hb dJ6_stringSize_0f7a4_31 (by decide) ?_
        refine lv_iload_n hx hb dJ6_stringSize_0f7a4_33 rfl (lv_at hl 1 rfl) ?_
        refine q_mul hx hb dJ6_stringSize_0f7a4_34 ?_
        refine q_as (-100) rfl ?_
        refine lv_istore_n (lv' := [(2, .int (iI (-100))), (3, .int (iI 1)), (1, .int (iI 1)), (0, .int (iI v))]) hx hb dJ6_stringSize_0f7a4_35 rfl hl (by decide) rfl (fun ls hl => ?_)
        refine lv_iinc (v := iI (2)) (lv' := [(3, .int (iI 2)), (2, .int (iI (-100))), (1, .int (iI 1)), (0, .int (iI v))]) hx hb dJ6_stringSize_0f7a4_36 hl (k := 1) rfl rfl (by decide) rfl (fun ls hl => ?_)
        refine lv_goto (tgt := 16) hx hb dJ6_stringSize_0f7a4_39 (by decide) ?_
        refine lv_iload_n hx hb dJ6_stringSize_0f7a4_16 rfl (lv_at hl 0 rfl) ?_
        refine q_bip hx hb dJ6_stringSize_0f7a4_17 (by decide) ?_
        refine q_cge (tgt := 42) hx hb dJ6_stringSize_0f7a4_19 (by decide) (by omega) (by omega) (fun c4 => ?_) (fun c4 => ?_)
        · exact (show False by omega).elim
        · refine lv_iload_n hx hb dJ6_stringSize_0f7a4_22 rfl (lv_at hl 3 rfl) ?_
          refine lv_iload_n hx hb dJ6_stringSize_0f7a4_23 rfl (lv_at hl 1 rfl) ?_
          refine q_cle (tgt := 31) hx hb dJ6_stringSize_0f7a4_24 (by decide) (by omega) (by omega) (fun c5 => ?_) (fun c5 => ?_)
          · refine q_bip hx hb dJ6_stringSize_0f7a4_31 (by decide) ?_
            refine lv_iload_n hx hb dJ6_stringSize_0f7a4_33 rfl (lv_at hl 1 rfl) ?_
            refine q_mul hx hb dJ6_stringSize_0f7a4_34 ?_
            refine q_as (-1000) rfl ?_
            refine lv_istore_n (lv' := [(2, .int (iI (-1000))), (3, .int (iI 2)), (1, .int (iI 1)), (0, .int (iI v))]) hx hb dJ6_stringSize_0f7a4_35 rfl hl (by decide) rfl (fun ls hl => ?_)
            refine lv_iinc (v := iI (3)) (lv' := [(3, .int (iI 3)), (2, .int (iI (-1000))), (1, .int (iI 1)), (0, .int (iI v))]) hx hb dJ6_stringSize_0f7a4_36 hl (k := 1) rfl rfl (by decide) rfl (fun ls hl => ?_)
            refine lv_goto (tgt := 16) hx hb dJ6_stringSize_0f7a4_39 (by decide) ?_
            refine lv_iload_n hx hb dJ6_stringSize_0f7a4_16 rfl (lv_at hl 0 rfl) ?_
            refine q_bip hx hb dJ6_stringSize_0f7a4_17 (by decide) ?_
            refine q_cge (tgt := 42) hx hb dJ6_stringSize_0f7a4_19 (by decide) (by omega) (by omega) (fun c6 => ?_) (fun c6 => ?_)
            · exact (show False by omega).elim
            · refine lv_iload_n hx hb dJ6_stringSize_0f7a4_22 rfl (lv_at hl 3 rfl) ?_
              refine lv_iload_n hx hb dJ6_stringSize_0f7a4_23 rfl (lv_at hl 1 rfl) ?_
              refine q_cle (tgt := 31) hx hb dJ6_stringSize_0f7a4_24 (by decide) (by omega) (by omega) (fun c7 => ?_) (fun c7 => ?_)
              · refine q_bip hx hb dJ6_stringSize_0f7a4_31 (by decide) ?_
                refine lv_iload_n hx hb dJ6_stringSize_0f7a4_33 rfl (lv_at hl 1 rfl) ?_
                refine q_mul hx hb dJ6_stringSize_0f7a4_34 ?_
                refine q_as (-10000) rfl ?_
                refine lv_istore_n (lv' := [(2, .int (iI (-10000))), (3, .int (iI 3)), (1, .int (iI 1)), (0, .int (iI v))]) hx hb dJ6_stringSize_0f7a4_35 rfl hl (by decide) rfl (fun ls hl => ?_)
                refine lv_iinc (v := iI (4)) (lv' := [(3, .int (iI 4)), (2, .int (iI (-10000))), (1, .int (iI 1)), (0, .int (iI v))]) hx hb dJ6_stringSize_0f7a4_36 hl (k := 1) rfl rfl (by decide) rfl (fun ls hl => ?_)
                refine lv_goto (tgt := 16) hx hb dJ6_stringSize_0f7a4_39 (by decide) ?_
                refine lv_iload_n hx hb dJ6_stringSize_0f7a4_16 rfl (lv_at hl 0 rfl) ?_
                refine q_bip hx hb dJ6_stringSize_0f7a4_17 (by decide) ?_
                refine q_cge (tgt := 42) hx hb dJ6_stringSize_0f7a4_19 (by decide) (by omega) (by omega) (fun c8 => ?_) (fun c8 => ?_)
                · exact (show False by omega).elim
                · refine lv_iload_n hx hb dJ6_stringSize_0f7a4_22 rfl (lv_at hl 3 rfl) ?_
                  refine lv_iload_n hx hb dJ6_stringSize_0f7a4_23 rfl (lv_at hl 1 rfl) ?_
                  refine q_cle (tgt := 31) hx hb dJ6_stringSize_0f7a4_24 (by decide) (by omega) (by omega) (fun c9 => ?_) (fun c9 => ?_)
                  · refine q_bip hx hb dJ6_stringSize_0f7a4_31 (by decide) ?_
                    refine lv_iload_n hx hb dJ6_stringSize_0f7a4_33 rfl (lv_at hl 1 rfl) ?_
                    refine q_mul hx hb dJ6_stringSize_0f7a4_34 ?_
                    refine q_as (-100000) rfl ?_
                    refine lv_istore_n (lv' := [(2, .int (iI (-100000))), (3, .int (iI 4)), (1, .int (iI 1)), (0, .int (iI v))]) hx hb dJ6_stringSize_0f7a4_35 rfl hl (by decide) rfl (fun ls hl => ?_)
                    refine lv_iinc (v := iI (5)) (lv' := [(3, .int (iI 5)), (2, .int (iI (-100000))), (1, .int (iI 1)), (0, .int (iI v))]) hx hb dJ6_stringSize_0f7a4_36 hl (k := 1) rfl rfl (by decide) rfl (fun ls hl => ?_)
                    refine lv_goto (tgt := 16) hx hb dJ6_stringSize_0f7a4_39 (by decide) ?_
                    refine lv_iload_n hx hb dJ6_stringSize_0f7a4_16 rfl (lv_at hl 0 rfl) ?_
                    refine q_bip hx hb dJ6_stringSize_0f7a4_17 (by decide) ?_
                    refine q_cge (tgt := 42) hx hb dJ6_stringSize_0f7a4_19 (by decide) (by omega) (by omega) (fun c10 => ?_) (fun c10 => ?_)
                    · exact (show False by omega).elim
                    · refine lv_iload_n hx hb dJ6_stringSize_0f7a4_22 rfl (lv_at hl 3 rfl) ?_
                      refine lv_iload_n hx hb dJ6_stringSize_0f7a4_23 rfl (lv_at hl 1 rfl) ?_
                      refine q_cle (tgt := 31) hx hb dJ6_stringSize_0f7a4_24 (by decide) (by omega) (by omega) (fun c11 => ?_) (fun c11 => ?_)
                      · refine q_bip hx hb dJ6_stringSize_0f7a4_31 (by decide) ?_
                        refine lv_iload_n hx hb dJ6_stringSize_0f7a4_33 rfl (lv_at hl 1 rfl) ?_
                        refine q_mul hx hb dJ6_stringSize_0f7a4_34 ?_
                        refine q_as (-1000000) rfl ?_
                        refine lv_istore_n (lv' := [(2, .int (iI (-1000000))), (3, .int (iI 5)), (1, .int (iI 1)), (0, .int (iI v))]) hx hb dJ6_stringSize_0f7a4_35 rfl hl (by decide) rfl (fun ls hl => ?_)
                        refine lv_iinc (v := iI (6)) (lv' := [(3, .int (iI 6)), (2, .int (iI (-1000000))), (1, .int (iI 1)), (0, .int (iI v))]) hx hb dJ6_stringSize_0f7a4_36 hl (k := 1) rfl rfl (by decide) rfl (fun ls hl => ?_)
                        refine lv_goto (tgt := 16) hx hb dJ6_stringSize_0f7a4_39 (by decide) ?_
                        refine lv_iload_n hx hb dJ6_stringSize_0f7a4_16 rfl (lv_at hl 0 rfl) ?_
                        refine q_bip hx hb dJ6_stringSize_0f7a4_17 (by decide) ?_
                        refine q_cge (tgt := 42) hx hb dJ6_stringSize_0f7a4_19 (by decide) (by omega) (by omega) (fun c12 => ?_) (fun c12 => ?_)
                        · exact (show False by omega).elim
                        · refine lv_iload_n hx hb dJ6_stringSize_0f7a4_22 rfl (lv_at hl 3 rfl) ?_
                          refine lv_iload_n hx hb dJ6_stringSize_0f7a4_23 rfl (lv_at hl 1 rfl) ?_
                          refine q_cle (tgt := 31) hx hb dJ6_stringSize_0f7a4_24 (by decide) (by omega) (by omega) (fun c13 => ?_) (fun c13 => ?_)
                          · refine q_bip hx hb dJ6_stringSize_0f7a4_31 (by decide) ?_
                            refine lv_iload_n hx hb dJ6_stringSize_0f7a4_33 rfl (lv_at hl 1 rfl) ?_
                            refine q_mul hx hb dJ6_stringSize_0f7a4_34 ?_
                            refine q_as (-10000000) rfl ?_
                            refine lv_istore_n (lv' := [(2, .int (iI (-10000000))), (3, .int (iI 6)), (1, .int (iI 1)), (0, .int (iI v))]) hx hb dJ6_stringSize_0f7a4_35 rfl hl (by decide) rfl (fun ls hl => ?_)
                            refine lv_iinc (v := iI (7)) (lv' := [(3, .int (iI 7)), (2, .int (iI (-10000000))), (1, .int (iI 1)), (0, .int (iI v))]) hx hb dJ6_stringSize_0f7a4_36 hl (k := 1) rfl rfl (by decide) rfl (fun ls hl => ?_)
                            refine lv_goto (tgt := 16) hx hb dJ6_stringSize_0f7a4_39 (by decide) ?_
                            refine lv_iload_n hx hb dJ6_stringSize_0f7a4_16 rfl (lv_at hl 0 rfl) ?_
                            refine q_bip hx hb dJ6_stringSize_0f7a4_17 (by decide) ?_
                            refine q_cge (tgt := 42) hx hb dJ6_stringSize_0f7a4_19 (by decide) (by omega) (by omega) (fun c14 => ?_) (fun c14 => ?_)
                            · exact (show False by omega).elim
                            · refine lv_iload_n hx hb dJ6_stringSize_0f7a4_22 rfl (lv_at hl 3 rfl) ?_
                              refine lv_iload_n hx hb dJ6_stringSize_0f7a4_23 rfl (lv_at hl 1 rfl) ?_
                              refine q_cle (tgt := 31) hx hb dJ6_stringSize_0f7a4_24 (by decide) (by omega) (by omega) (fun c15 => ?_) (fun c15 => ?_)
                              · refine q_bip hx hb dJ6_stringSize_0f7a4_31 (by decide) ?_
                                refine lv_iload_n hx hb dJ6_stringSize_0f7a4_33 rfl (lv_at hl 1 rfl) ?_
                                refine q_mul hx hb dJ6_stringSize_0f7a4_34 ?_
                                refine q_as (-100000000) rfl ?_
                                refine lv_istore_n (lv' := [(2, .int (iI (-100000000))), (3, .int (iI 7)), (1, .int (iI 1)), (0, .int (iI v))]) hx hb dJ6_stringSize_0f7a4_35 rfl hl (by decide) rfl (fun ls hl => ?_)
                                refine lv_iinc (v := iI (8)) (lv' := [(3, .int (iI 8)), (2, .int (iI (-100000000))), (1, .int (iI 1)), (0, .int (iI v))]) hx hb dJ6_stringSize_0f7a4_36 hl (k := 1) rfl rfl (by decide) rfl (fun ls hl => ?_)
                                refine lv_goto (tgt := 16) hx hb dJ6_stringSize_0f7a4_39 (by decide) ?_
                                refine lv_iload_n hx hb dJ6_stringSize_0f7a4_16 rfl (lv_at hl 0 rfl) ?_
                                refine q_bip hx hb dJ6_stringSize_0f7a4_17 (by decide) ?_
                                refine q_cge (tgt := 42) hx hb dJ6_stringSize_0f7a4_19 (by decide) (by omega) (by omega) (fun c16 => ?_) (fun c16 => ?_)
                                · exact (show False by omega).elim
                                · refine lv_iload_n hx hb dJ6_stringSize_0f7a4_22 rfl (lv_at hl 3 rfl) ?_
                                  refine lv_iload_n hx hb dJ6_stringSize_0f7a4_23 rfl (lv_at hl 1 rfl) ?_
                                  refine q_cle (tgt := 31) hx hb dJ6_stringSize_0f7a4_24 (by decide) (by omega) (by omega) (fun c17 => ?_) (fun c17 => ?_)
                                  · refine q_bip hx hb dJ6_stringSize_0f7a4_31 (by decide) ?_
                                    refine lv_iload_n hx hb dJ6_stringSize_0f7a4_33 rfl (lv_at hl 1 rfl) ?_
                                    refine q_mul hx hb dJ6_stringSize_0f7a4_34 ?_
                                    refine q_as (-1000000000) rfl ?_
                                    refine lv_istore_n (lv' := [(2, .int (iI (-1000000000))), (3, .int (iI 8)), (1, .int (iI 1)), (0, .int (iI v))]) hx hb dJ6_stringSize_0f7a4_35 rfl hl (by decide) rfl (fun ls hl => ?_)
                                    refine lv_iinc (v := iI (9)) (lv' := [(3, .int (iI 9)), (2, .int (iI (-1000000000))), (1, .int (iI 1)), (0, .int (iI v))]) hx hb dJ6_stringSize_0f7a4_36 hl (k := 1) rfl rfl (by decide) rfl (fun ls hl => ?_)
                                    refine lv_goto (tgt := 16) hx hb dJ6_stringSize_0f7a4_39 (by decide) ?_
                                    refine lv_iload_n hx hb dJ6_stringSize_0f7a4_16 rfl (lv_at hl 0 rfl) ?_
                                    refine q_bip hx hb dJ6_stringSize_0f7a4_17 (by decide) ?_
                                    refine q_cge (tgt := 42) hx hb dJ6_stringSize_0f7a4_19 (by decide) (by omega) (by omega) (fun c18 => ?_) (fun c18 => ?_)
                                    · exact (show False by omega).elim
                                    · refine lv_iload_n hx hb dJ6_stringSize_0f7a4_22 rfl (lv_at hl 3 rfl) ?_
                                      refine lv_iload_n hx hb dJ6_stringSize_0f7a4_23 rfl (lv_at hl 1 rfl) ?_
                                      refine q_cle (tgt := 31) hx hb dJ6_stringSize_0f7a4_24 (by decide) (by omega) (by omega) (fun c19 => ?_) (fun c19 => ?_)
                                      · refine q_bip hx hb dJ6_stringSize_0f7a4_31 (by decide) ?_
                                        refine lv_iload_n hx hb dJ6_stringSize_0f7a4_33 rfl (lv_at hl 1 rfl) ?_
                                        refine q_mul hx hb dJ6_stringSize_0f7a4_34 ?_
                                        refine q_as (-10000000000) rfl ?_
                                        refine lv_istore_n (lv' := [(2, .int (iI (-10000000000))), (3, .int (iI 9)), (1, .int (iI 1)), (0, .int (iI v))]) hx hb dJ6_stringSize_0f7a4_35 rfl hl (by decide) rfl (fun ls hl => ?_)
                                        refine lv_iinc (v := iI (10)) (lv' := [(3, .int (iI 10)), (2, .int (iI (-10000000000))), (1, .int (iI 1)), (0, .int (iI v))]) hx hb dJ6_stringSize_0f7a4_36 hl (k := 1) rfl rfl (by decide) rfl (fun ls hl => ?_)
                                        refine lv_goto (tgt := 16) hx hb dJ6_stringSize_0f7a4_39 (by decide) ?_
                                        refine lv_iload_n hx hb dJ6_stringSize_0f7a4_16 rfl (lv_at hl 0 rfl) ?_
                                        refine q_bip hx hb dJ6_stringSize_0f7a4_17 (by decide) ?_
                                        refine q_cge (tgt := 42) hx hb dJ6_stringSize_0f7a4_19 (by decide) (by omega) (by omega) (fun c20 => ?_) (fun c20 => ?_)
                                        · refine q_bip hx hb dJ6_stringSize_0f7a4_42 (by decide) ?_
                                          refine lv_iload_n hx hb dJ6_stringSize_0f7a4_44 rfl (lv_at hl 2 rfl) ?_
                                          refine q_add hx hb dJ6_stringSize_0f7a4_45 ?_
                                          refine q_as 11 rfl ?_
                                          first | exact e_i hx hb hr hlk hS dJ6_stringSize_0f7a4_46 (by first | exact Nat.le_of_ble_eq_true rfl | ((try dsimp only); omega)) (by first | exact Nat.le_of_ble_eq_true rfl | ((try dsimp only); omega)) ⟨ex_i (by subst_vars; unfold sgI; (repeat' split) <;> omega), rfl⟩ | exact (show False by omega).elim
                                        · exact (show False by omega).elim
                                      · refine lv_iload_n hx hb dJ6_stringSize_0f7a4_27 rfl (lv_at hl 0 rfl) ?_
                                        refine lv_iload_n hx hb dJ6_stringSize_0f7a4_28 rfl (lv_at hl 2 rfl) ?_
                                        refine q_add hx hb dJ6_stringSize_0f7a4_29 ?_
                                        refine q_as 10 rfl ?_
                                        first | exact e_i hx hb hr hlk hS dJ6_stringSize_0f7a4_30 (by first | exact Nat.le_of_ble_eq_true rfl | ((try dsimp only); omega)) (by first | exact Nat.le_of_ble_eq_true rfl | ((try dsimp only); omega)) ⟨ex_i (by subst_vars; unfold sgI; (repeat' split) <;> omega), rfl⟩ | exact (show False by omega).elim
                                  · refine lv_iload_n hx hb dJ6_stringSize_0f7a4_27 rfl (lv_at hl 0 rfl) ?_
                                    refine lv_iload_n hx hb dJ6_stringSize_0f7a4_28 rfl (lv_at hl 2 rfl) ?_
                                    refine q_add hx hb dJ6_stringSize_0f7a4_29 ?_
                                    refine q_as 9 rfl ?_
                                    first | exact e_i hx hb hr hlk hS dJ6_stringSize_0f7a4_30 (by first | exact Nat.le_of_ble_eq_true rfl | ((try dsimp only); omega)) (by first | exact Nat.le_of_ble_eq_true rfl | ((try dsimp only); omega)) ⟨ex_i (by subst_vars; unfold sgI; (repeat' split) <;> omega), rfl⟩ | exact (show False by omega).elim
                              · refine lv_iload_n hx hb dJ6_stringSize_0f7a4_27 rfl (lv_at hl 0 rfl) ?_
                                refine lv_iload_n hx hb dJ6_stringSize_0f7a4_28 rfl (lv_at hl 2 rfl) ?_
                                refine q_add hx hb dJ6_stringSize_0f7a4_29 ?_
                                refine q_as 8 rfl ?_
                                first | exact e_i hx hb hr hlk hS dJ6_stringSize_0f7a4_30 (by first | exact Nat.le_of_ble_eq_true rfl | ((try dsimp only); omega)) (by first | exact Nat.le_of_ble_eq_true rfl | ((try dsimp only); omega)) ⟨ex_i (by subst_vars; unfold sgI; (repeat' split) <;> omega), rfl⟩ | exact (show False by omega).elim
                          · refine lv_iload_n hx hb dJ6_stringSize_0f7a4_27 rfl (lv_at hl 0 rfl) ?_
                            refine lv_iload_n hx hb dJ6_stringSize_0f7a4_28 rfl (lv_at hl 2 rfl) ?_
                            refine q_add hx hb dJ6_stringSize_0f7a4_29 ?_
                            refine q_as 7 rfl ?_
                            first | exact e_i hx hb hr hlk hS dJ6_stringSize_0f7a4_30 (by first | exact Nat.le_of_ble_eq_true rfl | ((try dsimp only); omega)) (by first | exact Nat.le_of_ble_eq_true rfl | ((try dsimp only); omega)) ⟨ex_i (by subst_vars; unfold sgI; (repeat' split) <;> omega), rfl⟩ | exact (show False by omega).elim
                      · refine lv_iload_n hx hb dJ6_stringSize_0f7a4_27 rfl (lv_at hl 0 rfl) ?_
                        refine lv_iload_n hx hb dJ6_stringSize_0f7a4_28 rfl (lv_at hl 2 rfl) ?_
                        refine q_add hx hb dJ6_stringSize_0f7a4_29 ?_
                        refine q_as 6 rfl ?_
                        first | exact e_i hx hb hr hlk hS dJ6_stringSize_0f7a4_30 (by first | exact Nat.le_of_ble_eq_true rfl | ((try dsimp only); omega)) (by first | exact Nat.le_of_ble_eq_true rfl | ((try dsimp only); omega)) ⟨ex_i (by subst_vars; unfold sgI; (repeat' split) <;> omega), rfl⟩ | exact (show False by omega).elim
                  · refine lv_iload_n hx hb dJ6_stringSize_0f7a4_27 rfl (lv_at hl 0 rfl) ?_
                    refine lv_iload_n hx hb dJ6_stringSize_0f7a4_28 rfl (lv_at hl 2 rfl) ?_
                    refine q_add hx hb dJ6_stringSize_0f7a4_29 ?_
                    refine q_as 5 rfl ?_
                    first | exact e_i hx hb hr hlk hS dJ6_stringSize_0f7a4_30 (by first | exact Nat.le_of_ble_eq_true rfl | ((try dsimp only); omega)) (by first | exact Nat.le_of_ble_eq_true rfl | ((try dsimp only); omega)) ⟨ex_i (by subst_vars; unfold sgI; (repeat' split) <;> omega), rfl⟩ | exact (show False by omega).elim
              · refine lv_iload_n hx hb dJ6_stringSize_0f7a4_27 rfl (lv_at hl 0 rfl) ?_
                refine lv_iload_n hx hb dJ6_stringSize_0f7a4_28 rfl (lv_at hl 2 rfl) ?_
                refine q_add hx hb dJ6_stringSize_0f7a4_29 ?_
                refine q_as 4 rfl ?_
                first | exact e_i hx hb hr hlk hS dJ6_stringSize_0f7a4_30 (by first | exact Nat.le_of_ble_eq_true rfl | ((try dsimp only); omega)) (by first | exact Nat.le_of_ble_eq_true rfl | ((try dsimp only); omega)) ⟨ex_i (by subst_vars; unfold sgI; (repeat' split) <;> omega), rfl⟩ | exact (show False by omega).elim
          · refine lv_iload_n hx hb dJ6_stringSize_0f7a4_27 rfl (lv_at hl 0 rfl) ?_
            refine lv_iload_n hx hb dJ6_stringSize_0f7a4_28 rfl (lv_at hl 2 rfl) ?_
            refine q_add hx hb dJ6_stringSize_0f7a4_29 ?_
            refine q_as 3 rfl ?_
            first | exact e_i hx hb hr hlk hS dJ6_stringSize_0f7a4_30 (by first | exact Nat.le_of_ble_eq_true rfl | ((try dsimp only); omega)) (by first | exact Nat.le_of_ble_eq_true rfl | ((try dsimp only); omega)) ⟨ex_i (by subst_vars; unfold sgI; (repeat' split) <;> omega), rfl⟩ | exact (show False by omega).elim
      · refine lv_iload_n hx hb dJ6_stringSize_0f7a4_27 rfl (lv_at hl 0 rfl) ?_
        refine lv_iload_n hx hb dJ6_stringSize_0f7a4_28 rfl (lv_at hl 2 rfl) ?_
        refine q_add hx hb dJ6_stringSize_0f7a4_29 ?_
        refine q_as 2 rfl ?_
        first | exact e_i hx hb hr hlk hS dJ6_stringSize_0f7a4_30 (by first | exact Nat.le_of_ble_eq_true rfl | ((try dsimp only); omega)) (by first | exact Nat.le_of_ble_eq_true rfl | ((try dsimp only); omega)) ⟨ex_i (by subst_vars; unfold sgI; (repeat' split) <;> omega), rfl⟩ | exact (show False by omega).elim
  · refine q_con hx hb dJ6_stringSize_0f7a4_6 ?_
    refine lv_istore_n (lv' := [(1, .int (iI 0)), (0, .int (iI v))]) hx hb dJ6_stringSize_0f7a4_7 rfl hl (by decide) rfl (fun ls hl => ?_)
    refine lv_iload_n hx hb dJ6_stringSize_0f7a4_8 rfl (lv_at hl 1 rfl) ?_
    refine q_neg hx hb dJ6_stringSize_0f7a4_9 ?_
    refine lv_istore_n (lv' := [(0, .int (iI (-v))), (1, .int (iI 0))]) hx hb dJ6_stringSize_0f7a4_10 rfl hl (by decide) rfl (fun ls hl => ?_)
    refine q_bip hx hb dJ6_stringSize_0f7a4_11 (by decide) ?_
    refine lv_istore_n (lv' := [(2, .int (iI (-10))), (0, .int (iI (-v))), (1, .int (iI 0))]) hx hb dJ6_stringSize_0f7a4_13 rfl hl (by decide) rfl (fun ls hl => ?_)
    refine q_con hx hb dJ6_stringSize_0f7a4_14 ?_
    refine lv_istore_n (lv' := [(3, .int (iI 1)), (2, .int (iI (-10))), (0, .int (iI (-v))), (1, .int (iI 0))]) hx hb dJ6_stringSize_0f7a4_15 rfl hl (by decide) rfl (fun ls hl => ?_)
    refine lv_iload_n hx hb dJ6_stringSize_0f7a4_16 rfl (lv_at hl 0 rfl) ?_
    refine q_bip hx hb dJ6_stringSize_0f7a4_17 (by decide) ?_
    refine q_cge (tgt := 42) hx hb dJ6_stringSize_0f7a4_19 (by decide) (by omega) (by omega) (fun c21 => ?_) (fun c21 => ?_)
    · exact (show False by omega).elim
    · refine lv_iload_n hx hb dJ6_stringSize_0f7a4_22 rfl (lv_at hl 2 rfl) ?_
      refine lv_iload_n hx hb dJ6_stringSize_0f7a4_23 rfl (lv_at hl 1 rfl) ?_
      refine q_cle (tgt := 31) hx hb dJ6_stringSize_0f7a4_24 (by decide) (by omega) (by omega) (fun c22 => ?_) (fun c22 => ?_)
      · refine q_bip hx hb dJ6_stringSize_0f7a4_31 (by decide) ?_
        refine lv_iload_n hx hb dJ6_stringSize_0f7a4_33 rfl (lv_at hl 1 rfl) ?_
        refine q_mul hx hb dJ6_stringSize_0f7a4_34 ?_
        refine q_as (-100) rfl ?_
        refine lv_istore_n (lv' := [(2, .int (iI (-100))), (3, .int (iI 1)), (0, .int (iI (-v))), (1, .int (iI 0))]) hx hb dJ6_stringSize_0f7a4_35 rfl hl (by decide) rfl (fun ls hl => ?_)
        refine lv_iinc (v := iI (2)) (lv' := [(3, .int (iI 2)), (2, .int (iI (-100))), (0, .int (iI (-v))), (1, .int (iI 0))]) hx hb dJ6_stringSize_0f7a4_36 hl (k := 1) rfl rfl (by decide) rfl (fun ls hl => ?_)
        refine lv_goto (tgt := 16) hx hb dJ6_stringSize_0f7a4_39 (by decide) ?_
        refine lv_iload_n hx hb dJ6_stringSize_0f7a4_16 rfl (lv_at hl 0 rfl) ?_
        refine q_bip hx hb dJ6_stringSize_0f7a4_17 (by decide) ?_
        refine q_cge (tgt := 42) hx hb dJ6_stringSize_0f7a4_19 (by decide) (by omega) (by omega) (fun c23 => ?_) (fun c23 => ?_)
        · exact (show False by omega).elim
        · refine lv_iload_n hx hb dJ6_stringSize_0f7a4_22 rfl (lv_at hl 2 rfl) ?_
          refine lv_iload_n hx hb dJ6_stringSize_0f7a4_23 rfl (lv_at hl 1 rfl) ?_
          refine q_cle (tgt := 31) hx hb dJ6_stringSize_0f7a4_24 (by decide) (by omega) (by omega) (fun c24 => ?_) (fun c24 => ?_)
          · refine q_bip hx hb dJ6_stringSize_0f7a4_31 (by decide) ?_
            refine lv_iload_n hx hb dJ6_stringSize_0f7a4_33 rfl (lv_at hl 1 rfl) ?_
            refine q_mul hx hb dJ6_stringSize_0f7a4_34 ?_
            refine q_as (-1000) rfl ?_
            refine lv_istore_n (lv' := [(2, .int (iI (-1000))), (3, .int (iI 2)), (0, .int (iI (-v))), (1, .int (iI 0))]) hx hb dJ6_stringSize_0f7a4_35 rfl hl (by decide) rfl (fun ls hl => ?_)
            refine lv_iinc (v := iI (3)) (lv' := [(3, .int (iI 3)), (2, .int (iI (-1000))), (0, .int (iI (-v))), (1, .int (iI 0))]) hx hb dJ6_stringSize_0f7a4_36 hl (k := 1) rfl rfl (by decide) rfl (fun ls hl => ?_)
            refine lv_goto (tgt := 16) hx hb dJ6_stringSize_0f7a4_39 (by decide) ?_
            refine lv_iload_n hx hb dJ6_stringSize_0f7a4_16 rfl (lv_at hl 0 rfl) ?_
            refine q_bip hx hb dJ6_stringSize_0f7a4_17 (by decide) ?_
            refine q_cge (tgt := 42) hx hb dJ6_stringSize_0f7a4_19 (by decide) (by omega) (by omega) (fun c25 => ?_) (fun c25 => ?_)
            · exact (show False by omega).elim
            · refine lv_iload_n hx hb dJ6_stringSize_0f7a4_22 rfl (lv_at hl 2 rfl) ?_
              refine lv_iload_n hx hb dJ6_stringSize_0f7a4_23 rfl (lv_at hl 1 rfl) ?_
              refine q_cle (tgt := 31) hx hb dJ6_stringSize_0f7a4_24 (by decide) (by omega) (by omega) (fun c26 => ?_) (fun c26 => ?_)
              · refine q_bip hx hb dJ6_stringSize_0f7a4_31 (by decide) ?_
                refine lv_iload_n hx hb dJ6_stringSize_0f7a4_33 rfl (lv_at hl 1 rfl) ?_
                refine q_mul hx hb dJ6_stringSize_0f7a4_34 ?_
                refine q_as (-10000) rfl ?_
                refine lv_istore_n (lv' := [(2, .int (iI (-10000))), (3, .int (iI 3)), (0, .int (iI (-v))), (1, .int (iI 0))]) hx hb dJ6_stringSize_0f7a4_35 rfl hl (by decide) rfl (fun ls hl => ?_)
                refine lv_iinc (v := iI (4)) (lv' := [(3, .int (iI 4)), (2, .int (iI (-10000))), (0, .int (iI (-v))), (1, .int (iI 0))]) hx hb dJ6_stringSize_0f7a4_36 hl (k := 1) rfl rfl (by decide) rfl (fun ls hl => ?_)
                refine lv_goto (tgt := 16) hx hb dJ6_stringSize_0f7a4_39 (by decide) ?_
                refine lv_iload_n hx hb dJ6_stringSize_0f7a4_16 rfl (lv_at hl 0 rfl) ?_
                refine q_bip hx hb dJ6_stringSize_0f7a4_17 (by decide) ?_
                refine q_cge (tgt := 42) hx hb dJ6_stringSize_0f7a4_19 (by decide) (by omega) (by omega) (fun c27 => ?_) (fun c27 => ?_)
                · exact (show False by omega).elim
                · refine lv_iload_n hx hb dJ6_stringSize_0f7a4_22 rfl (lv_at hl 2 rfl) ?_
                  refine lv_iload_n hx hb dJ6_stringSize_0f7a4_23 rfl (lv_at hl 1 rfl) ?_
                  refine q_cle (tgt := 31) hx hb dJ6_stringSize_0f7a4_24 (by decide) (by omega) (by omega) (fun c28 => ?_) (fun c28 => ?_)
                  · refine q_bip hx hb dJ6_stringSize_0f7a4_31 (by decide) ?_
                    refine lv_iload_n hx hb dJ6_stringSize_0f7a4_33 rfl (lv_at hl 1 rfl) ?_
                    refine q_mul hx hb dJ6_stringSize_0f7a4_34 ?_
                    refine q_as (-100000) rfl ?_
                    refine lv_istore_n (lv' := [(2, .int (iI (-100000))), (3, .int (iI 4)), (0, .int (iI (-v))), (1, .int (iI 0))]) hx hb dJ6_stringSize_0f7a4_35 rfl hl (by decide) rfl (fun ls hl => ?_)
                    refine lv_iinc (v := iI (5)) (lv' := [(3, .int (iI 5)), (2, .int (iI (-100000))), (0, .int (iI (-v))), (1, .int (iI 0))]) hx hb dJ6_stringSize_0f7a4_36 hl (k := 1) rfl rfl (by decide) rfl (fun ls hl => ?_)
                    refine lv_goto (tgt := 16) hx hb dJ6_stringSize_0f7a4_39 (by decide) ?_
                    refine lv_iload_n hx hb dJ6_stringSize_0f7a4_16 rfl (lv_at hl 0 rfl) ?_
                    refine q_bip hx hb dJ6_stringSize_0f7a4_17 (by decide) ?_
                    refine q_cge (tgt := 42) hx hb dJ6_stringSize_0f7a4_19 (by decide) (by omega) (by omega) (fun c29 => ?_) (fun c29 => ?_)
                    · exact (show False by omega).elim
                    · refine lv_iload_n hx hb dJ6_stringSize_0f7a4_22 rfl (lv_at hl 2 rfl) ?_
                      refine lv_iload_n hx hb dJ6_stringSize_0f7a4_23 rfl (lv_at hl 1 rfl) ?_
                      refine q_cle (tgt := 31) hx hb dJ6_stringSize_0f7a4_24 (by decide) (by omega) (by omega) (fun c30 => ?_) (fun c30 => ?_)
                      · refine q_bip hx hb dJ6_stringSize_0f7a4_31 (by decide) ?_
                        refine lv_iload_n hx hb dJ6_stringSize_0f7a4_33 rfl (lv_at hl 1 rfl) ?_
                        refine q_mul hx hb dJ6_stringSize_0f7a4_34 ?_
                        refine q_as (-1000000) rfl ?_
                        refine lv_istore_n (lv' := [(2, .int (iI (-1000000))), (3, .int (iI 5)), (0, .int (iI (-v))), (1, .int (iI 0))]) hx hb dJ6_stringSize_0f7a4_35 rfl hl (by decide) rfl (fun ls hl => ?_)
                        refine lv_iinc (v := iI (6)) (lv' := [(3, .int (iI 6)), (2, .int (iI (-1000000))), (0, .int (iI (-v))), (1, .int (iI 0))]) hx hb dJ6_stringSize_0f7a4_36 hl (k := 1) rfl rfl (by decide) rfl (fun ls hl => ?_)
                        refine lv_goto (tgt := 16) hx hb dJ6_stringSize_0f7a4_39 (by decide) ?_
                        refine lv_iload_n hx hb dJ6_stringSize_0f7a4_16 rfl (lv_at hl 0 rfl) ?_
                        refine q_bip hx hb dJ6_stringSize_0f7a4_17 (by decide) ?_
                        refine q_cge (tgt := 42) hx hb dJ6_stringSize_0f7a4_19 (by decide) (by omega) (by omega) (fun c31 => ?_) (fun c31 => ?_)
                        · exact (show False by omega).elim
                        · refine lv_iload_n hx hb dJ6_stringSize_0f7a4_22 rfl (lv_at hl 2 rfl) ?_
                          refine lv_iload_n hx hb dJ6_stringSize_0f7a4_23 rfl (lv_at hl 1 rfl) ?_
                          refine q_cle (tgt := 31) hx hb dJ6_stringSize_0f7a4_24 (by decide) (by omega) (by omega) (fun c32 => ?_) (fun c32 => ?_)
                          · refine q_bip hx hb dJ6_stringSize_0f7a4_31 (by decide) ?_
                            refine lv_iload_n hx hb dJ6_stringSize_0f7a4_33 rfl (lv_at hl 1 rfl) ?_
                            refine q_mul hx hb dJ6_stringSize_0f7a4_34 ?_
                            refine q_as (-10000000) rfl ?_
                            refine lv_istore_n (lv' := [(2, .int (iI (-10000000))), (3, .int (iI 6)), (0, .int (iI (-v))), (1, .int (iI 0))]) hx hb dJ6_stringSize_0f7a4_35 rfl hl (by decide) rfl (fun ls hl => ?_)
                            refine lv_iinc (v := iI (7)) (lv' := [(3, .int (iI 7)), (2, .int (iI (-10000000))), (0, .int (iI (-v))), (1, .int (iI 0))]) hx hb dJ6_stringSize_0f7a4_36 hl (k := 1) rfl rfl (by decide) rfl (fun ls hl => ?_)
                            refine lv_goto (tgt := 16) hx hb dJ6_stringSize_0f7a4_39 (by decide) ?_
                            refine lv_iload_n hx hb dJ6_stringSize_0f7a4_16 rfl (lv_at hl 0 rfl) ?_
                            refine q_bip hx hb dJ6_stringSize_0f7a4_17 (by decide) ?_
                            refine q_cge (tgt := 42) hx hb dJ6_stringSize_0f7a4_19 (by decide) (by omega) (by omega) (fun c33 => ?_) (fun c33 => ?_)
                            · exact (show False by omega).elim
                            · refine lv_iload_n hx hb dJ6_stringSize_0f7a4_22 rfl (lv_at hl 2 rfl) ?_
                              refine lv_iload_n hx hb dJ6_stringSize_0f7a4_23 rfl (lv_at hl 1 rfl) ?_
                              refine q_cle (tgt := 31) hx hb dJ6_stringSize_0f7a4_24 (by decide) (by omega) (by omega) (fun c34 => ?_) (fun c34 => ?_)
                              · refine q_bip hx hb dJ6_stringSize_0f7a4_31 (by decide) ?_
                                refine lv_iload_n hx hb dJ6_stringSize_0f7a4_33 rfl (lv_at hl 1 rfl) ?_
                                refine q_mul hx hb dJ6_stringSize_0f7a4_34 ?_
                                refine q_as (-100000000) rfl ?_
                                refine lv_istore_n (lv' := [(2, .int (iI (-100000000))), (3, .int (iI 7)), (0, .int (iI (-v))), (1, .int (iI 0))]) hx hb dJ6_stringSize_0f7a4_35 rfl hl (by decide) rfl (fun ls hl => ?_)
                                refine lv_iinc (v := iI (8)) (lv' := [(3, .int (iI 8)), (2, .int (iI (-100000000))), (0, .int (iI (-v))), (1, .int (iI 0))]) hx hb dJ6_stringSize_0f7a4_36 hl (k := 1) rfl rfl (by decide) rfl (fun ls hl => ?_)
                                refine lv_goto (tgt := 16) hx hb dJ6_stringSize_0f7a4_39 (by decide) ?_
                                refine lv_iload_n hx hb dJ6_stringSize_0f7a4_16 rfl (lv_at hl 0 rfl) ?_
                                refine q_bip hx hb dJ6_stringSize_0f7a4_17 (by decide) ?_
                                refine q_cge (tgt := 42) hx hb dJ6_stringSize_0f7a4_19 (by decide) (by omega) (by omega) (fun c35 => ?_) (fun c35 => ?_)
                                · exact (show False by omega).elim
                                · refine lv_iload_n hx hb dJ6_stringSize_0f7a4_22 rfl (lv_at hl 2 rfl) ?_
                                  refine lv_iload_n hx hb dJ6_stringSize_0f7a4_23 rfl (lv_at hl 1 rfl) ?_
                                  refine q_cle (tgt := 31) hx hb dJ6_stringSize_0f7a4_24 (by decide) (by omega) (by omega) (fun c36 => ?_) (fun c36 => ?_)
                                  · refine q_bip hx hb dJ6_stringSize_0f7a4_31 (by decide) ?_
                                    refine lv_iload_n hx hb dJ6_stringSize_0f7a4_33 rfl (lv_at hl 1 rfl) ?_
                                    refine q_mul hx hb dJ6_stringSize_0f7a4_34 ?_
                                    refine q_as (-1000000000) rfl ?_
                                    refine lv_istore_n (lv' := [(2, .int (iI (-1000000000))), (3, .int (iI 8)), (0, .int (iI (-v))), (1, .int (iI 0))]) hx hb dJ6_stringSize_0f7a4_35 rfl hl (by decide) rfl (fun ls hl => ?_)
                                    refine lv_iinc (v := iI (9)) (lv' := [(3, .int (iI 9)), (2, .int (iI (-1000000000))), (0, .int (iI (-v))), (1, .int (iI 0))]) hx hb dJ6_stringSize_0f7a4_36 hl (k := 1) rfl rfl (by decide) rfl (fun ls hl => ?_)
                                    refine lv_goto (tgt := 16) hx hb dJ6_stringSize_0f7a4_39 (by decide) ?_
                                    refine lv_iload_n hx hb dJ6_stringSize_0f7a4_16 rfl (lv_at hl 0 rfl) ?_
                                    refine q_bip hx hb dJ6_stringSize_0f7a4_17 (by decide) ?_
                                    refine q_cge (tgt := 42) hx hb dJ6_stringSize_0f7a4_19 (by decide) (by omega) (by omega) (fun c37 => ?_) (fun c37 => ?_)
                                    · exact (show False by omega).elim
                                    · refine lv_iload_n hx hb dJ6_stringSize_0f7a4_22 rfl (lv_at hl 2 rfl) ?_
                                      refine lv_iload_n hx hb dJ6_stringSize_0f7a4_23 rfl (lv_at hl 1 rfl) ?_
                                      refine q_cle (tgt := 31) hx hb dJ6_stringSize_0f7a4_24 (by decide) (by omega) (by omega) (fun c38 => ?_) (fun c38 => ?_)
                                      · refine q_bip hx hb dJ6_stringSize_0f7a4_31 (by decide) ?_
                                        refine lv_iload_n hx hb dJ6_stringSize_0f7a4_33 rfl (lv_at hl 1 rfl) ?_
                                        refine q_mul hx hb dJ6_stringSize_0f7a4_34 ?_
                                        refine q_as (-10000000000) rfl ?_
                                        refine lv_istore_n (lv' := [(2, .int (iI (-10000000000))), (3, .int (iI 9)), (0, .int (iI (-v))), (1, .int (iI 0))]) hx hb dJ6_stringSize_0f7a4_35 rfl hl (by decide) rfl (fun ls hl => ?_)
                                        refine lv_iinc (v := iI (10)) (lv' := [(3, .int (iI 10)), (2, .int (iI (-10000000000))), (0, .int (iI (-v))), (1, .int (iI 0))]) hx hb dJ6_stringSize_0f7a4_36 hl (k := 1) rfl rfl (by decide) rfl (fun ls hl => ?_)
                                        refine lv_goto (tgt := 16) hx hb dJ6_stringSize_0f7a4_39 (by decide) ?_
                                        refine lv_iload_n hx hb dJ6_stringSize_0f7a4_16 rfl (lv_at hl 0 rfl) ?_
                                        refine q_bip hx hb dJ6_stringSize_0f7a4_17 (by decide) ?_
                                        refine q_cge (tgt := 42) hx hb dJ6_stringSize_0f7a4_19 (by decide) (by omega) (by omega) (fun c39 => ?_) (fun c39 => ?_)
                                        · refine q_bip hx hb dJ6_stringSize_0f7a4_42 (by decide) ?_
                                          refine lv_iload_n hx hb dJ6_stringSize_0f7a4_44 rfl (lv_at hl 3 rfl) ?_
                                          refine q_add hx hb dJ6_stringSize_0f7a4_45 ?_
                                          refine q_as 10 rfl ?_
                                          first | exact e_i hx hb hr hlk hS dJ6_stringSize_0f7a4_46 (by first | exact Nat.le_of_ble_eq_true rfl | ((try dsimp only); omega)) (by first | exact Nat.le_of_ble_eq_true rfl | ((try dsimp only); omega)) ⟨ex_i (by subst_vars; unfold sgI; (repeat' split) <;> omega), rfl⟩ | exact (show False by omega).elim
                                        · exact (show False by omega).elim
                                      · refine lv_iload_n hx hb dJ6_stringSize_0f7a4_27 rfl (lv_at hl 0 rfl) ?_
                                        refine lv_iload_n hx hb dJ6_stringSize_0f7a4_28 rfl (lv_at hl 3 rfl) ?_
                                        refine q_add hx hb dJ6_stringSize_0f7a4_29 ?_
                                        refine q_as 9 rfl ?_
                                        first | exact e_i hx hb hr hlk hS dJ6_stringSize_0f7a4_30 (by first | exact Nat.le_of_ble_eq_true rfl | ((try dsimp only); omega)) (by first | exact Nat.le_of_ble_eq_true rfl | ((try dsimp only); omega)) ⟨ex_i (by subst_vars; unfold sgI; (repeat' split) <;> omega), rfl⟩ | exact (show False by omega).elim
                                  · refine lv_iload_n hx hb dJ6_stringSize_0f7a4_27 rfl (lv_at hl 0 rfl) ?_
                                    refine lv_iload_n hx hb dJ6_stringSize_0f7a4_28 rfl (lv_at hl 3 rfl) ?_
                                    refine q_add hx hb dJ6_stringSize_0f7a4_29 ?_
                                    refine q_as 8 rfl ?_
                                    first | exact e_i hx hb hr hlk hS dJ6_stringSize_0f7a4_30 (by first | exact Nat.le_of_ble_eq_true rfl | ((try dsimp only); omega)) (by first | exact Nat.le_of_ble_eq_true rfl | ((try dsimp only); omega)) ⟨ex_i (by subst_vars; unfold sgI; (repeat' split) <;> omega), rfl⟩ | exact (show False by omega).elim
                              · refine lv_iload_n hx hb dJ6_stringSize_0f7a4_27 rfl (lv_at hl 0 rfl) ?_
                                refine lv_iload_n hx hb dJ6_stringSize_0f7a4_28 rfl (lv_at hl 3 rfl) ?_
                                refine q_add hx hb dJ6_stringSize_0f7a4_29 ?_
                                refine q_as 7 rfl ?_
                                first | exact e_i hx hb hr hlk hS dJ6_stringSize_0f7a4_30 (by first | exact Nat.le_of_ble_eq_true rfl | ((try dsimp only); omega)) (by first | exact Nat.le_of_ble_eq_true rfl | ((try dsimp only); omega)) ⟨ex_i (by subst_vars; unfold sgI; (repeat' split) <;> omega), rfl⟩ | exact (show False by omega).elim
                          · refine lv_iload_n hx hb dJ6_stringSize_0f7a4_27 rfl (lv_at hl 0 rfl) ?_
                            refine lv_iload_n hx hb dJ6_stringSize_0f7a4_28 rfl (lv_at hl 3 rfl) ?_
                            refine q_add hx hb dJ6_stringSize_0f7a4_29 ?_
                            refine q_as 6 rfl ?_
                            first | exact e_i hx hb hr hlk hS dJ6_stringSize_0f7a4_30 (by first | exact Nat.le_of_ble_eq_true rfl | ((try dsimp only); omega)) (by first | exact Nat.le_of_ble_eq_true rfl | ((try dsimp only); omega)) ⟨ex_i (by subst_vars; unfold sgI; (repeat' split) <;> omega), rfl⟩ | exact (show False by omega).elim
                      · refine lv_iload_n hx hb dJ6_stringSize_0f7a4_27 rfl (lv_at hl 0 rfl) ?_
                        refine lv_iload_n hx hb dJ6_stringSize_0f7a4_28 rfl (lv_at hl 3 rfl) ?_
                        refine q_add hx hb dJ6_stringSize_0f7a4_29 ?_
                        refine q_as 5 rfl ?_
                        first | exact e_i hx hb hr hlk hS dJ6_stringSize_0f7a4_30 (by first | exact Nat.le_of_ble_eq_true rfl | ((try dsimp only); omega)) (by first | exact Nat.le_of_ble_eq_true rfl | ((try dsimp only); omega)) ⟨ex_i (by subst_vars; unfold sgI; (repeat' split) <;> omega), rfl⟩ | exact (show False by omega).elim
                  · refine lv_iload_n hx hb dJ6_stringSize_0f7a4_27 rfl (lv_at hl 0 rfl) ?_
                    refine lv_iload_n hx hb dJ6_stringSize_0f7a4_28 rfl (lv_at hl 3 rfl) ?_
                    refine q_add hx hb dJ6_stringSize_0f7a4_29 ?_
                    refine q_as 4 rfl ?_
                    first | exact e_i hx hb hr hlk hS dJ6_stringSize_0f7a4_30 (by first | exact Nat.le_of_ble_eq_true rfl | ((try dsimp only); omega)) (by first | exact Nat.le_of_ble_eq_true rfl | ((try dsimp only); omega)) ⟨ex_i (by subst_vars; unfold sgI; (repeat' split) <;> omega), rfl⟩ | exact (show False by omega).elim
              · refine lv_iload_n hx hb dJ6_stringSize_0f7a4_27 rfl (lv_at hl 0 rfl) ?_
                refine lv_iload_n hx hb dJ6_stringSize_0f7a4_28 rfl (lv_at hl 3 rfl) ?_
                refine q_add hx hb dJ6_stringSize_0f7a4_29 ?_
                refine q_as 3 rfl ?_
                first | exact e_i hx hb hr hlk hS dJ6_stringSize_0f7a4_30 (by first | exact Nat.le_of_ble_eq_true rfl | ((try dsimp only); omega)) (by first | exact Nat.le_of_ble_eq_true rfl | ((try dsimp only); omega)) ⟨ex_i (by subst_vars; unfold sgI; (repeat' split) <;> omega), rfl⟩ | exact (show False by omega).elim
          · refine lv_iload_n hx hb dJ6_stringSize_0f7a4_27 rfl (lv_at hl 0 rfl) ?_
            refine lv_iload_n hx hb dJ6_stringSize_0f7a4_28 rfl (lv_at hl 3 rfl) ?_
            refine q_add hx hb dJ6_stringSize_0f7a4_29 ?_
            refine q_as 2 rfl ?_
            first | exact e_i hx hb hr hlk hS dJ6_stringSize_0f7a4_30 (by first | exact Nat.le_of_ble_eq_true rfl | ((try dsimp only); omega)) (by first | exact Nat.le_of_ble_eq_true rfl | ((try dsimp only); omega)) ⟨ex_i (by subst_vars; unfold sgI; (repeat' split) <;> omega), rfl⟩ | exact (show False by omega).elim
      · refine lv_iload_n hx hb dJ6_stringSize_0f7a4_27 rfl (lv_at hl 0 rfl) ?_
        refine lv_iload_n hx hb dJ6_stringSize_0f7a4_28 rfl (lv_at hl 3 rfl) ?_
        refine q_add hx hb dJ6_stringSize_0f7a4_29 ?_
        refine q_as 1 rfl ?_
        first | exact e_i hx hb hr hlk hS dJ6_stringSize_0f7a4_30 (by first | exact Nat.le_of_ble_eq_true rfl | ((try dsimp only); omega)) (by first | exact Nat.le_of_ble_eq_true rfl | ((try dsimp only); omega)) ⟨ex_i (by subst_vars; unfold sgI; (repeat' split) <;> omega), rfl⟩ | exact (show False by omega).elim

set_option maxHeartbeats 4000000 in
set_option maxRecDepth 100000 in
theorem jm_getChars (θ : TH) (l : Launch) (S0 : State) (H : Heap) (hz : SZ θ S0 H) (hj : SJ θ S0 H) (v : Int) (x1 : Int) (q : Nat) (n : Nat) (h_q0 : BY θ H q n) (h_0 : 0 ≤ v ∧ v < 10000) (h_1 : sgI v ≤ x1) (h_2 : x1 ≤ n) (h_3 : n ≤ 1000) (h_4 : θ.2.2.2 ≤ q) : CT l yJ6_getChars_ba4f3 cJ6_getChars_ba4f3 7 (some .int) 0 0 0 0 [.int (iI v), .int (iI x1), .ref q] S0 H (fun v9 H1 => v9 = some (.int (iI (x1 - sgI v))) ∧ H1.size = H.size + 0 ∧ BY θ H1 q n) (fun _ _ => False) (fun x : Nat => x = q) := by
  refine ct_of (by decide +kernel) (Nat.le_of_ble_eq_true rfl) ?_
  intro pg en s mi args below meth co ls fx hs hr hlk hxt hin hl
  subst hs
  obtain ⟨hx, hb, hml, hown, hts⟩ := id fx.1
  have hS : va_S (fun x : Nat => x = q) s.heap s.heap [] := va_S.rf
  have hAB : ∀ x : Nat, (fun x : Nat => x = q) x → θ.2.2.2 ≤ x := fun x hx => by have hz2 := hz.2.1; (try dsimp only at hx); omega
  have hz0 := hz
  have hj0 := hj
  have hK := sz_K fx.2 hz
  have hz2 := hz.2.1
  have lh_q0 := h_q0.lt
  have tsg := sgI_b v
  refine lv_iload_n hx hb dJ6_getChars_ba4f3_0 rfl (lv_at hl 1 rfl) ?_
  refine lv_istore (lv' := [(5, .int (iI x1)), (0, .int (iI v)), (1, .int (iI x1)), (2, .ref q)]) hx hb dJ6_getChars_ba4f3_1 hl (by decide) rfl (fun ls hl => ?_)
  refine lv_iload_n hx hb dJ6_getChars_ba4f3_3 rfl (lv_at hl 1 rfl) ?_
  refine q_ige (tgt := 11) hx hb dJ6_getChars_ba4f3_4 (by decide) (by omega) (fun c1 => ?_) (fun c1 => ?_)
  · refine q_con hx hb dJ6_getChars_ba4f3_11 ?_
    refine lv_istore (lv' := [(6, .int (iI 0)), (5, .int (iI x1)), (0, .int (iI v)), (1, .int (iI x1)), (2, .ref q)]) hx hb dJ6_getChars_ba4f3_12 hl (by decide) rfl (fun ls hl => ?_)
    refine lv_iload hx hb dJ6_getChars_ba4f3_14 (lv_at hl 0 rfl) ?_
    refine q_ine (tgt := 22) hx hb dJ6_getChars_ba4f3_16 (by decide) (by omega) (fun c2 => ?_) (fun c2 => ?_)
    · exact (show False by omega).elim
    · refine lv_iload_n hx hb dJ6_getChars_ba4f3_19 rfl (lv_at hl 2 rfl) ?_
      refine q_neg hx hb dJ6_getChars_ba4f3_20 ?_
      refine lv_istore_n (lv' := [(0, .int (iI (-v))), (6, .int (iI 0)), (5, .int (iI x1)), (1, .int (iI x1)), (2, .ref q)]) hx hb dJ6_getChars_ba4f3_21 rfl hl (by decide) rfl (fun ls hl => ?_)
      refine lv_iload_n hx hb dJ6_getChars_ba4f3_22 rfl (lv_at hl 0 rfl) ?_
      refine q_bip hx hb dJ6_getChars_ba4f3_23 (by decide) ?_
      refine q_cgt (tgt := 72) hx hb dJ6_getChars_ba4f3_25 (by decide) (by omega) (by omega) (fun c3 => ?_) (fun c3 => ?_)
      · refine lv_aload_n hx hb dJ6_getChars_ba4f3_72 rfl (lv_at hl 4 rfl) ?_
        refine lv_iinc (v := iI (x1 + (-1))) (lv' := [(5, .int (iI (x1 + (-1)))), (0, .int (iI (-v))), (6, .int (iI 0)), (1, .int (iI x1)), (2, .ref q)]) hx hb dJ6_getChars_ba4f3_73 hl (k := 2) rfl (iI_add _ _) (by decide) rfl (fun ls hl => ?_)
        refine lv_iload hx hb dJ6_getChars_ba4f3_76 (lv_at hl 0 rfl) ?_
        refine r_gets (θ := θ) hx hb fx.2 hj0.2.1.1 hAB hS hown (hts _ k470) dJ6_getChars_ba4f3_78 ?_
        refine lv_iload_n hx hb dJ6_getChars_ba4f3_81 rfl (lv_at hl 1 rfl) ?_
        refine q_neg hx hb dJ6_getChars_ba4f3_82 ?_
        obtain ⟨gy4, ty4⟩ := hj0.2.1.2
        refine r_tbald (i := -(-v)) hx hb fx.2 ty4 hAB hS (by omega) (by decide) dJ6_getChars_ba4f3_83 (fun y4 => ?_)
        refine r_bast (θ := θ) (a := q) hx hb hK h_q0 (by first | ((try dsimp only); omega) | dsimp only) hS (i := x1 + (-1)) (by omega) (by omega) dJ6_getChars_ba4f3_84 (fun H5 locs hnH5 hszH5 hkH5 hS => ?_)
        have hzH5 := hz0.at hAB hS
        have hjH5 := hj0.at hAB hS
        have lnH5 := hnH5.lt
        refine lv_iload_n hx hb dJ6_getChars_ba4f3_85 rfl (lv_at hl 1 rfl) ?_
        refine q_bip hx hb dJ6_getChars_ba4f3_86 (by decide) ?_
        refine q_cge (tgt := 104) hx hb dJ6_getChars_ba4f3_88 (by decide) (by omega) (by omega) (fun c6 => ?_) (fun c6 => ?_)
        · refine lv_iload hx hb dJ6_getChars_ba4f3_104 (lv_at hl 2 rfl) ?_
          refine q_ieq (tgt := 118) hx hb dJ6_getChars_ba4f3_106 (by decide) (by omega) (fun c7 => ?_) (fun c7 => ?_)
          · refine lv_iload hx hb dJ6_getChars_ba4f3_118 (lv_at hl 0 rfl) ?_
            first | exact e_i hx hb hr hlk hS dJ6_getChars_ba4f3_120 (by first | exact Nat.le_of_ble_eq_true rfl | ((try dsimp only); omega)) (by first | exact Nat.le_of_ble_eq_true rfl | ((try dsimp only); omega)) ⟨ex_i (by omega), ⟨by omega, by first | exact hnH5 | (subst_vars; exact hnH5)⟩⟩ | exact (show False by omega).elim
          · exact (show False by omega).elim
        · refine lv_aload_n hx hb dJ6_getChars_ba4f3_91 rfl (lv_at hl 4 rfl) ?_
          refine lv_iinc (v := iI (x1 + (-1) + (-1))) (lv' := [(5, .int (iI (x1 + (-1) + (-1)))), (0, .int (iI (-v))), (6, .int (iI 0)), (1, .int (iI x1)), (2, .ref q)]) hx hb dJ6_getChars_ba4f3_92 hl (k := 0) rfl (iI_add _ _) (by decide) rfl (fun ls hl => ?_)
          refine lv_iload hx hb dJ6_getChars_ba4f3_95 (lv_at hl 0 rfl) ?_
          refine r_gets (θ := θ) hx hb fx.2 hj0.2.2.1.1 hAB hS hown (hts _ k472) dJ6_getChars_ba4f3_97 ?_
          refine lv_iload_n hx hb dJ6_getChars_ba4f3_100 rfl (lv_at hl 1 rfl) ?_
          refine q_neg hx hb dJ6_getChars_ba4f3_101 ?_
          obtain ⟨gy8, ty8⟩ := hj0.2.2.1.2
          refine r_tbald (i := -(-v)) hx hb fx.2 ty8 hAB hS (by omega) (by decide) dJ6_getChars_ba4f3_102 (fun y8 => ?_)
          refine r_bast (θ := θ) (a := q) hx hb hK hnH5 (by first | ((try dsimp only); omega) | dsimp only) hS (i := x1 + (-1) + (-1)) (by omega) (by omega) dJ6_getChars_ba4f3_103 (fun H9 locs hnH9 hszH9 hkH9 hS => ?_)
          have hzH9 := hz0.at hAB hS
          have hjH9 := hj0.at hAB hS
          have lnH9 := hnH9.lt
          refine lv_iload hx hb dJ6_getChars_ba4f3_104 (lv_at hl 2 rfl) ?_
          refine q_ieq (tgt := 118) hx hb dJ6_getChars_ba4f3_106 (by decide) (by omega) (fun c10 => ?_) (fun c10 => ?_)
          · refine lv_iload hx hb dJ6_getChars_ba4f3_118 (lv_at hl 0 rfl) ?_
            first | exact e_i hx hb hr hlk hS dJ6_getChars_ba4f3_120 (by first | exact Nat.le_of_ble_eq_true rfl | ((try dsimp only); omega)) (by first | exact Nat.le_of_ble_eq_true rfl | ((try dsimp only); omega)) ⟨ex_i (by omega), ⟨by omega, by first | exact hnH9 | (subst_vars; exact hnH9)⟩⟩ | exact (show False by omega).elim
          · exact (show False by omega).elim
      · refine lv_iload_n hx hb dJ6_getChars_ba4f3_28 rfl (lv_at hl 0 rfl) ?_
        refine q_bip hx hb dJ6_getChars_ba4f3_29 (by decide) ?_
        refine q_div hx hb dJ6_getChars_ba4f3_31 (by omega) (by omega) ?_
        refine q_nm (fun z11 ez11 => ?_)
        have fz11 : 0 ≤ (-v) → z11 = (-v) / 100 := fun h => by rw [ez11, tdiv_pos h (by omega)]
        have gz11 : (-v) < 0 → z11 = -((-(-v)) / 100) := fun h => by rw [ez11, tdiv_neg' h]
        clear ez11
        refine lv_istore_n (lv' := [(3, .int (iI z11)), (0, .int (iI (-v))), (6, .int (iI 0)), (5, .int (iI x1)), (1, .int (iI x1)), (2, .ref q)]) hx hb dJ6_getChars_ba4f3_32 rfl hl (by decide) rfl (fun ls hl => ?_)
        refine lv_iload_n hx hb dJ6_getChars_ba4f3_33 rfl (lv_at hl 0 rfl) ?_
        refine q_bip hx hb dJ6_getChars_ba4f3_34 (by decide) ?_
        refine q_mul hx hb dJ6_getChars_ba4f3_36 ?_
        refine lv_iload_n hx hb dJ6_getChars_ba4f3_37 rfl (lv_at hl 1 rfl) ?_
        refine q_sub hx hb dJ6_getChars_ba4f3_38 ?_
        refine q_nm (fun z12 ez12 => ?_)
        refine lv_istore (lv' := [(4, .int (iI z12)), (3, .int (iI z11)), (0, .int (iI (-v))), (6, .int (iI 0)), (5, .int (iI x1)), (1, .int (iI x1)), (2, .ref q)]) hx hb dJ6_getChars_ba4f3_39 hl (by decide) rfl (fun ls hl => ?_)
        refine lv_iload_n hx hb dJ6_getChars_ba4f3_41 rfl (lv_at hl 1 rfl) ?_
        refine lv_istore_n (lv' := [(0, .int (iI z11)), (4, .int (iI z12)), (3, .int (iI z11)), (6, .int (iI 0)), (5, .int (iI x1)), (1, .int (iI x1)), (2, .ref q)]) hx hb dJ6_getChars_ba4f3_42 rfl hl (by decide) rfl (fun ls hl => ?_)
        refine lv_aload_n hx hb dJ6_getChars_ba4f3_43 rfl (lv_at hl 6 rfl) ?_
        refine lv_iinc (v := iI (x1 + (-1))) (lv' := [(5, .int (iI (x1 + (-1)))), (0, .int (iI z11)), (4, .int (iI z12)), (3, .int (iI z11)), (6, .int (iI 0)), (1, .int (iI x1)), (2, .ref q)]) hx hb dJ6_getChars_ba4f3_44 hl (k := 4) rfl (iI_add _ _) (by decide) rfl (fun ls hl => ?_)
        refine lv_iload hx hb dJ6_getChars_ba4f3_47 (lv_at hl 0 rfl) ?_
        refine r_gets (θ := θ) hx hb fx.2 hj0.2.1.1 hAB hS hown (hts _ k470) dJ6_getChars_ba4f3_49 ?_
        refine lv_iload hx hb dJ6_getChars_ba4f3_52 (lv_at hl 2 rfl) ?_
        obtain ⟨gy13, ty13⟩ := hj0.2.1.2
        refine r_tbald (i := z12) hx hb fx.2 ty13 hAB hS (by omega) (by decide) dJ6_getChars_ba4f3_54 (fun y13 => ?_)
        refine r_bast (θ := θ) (a := q) hx hb hK h_q0 (by first | ((try dsimp only); omega) | dsimp only) hS (i := x1 + (-1)) (by omega) (by omega) dJ6_getChars_ba4f3_55 (fun H14 locs hnH14 hszH14 hkH14 hS => ?_)
        have hzH14 := hz0.at hAB hS
        have hjH14 := hj0.at hAB hS
        have lnH14 := hnH14.lt
        refine lv_aload_n hx hb dJ6_getChars_ba4f3_56 rfl (lv_at hl 6 rfl) ?_
        refine lv_iinc (v := iI (x1 + (-1) + (-1))) (lv' := [(5, .int (iI (x1 + (-1) + (-1)))), (0, .int (iI z11)), (4, .int (iI z12)), (3, .int (iI z11)), (6, .int (iI 0)), (1, .int (iI x1)), (2, .ref q)]) hx hb dJ6_getChars_ba4f3_57 hl (k := 0) rfl (iI_add _ _) (by decide) rfl (fun ls hl => ?_)
        refine lv_iload hx hb dJ6_getChars_ba4f3_60 (lv_at hl 0 rfl) ?_
        refine r_gets (θ := θ) hx hb fx.2 hj0.2.2.1.1 hAB hS hown (hts _ k472) dJ6_getChars_ba4f3_62 ?_
        refine lv_iload hx hb dJ6_getChars_ba4f3_65 (lv_at hl 2 rfl) ?_
        obtain ⟨gy15, ty15⟩ := hj0.2.2.1.2
        refine r_tbald (i := z12) hx hb fx.2 ty15 hAB hS (by omega) (by decide) dJ6_getChars_ba4f3_67 (fun y15 => ?_)
        refine r_bast (θ := θ) (a := q) hx hb hK hnH14 (by first | ((try dsimp only); omega) | dsimp only) hS (i := x1 + (-1) + (-1)) (by omega) (by omega) dJ6_getChars_ba4f3_68 (fun H16 locs hnH16 hszH16 hkH16 hS => ?_)
        have hzH16 := hz0.at hAB hS
        have hjH16 := hj0.at hAB hS
        have lnH16 := hnH16.lt
        refine lv_goto (tgt := 22) hx hb dJ6_getChars_ba4f3_69 (by decide) ?_
        refine lv_iload_n hx hb dJ6_getChars_ba4f3_22 rfl (lv_at hl 1 rfl) ?_
        refine q_bip hx hb dJ6_getChars_ba4f3_23 (by decide) ?_
        refine q_cgt (tgt := 72) hx hb dJ6_getChars_ba4f3_25 (by decide) (by omega) (by omega) (fun c17 => ?_) (fun c17 => ?_)
        · refine lv_aload_n hx hb dJ6_getChars_ba4f3_72 rfl (lv_at hl 6 rfl) ?_
          refine lv_iinc (v := iI (x1 + (-1) + (-1) + (-1))) (lv' := [(5, .int (iI (x1 + (-1) + (-1) + (-1)))), (0, .int (iI z11)), (4, .int (iI z12)), (3, .int (iI z11)), (6, .int (iI 0)), (1, .int (iI x1)), (2, .ref q)]) hx hb dJ6_getChars_ba4f3_73 hl (k := 0) rfl (iI_add _ _) (by decide) rfl (fun ls hl => ?_)
          refine lv_iload hx hb dJ6_getChars_ba4f3_76 (lv_at hl 0 rfl) ?_
          refine r_gets (θ := θ) hx hb fx.2 hj0.2.1.1 hAB hS hown (hts _ k470) dJ6_getChars_ba4f3_78 ?_
          refine lv_iload_n hx hb dJ6_getChars_ba4f3_81 rfl (lv_at hl 1 rfl) ?_
          refine q_neg hx hb dJ6_getChars_ba4f3_82 ?_
          obtain ⟨gy18, ty18⟩ := hj0.2.1.2
          refine r_tbald (i := -z11) hx hb fx.2 ty18 hAB hS (by omega) (by decide) dJ6_getChars_ba4f3_83 (fun y18 => ?_)
          refine r_bast (θ := θ) (a := q) hx hb hK hnH16 (by first | ((try dsimp only); omega) | dsimp only) hS (i := x1 + (-1) + (-1) + (-1)) (by omega) (by omega) dJ6_getChars_ba4f3_84 (fun H19 locs hnH19 hszH19 hkH19 hS => ?_)
          have hzH19 := hz0.at hAB hS
          have hjH19 := hj0.at hAB hS
          have lnH19 := hnH19.lt
          refine lv_iload_n hx hb dJ6_getChars_ba4f3_85 rfl (lv_at hl 1 rfl) ?_
          refine q_bip hx hb dJ6_getChars_ba4f3_86 (by decide) ?_
          refine q_cge (tgt := 104) hx hb dJ6_getChars_ba4f3_88 (by decide) (by omega) (by omega) (fun c20 => ?_) (fun c20 => ?_)
          · refine lv_iload hx hb dJ6_getChars_ba4f3_104 (lv_at hl 4 rfl) ?_
            refine q_ieq (tgt := 118) hx hb dJ6_getChars_ba4f3_106 (by decide) (by omega) (fun c21 => ?_) (fun c21 => ?_)
            · refine lv_iload hx hb dJ6_getChars_ba4f3_118 (lv_at hl 0 rfl) ?_
              first | exact e_i hx hb hr hlk hS dJ6_getChars_ba4f3_120 (by first | exact Nat.le_of_ble_eq_true rfl | ((try dsimp only); omega)) (by first | exact Nat.le_of_ble_eq_true rfl | ((try dsimp only); omega)) ⟨ex_i (by omega), ⟨by omega, by first | exact hnH19 | (subst_vars; exact hnH19)⟩⟩ | exact (show False by omega).elim
            · exact (show False by omega).elim
          · refine lv_aload_n hx hb dJ6_getChars_ba4f3_91 rfl (lv_at hl 6 rfl) ?_
            refine lv_iinc (v := iI (x1 + (-1) + (-1) + (-1) + (-1))) (lv' := [(5, .int (iI (x1 + (-1) + (-1) + (-1) + (-1)))), (0, .int (iI z11)), (4, .int (iI z12)), (3, .int (iI z11)), (6, .int (iI 0)), (1, .int (iI x1)), (2, .ref q)]) hx hb dJ6_getChars_ba4f3_92 hl (k := 0) rfl (iI_add _ _) (by decide) rfl (fun ls hl => ?_)
            refine lv_iload hx hb dJ6_getChars_ba4f3_95 (lv_at hl 0 rfl) ?_
            refine r_gets (θ := θ) hx hb fx.2 hj0.2.2.1.1 hAB hS hown (hts _ k472) dJ6_getChars_ba4f3_97 ?_
            refine lv_iload_n hx hb dJ6_getChars_ba4f3_100 rfl (lv_at hl 1 rfl) ?_
            refine q_neg hx hb dJ6_getChars_ba4f3_101 ?_
            obtain ⟨gy22, ty22⟩ := hj0.2.2.1.2
            refine r_tbald (i := -z11) hx hb fx.2 ty22 hAB hS (by omega) (by decide) dJ6_getChars_ba4f3_102 (fun y22 => ?_)
            refine r_bast (θ := θ) (a := q) hx hb hK hnH19 (by first | ((try dsimp only); omega) | dsimp only) hS (i := x1 + (-1) + (-1) + (-1) + (-1)) (by omega) (by omega) dJ6_getChars_ba4f3_103 (fun H23 locs hnH23 hszH23 hkH23 hS => ?_)
            have hzH23 := hz0.at hAB hS
            have hjH23 := hj0.at hAB hS
            have lnH23 := hnH23.lt
            refine lv_iload hx hb dJ6_getChars_ba4f3_104 (lv_at hl 4 rfl) ?_
            refine q_ieq (tgt := 118) hx hb dJ6_getChars_ba4f3_106 (by decide) (by omega) (fun c24 => ?_) (fun c24 => ?_)
            · refine lv_iload hx hb dJ6_getChars_ba4f3_118 (lv_at hl 0 rfl) ?_
              first | exact e_i hx hb hr hlk hS dJ6_getChars_ba4f3_120 (by first | exact Nat.le_of_ble_eq_true rfl | ((try dsimp only); omega)) (by first | exact Nat.le_of_ble_eq_true rfl | ((try dsimp only); omega)) ⟨ex_i (by omega), ⟨by omega, by first | exact hnH23 | (subst_vars; exact hnH23)⟩⟩ | exact (show False by omega).elim
            · exact (show False by omega).elim
        · exact (show False by omega).elim
  · exact (show False by omega).elim

set_option maxHeartbeats 4000000 in
set_option maxRecDepth 100000 in
theorem jm_appendI0 (θ : TH) (l : Launch) (S0 : State) (H : Heap) (hz : SZ θ S0 H) (hj : SJ θ S0 H) (a : Nat) (v : Int) (b : Nat) (n : Nat) (cnt : Int) (h_q0 : SB θ H a b n cnt) (h_0 : 0 ≤ v ∧ v < 10000) (h_1 : n ≤ 1000) (h_2 : cnt + sgI v ≤ n) (h_3 : a ≠ b) (h_4 : θ.2.2.2 ≤ a) (h_5 : θ.2.2.2 ≤ b) : CT l yJ5_append_c97b9 cJ5_append_c97b9 4 (some (.object "java/lang/AbstractStringBuilder")) 1 26 0 0 [.ref a, .int (iI v)] S0 H (fun v9 H1 => v9 = some (.ref a) ∧ H1.size = H.size + 0 ∧ SB θ H1 a b n (cnt + sgI v)) (fun _ _ => False) (fun x : Nat => x = a ∨ x = b) := by
  refine ct_of (by decide +kernel) (Nat.le_of_ble_eq_true rfl) ?_
  intro pg en s mi args below meth co ls fx hs hr hlk hxt hin hl
  subst hs
  obtain ⟨hx, hb, hml, hown, hts⟩ := id fx.1
  have hS : va_S (fun x : Nat => x = a ∨ x = b) s.heap s.heap [] := va_S.rf
  have hAB : ∀ x : Nat, (fun x : Nat => x = a ∨ x = b) x → θ.2.2.2 ≤ x := fun x hx => by have hz2 := hz.2.1; (try dsimp only at hx); omega
  have hz0 := hz
  have hj0 := hj
  have hK := sz_K fx.2 hz
  have hz2 := hz.2.1
  have lh_q0 := h_q0.lt
  refine lv_aload_n hx hb dJ5_append_c97b9_0 rfl (lv_at hl 0 rfl) ?_
  obtain ⟨mlo1, hoo1, hbo1, hco1, hdo1⟩ := h_q0.split
  have loo1 := hoo1.lt
  have lbo1 := hbo1.lt
  refine r_get (θ := θ) (C := RJ4) (T := TJ4) (N := 4) (ci := 1) hx hb hts gwJ4 hown hK hoo1 rfl 3 (by decide) k61 (fun _ h => h) (v := .int (iI cnt)) rfl dJ5_append_c97b9_1 ?_
  refine lv_istore_n (lv' := [(2, .int (iI cnt)), (0, .ref a), (1, .int (iI v))]) hx hb dJ5_append_c97b9_4 rfl hl (by decide) rfl (fun ls hl => ?_)
  refine lv_iload_n hx hb dJ5_append_c97b9_5 rfl (lv_at hl 0 rfl) ?_
  refine lv_iload_n hx hb dJ5_append_c97b9_6 rfl (lv_at hl 2 rfl) ?_
  refine c_Sr (As := [.int (iI v)]) (rest := [.int (iI cnt)]) (r := some (.int (iI (sgI v)))) (st1 := [.int (iI (sgI v)), .int (iI cnt)]) fx hl (jm_stringSize θ l S0 _ hz hj v (by omega)) dJ5_append_c97b9_7 k464 k465 k20 k466 hd_J6_stringSize_0f7a4 rfl rfl ⟨by decide, by decide⟩ (Nat.le_of_ble_eq_true rfl) ⟨by (try dsimp only); omega, by (try dsimp only); omega⟩ hS (fun x hx => by first | exact hx.elim | ((try dsimp only at hx ⊢); omega)) (fun H2 locs hpH2 hsz0H2 hk0H2 hS => ?_)
  obtain rfl := hpH2.symm
  refine q_nm (fun z3 ez3 => ?_)
  have tsg30948 := sgI_b v
  refine q_add hx hb dJ5_append_c97b9_10 ?_
  refine q_nm (fun z4 ez4 => ?_)
  refine lv_istore_n (lv' := [(3, .int (iI z4)), (2, .int (iI cnt)), (0, .ref a), (1, .int (iI v))]) hx hb dJ5_append_c97b9_11 rfl hl (by decide) rfl (fun ls hl => ?_)
  refine lv_aload_n hx hb dJ5_append_c97b9_12 rfl (lv_at hl 2 rfl) ?_
  refine lv_iload_n hx hb dJ5_append_c97b9_13 rfl (lv_at hl 0 rfl) ?_
  refine c_VPr (As := [.int (iI z4)]) (rest := []) (r := none) (st1 := []) fx hl (jm_ensureCap θ l S0 _ hz hj a z4 b n cnt (mk_sb hoo1 hbo1 (by omega)) (by omega) (by omega)) (ob_st hoo1) hj0.1.1.1 dJ5_append_c97b9_14 k350 k352 k1632 k2 k353 hd_J5_ensureCapacityInternal_d00df rfl rfl ⟨by decide, by decide⟩ (Nat.le_of_ble_eq_true rfl) ⟨by (try dsimp only); omega, by (try dsimp only); omega⟩ hS (fun x hx => by first | exact hx.elim | ((try dsimp only at hx ⊢); omega)) (fun H5 locs hpH5 hsz0H5 hk0H5 hS => ?_)
  obtain rfl := hpH5.symm
  refine lv_aload_n hx hb dJ5_append_c97b9_17 rfl (lv_at hl 2 rfl) ?_
  refine c_Vr (C := "java/lang/StringBuilder") (As := []) (rest := []) (r := some (.int (iI 1))) (st1 := [.int (iI 1)]) fx hl (jm_isLatin1 θ l S0 _ hz hj a b n cnt (mk_sb hoo1 hbo1 (by omega))) (ob_recv hK hoo1 rfl) dJ5_append_c97b9_18 k383 k384 k386 k2 k387 hd_J5_isLatin1_aae02 rfl rfl ⟨by decide, by decide⟩ (Nat.le_of_ble_eq_true rfl) ⟨by (try dsimp only); omega, by (try dsimp only); omega⟩ hS (fun x hx => by first | exact hx.elim | ((try dsimp only at hx ⊢); omega)) (fun H6 locs hpH6 hsz0H6 hk0H6 hS => ?_)
  obtain rfl := hpH6.symm
  refine q_ieq (tgt := 37) hx hb dJ5_append_c97b9_21 (by decide) (by omega) (fun c7 => ?_) (fun c7 => ?_)
  · exact (show False by omega).elim
  · refine lv_iload_n hx hb dJ5_append_c97b9_24 rfl (lv_at hl 3 rfl) ?_
    refine lv_iload_n hx hb dJ5_append_c97b9_25 rfl (lv_at hl 0 rfl) ?_
    refine lv_aload_n hx hb dJ5_append_c97b9_26 rfl (lv_at hl 2 rfl) ?_
    refine r_get (θ := θ) (C := RJ4) (T := TJ4) (N := 4) (ci := 1) hx hb hts gwJ4 hown hK hoo1 rfl 0 (by decide) k57 (fun _ h => h) (v := .ref b) rfl dJ5_append_c97b9_27 ?_
    refine c_Sr (As := [.int (iI v), .int (iI z4), .ref b]) (rest := []) (r := some (.int (iI (z4 - sgI v)))) (st1 := [.int (iI (z4 - sgI v))]) fx hl (jm_getChars θ l S0 _ hz hj v z4 b n hbo1 (by omega) (by omega) (by omega) (by omega) (by omega)) dJ5_append_c97b9_30 k467 k468 k20 k469 hd_J6_getChars_ba4f3 rfl rfl ⟨by decide, by decide⟩ (Nat.le_of_ble_eq_true rfl) ⟨by (try dsimp only); omega, by (try dsimp only); omega⟩ hS (fun x hx => by first | exact hx.elim | ((try dsimp only at hx ⊢); omega)) (fun H8 locs hpH8 hsz0H8 hk0H8 hS => ?_)
    obtain ⟨hszH8, hoH8_0⟩ := hpH8
    have hkH8 : ∀ q : Nat, q < (s.heap).size → ¬ (q = b) → H8[q]? = (s.heap)[q]? := fun q hq hn => hk0H8 q hq (by (try dsimp only); omega)
    have hoo1_H8 := hoo1.kept (hkH8 _ hoo1.lt (by omega))
    have lhoH8_0 := hoH8_0.lt
    have hzH8 := hz0.at hAB hS
    have hjH8 := hj0.at hAB hS
    refine q_nm (fun z9 ez9 => ?_)
    refine lv_pop hx hb dJ5_append_c97b9_33 rfl ?_
    refine lv_goto (tgt := 48) hx hb dJ5_append_c97b9_34 (by decide) ?_
    refine lv_aload_n hx hb dJ5_append_c97b9_48 rfl (lv_at hl 2 rfl) ?_
    refine lv_iload_n hx hb dJ5_append_c97b9_49 rfl (lv_at hl 0 rfl) ?_
    refine r_put (θ := θ) (C := RJ4) (T := TJ4) (N := 4) (ci := 1) (v := .int (iI z4)) (ty := .int) hx hb hts gwJ4 tyJ4 tyJ4_ok nmJ4 hown hK hoo1_H8 (by first | ((try dsimp only); omega) | dsimp only) hS rfl 3 (by decide) k61 (fun _ h => h) rfl (by decide +kernel) rfl rfl (Nat.le_of_ble_eq_true rfl) dJ5_append_c97b9_50 (fun H10 locs hqH10 hszH10 hkH10 hS => ?_)
    have hnH10 : OB θ H10 a 1 [.ref b, .int (iI 0), .int (iI mlo1), .int (iI z4)] := hqH10
    have hoH8_0_H10 := hoH8_0.kept (hkH10 _ (by omega))
    have hzH10 := hz0.at hAB hS
    have hjH10 := hj0.at hAB hS
    have lnH10 := hnH10.lt
    refine lv_aload_n hx hb dJ5_append_c97b9_53 rfl (lv_at hl 2 rfl) ?_
    first | exact e_a hx hb hr (by first | exact Or.inl ⟨_, rfl⟩ | exact Or.inr ⟨_, rfl⟩) hlk hS dJ5_append_c97b9_54 (by first | exact Nat.le_of_ble_eq_true rfl | ((try dsimp only); omega)) (by first | exact Nat.le_of_ble_eq_true rfl | ((try dsimp only); omega)) ⟨by first | rfl | (subst_vars; rfl) | (rw [show a = a from by omega]), ⟨by omega, by first | exact (mk_sb hnH10 hoH8_0_H10 (by omega)) | (subst_vars; exact (mk_sb hnH10 hoH8_0_H10 (by omega)))⟩⟩ | exact (show False by omega).elim

set_option maxHeartbeats 4000000 in
set_option maxRecDepth 100000 in
theorem jm_appendI (θ : TH) (l : Launch) (S0 : State) (H : Heap) (hz : SZ θ S0 H) (hj : SJ θ S0 H) (a : Nat) (v : Int) (b : Nat) (n : Nat) (cnt : Int) (h_q0 : SB θ H a b n cnt) (h_0 : 0 ≤ v ∧ v < 10000) (h_1 : n ≤ 1000) (h_2 : cnt + sgI v ≤ n) (h_3 : a ≠ b) (h_4 : θ.2.2.2 ≤ a) (h_5 : θ.2.2.2 ≤ b) : CT l yJ4_append_bf812 cJ4_append_bf812 2 (some (.object "java/lang/StringBuilder")) 2 49 0 0 [.ref a, .int (iI v)] S0 H (fun v9 H1 => v9 = some (.ref a) ∧ H1.size = H.size + 0 ∧ SB θ H1 a b n (cnt + sgI v)) (fun _ _ => False) (fun x : Nat => x = a ∨ x = b) := by
  refine ct_of (by decide +kernel) (Nat.le_of_ble_eq_true rfl) ?_
  intro pg en s mi args below meth co ls fx hs hr hlk hxt hin hl
  subst hs
  obtain ⟨hx, hb, hml, hown, hts⟩ := id fx.1
  have hS : va_S (fun x : Nat => x = a ∨ x = b) s.heap s.heap [] := va_S.rf
  have hAB : ∀ x : Nat, (fun x : Nat => x = a ∨ x = b) x → θ.2.2.2 ≤ x := fun x hx => by have hz2 := hz.2.1; (try dsimp only at hx); omega
  have hz0 := hz
  have hj0 := hj
  have hK := sz_K fx.2 hz
  have hz2 := hz.2.1
  have lh_q0 := h_q0.lt
  refine lv_aload_n hx hb dJ4_append_bf812_0 rfl (lv_at hl 0 rfl) ?_
  refine lv_iload_n hx hb dJ4_append_bf812_1 rfl (lv_at hl 1 rfl) ?_
  refine c_SUr (As := [.int (iI v)]) (rest := []) (r := some (.ref a)) (st1 := [.ref a]) fx hl (jm_appendI0 θ l S0 _ hz hj a v b n cnt h_q0 (by omega) (by omega) (by omega) (by omega) (by omega) (by omega)) hK h_q0.split.choose_spec.1 rfl dJ4_append_bf812_2 k461 k462 k1637 k70 k2 k463 (by decide) hd_J5_append_c97b9 rfl rfl ⟨by decide, by decide⟩ (Nat.le_of_ble_eq_true rfl) ⟨by (try dsimp only); omega, by (try dsimp only); omega⟩ hS (fun x hx => by first | exact hx.elim | ((try dsimp only at hx ⊢); omega)) (fun H1 locs hpH1 hsz0H1 hk0H1 hS => ?_)
  obtain ⟨hszH1, hoH1_0⟩ := hpH1
  have hkH1 : ∀ q : Nat, q < (s.heap).size → ¬ (q = a ∨ q = b) → H1[q]? = (s.heap)[q]? := fun q hq hn => hk0H1 q hq (by (try dsimp only); omega)
  have lhoH1_0 := hoH1_0.lt
  have hzH1 := hz0.at hAB hS
  have hjH1 := hj0.at hAB hS
  refine lv_pop hx hb dJ4_append_bf812_5 rfl ?_
  refine lv_aload_n hx hb dJ4_append_bf812_6 rfl (lv_at hl 0 rfl) ?_
  first | exact e_a hx hb hr (by first | exact Or.inl ⟨_, rfl⟩ | exact Or.inr ⟨_, rfl⟩) hlk hS dJ4_append_bf812_7 (by first | exact Nat.le_of_ble_eq_true rfl | ((try dsimp only); omega)) (by first | exact Nat.le_of_ble_eq_true rfl | ((try dsimp only); omega)) ⟨by first | rfl | (subst_vars; rfl) | (rw [show a = a from by omega]), ⟨by omega, by first | exact hoH1_0 | (subst_vars; exact hoH1_0)⟩⟩ | exact (show False by omega).elim

set_option maxHeartbeats 4000000 in
set_option maxRecDepth 100000 in
theorem jm_coder (θ : TH) (l : Launch) (S0 : State) (H : Heap) (hz : SZ θ S0 H) (hj : SJ θ S0 H) (s1 : Nat) (b2 : Nat) (n2 : Nat) (h_q0 : STg S0 H s1 b2 n2) : CT l yJ0_coder_7d493 cJ0_coder_7d493 1 (some .byte) 0 0 0 0 [.ref s1] S0 H (fun v9 H1 => v9 = some (.int (iI 0)) ∧ H1 = H) (fun _ _ => False) (fun _ : Nat => False) := by
  refine ct_of (by decide +kernel) (Nat.le_of_ble_eq_true rfl) ?_
  intro pg en s mi args below meth co ls fx hs hr hlk hxt hin hl
  subst hs
  obtain ⟨hx, hb, hml, hown, hts⟩ := id fx.1
  have hS : va_S (fun _ : Nat => False) s.heap s.heap [] := va_S.rf
  have hAB : ∀ x : Nat, (fun _ : Nat => False) x → θ.2.2.2 ≤ x := fun q h => h.elim
  have hz0 := hz
  have hj0 := hj
  have hK := sz_K fx.2 hz
  have hz2 := hz.2.1
  have lh_q0 := h_q0.lt
  refine r_gets (θ := θ) hx hb fx.2 hz0.2.2.2.2.2.2.1 hAB hS hown (hts _ k422) dJ0_coder_7d493_0 ?_
  refine q_ai 1 rfl ?_
  refine q_ieq (tgt := 13) hx hb dJ0_coder_7d493_3 (by decide) (by omega) (fun c1 => ?_) (fun c1 => ?_)
  · exact (show False by omega).elim
  · refine lv_aload_n hx hb dJ0_coder_7d493_6 rfl (lv_at hl 0 rfl) ?_
    refine r_getOF hx hb fx.2 h_q0.2.1 hown (hts _ k540) (fun _ h => h) dJ0_coder_7d493_7 ?_
    refine lv_goto (tgt := 14) hx hb dJ0_coder_7d493_10 (by decide) ?_
    first | exact e_b hx hb hr hlk (by rfl) hS dJ0_coder_7d493_14 (by first | exact Nat.le_of_ble_eq_true rfl | ((try dsimp only); omega)) (by first | exact Nat.le_of_ble_eq_true rfl | ((try dsimp only); omega)) ⟨by first | rfl | exact ex_i (by omega), rfl⟩ | exact (show False by omega).elim

set_option maxHeartbeats 4000000 in
set_option maxRecDepth 100000 in
theorem jm_length (θ : TH) (l : Launch) (S0 : State) (H : Heap) (hz : SZ θ S0 H) (hj : SJ θ S0 H) (s1 : Nat) (b2 : Nat) (n2 : Nat) (h_q0 : STg S0 H s1 b2 n2) (h_0 : n2 ≤ 1000) : CT l yJ0_length_8abf5 cJ0_length_8abf5 1 (some .int) 1 20 0 0 [.ref s1] S0 H (fun v9 H1 => v9 = some (.int (iI (n2 : Int))) ∧ H1 = H) (fun _ _ => False) (fun _ : Nat => False) := by
  refine ct_of (by decide +kernel) (Nat.le_of_ble_eq_true rfl) ?_
  intro pg en s mi args below meth co ls fx hs hr hlk hxt hin hl
  subst hs
  obtain ⟨hx, hb, hml, hown, hts⟩ := id fx.1
  have hS : va_S (fun _ : Nat => False) s.heap s.heap [] := va_S.rf
  have hAB : ∀ x : Nat, (fun _ : Nat => False) x → θ.2.2.2 ≤ x := fun q h => h.elim
  have hz0 := hz
  have hj0 := hj
  have hK := sz_K fx.2 hz
  have hz2 := hz.2.1
  have lh_q0 := h_q0.lt
  refine lv_aload_n hx hb dJ0_length_8abf5_0 rfl (lv_at hl 0 rfl) ?_
  refine r_getOF hx hb fx.2 h_q0.2.2.1 hown (hts _ k539) (fun _ h => h) dJ0_length_8abf5_1 ?_
  obtain ⟨gy1, ty1, -⟩ := STg.T fx.2 h_q0
  refine r_talen hx hb ty1 dJ0_length_8abf5_4 ?_
  refine lv_aload_n hx hb dJ0_length_8abf5_5 rfl (lv_at hl 0 rfl) ?_
  refine c_Vr (C := "java/lang/String") (As := []) (rest := [.int (iI ((n2 : Nat) : Int))]) (r := some (.int (iI 0))) (st1 := [.int (iI 0), .int (iI ((n2 : Nat) : Int))]) fx hl (jm_coder θ l S0 _ hz hj s1 b2 n2 h_q0) (o_recv fx.2 h_q0.1) dJ0_length_8abf5_6 k418 k419 k420 k4 k421 hd_J0_coder_7d493 rfl rfl ⟨by decide, by decide⟩ (Nat.le_of_ble_eq_true rfl) ⟨by (try dsimp only); omega, by (try dsimp only); omega⟩ hS (fun x hx => by first | exact hx.elim | ((try dsimp only at hx ⊢); omega)) (fun H2 locs hpH2 hsz0H2 hk0H2 hS => ?_)
  obtain rfl := hpH2.symm
  refine q_shr0 hx hb dJ0_length_8abf5_9 ?_
  first | exact e_i hx hb hr hlk hS dJ0_length_8abf5_10 (by first | exact Nat.le_of_ble_eq_true rfl | ((try dsimp only); omega)) (by first | exact Nat.le_of_ble_eq_true rfl | ((try dsimp only); omega)) ⟨ex_i (by omega), rfl⟩ | exact (show False by omega).elim

set_option maxHeartbeats 4000000 in
set_option maxRecDepth 100000 in
theorem jm_isEmpty (θ : TH) (l : Launch) (S0 : State) (H : Heap) (hz : SZ θ S0 H) (hj : SJ θ S0 H) (s1 : Nat) (b2 : Nat) (n2 : Nat) (h_q0 : STg S0 H s1 b2 n2) (h_0 : n2 ≤ 1000) : CT l yJ0_isEmpty_aae02 cJ0_isEmpty_aae02 1 (some .boolean) 0 0 0 0 [.ref s1] S0 H (fun v9 H1 => v9 = some (.int (iI (if (n2 : Int) = 0 then 1 else 0))) ∧ H1 = H) (fun _ _ => False) (fun _ : Nat => False) := by
  refine ct_of (by decide +kernel) (Nat.le_of_ble_eq_true rfl) ?_
  intro pg en s mi args below meth co ls fx hs hr hlk hxt hin hl
  subst hs
  obtain ⟨hx, hb, hml, hown, hts⟩ := id fx.1
  have hS : va_S (fun _ : Nat => False) s.heap s.heap [] := va_S.rf
  have hAB : ∀ x : Nat, (fun _ : Nat => False) x → θ.2.2.2 ≤ x := fun q h => h.elim
  have hz0 := hz
  have hj0 := hj
  have hK := sz_K fx.2 hz
  have hz2 := hz.2.1
  have lh_q0 := h_q0.lt
  refine lv_aload_n hx hb dJ0_isEmpty_aae02_0 rfl (lv_at hl 0 rfl) ?_
  refine r_getOF hx hb fx.2 h_q0.2.2.1 hown (hts _ k539) (fun _ h => h) dJ0_isEmpty_aae02_1 ?_
  obtain ⟨gy1, ty1, -⟩ := STg.T fx.2 h_q0
  refine r_talen hx hb ty1 dJ0_isEmpty_aae02_4 ?_
  refine q_ine (tgt := 12) hx hb dJ0_isEmpty_aae02_5 (by decide) (by omega) (fun c2 => ?_) (fun c2 => ?_)
  · refine q_con hx hb dJ0_isEmpty_aae02_12 ?_
    first | exact e_b hx hb hr hlk (by rfl) hS dJ0_isEmpty_aae02_13 (by first | exact Nat.le_of_ble_eq_true rfl | ((try dsimp only); omega)) (by first | exact Nat.le_of_ble_eq_true rfl | ((try dsimp only); omega)) ⟨by first | rfl | exact ex_i (by split <;> omega), rfl⟩ | exact (show False by omega).elim
  · refine q_con hx hb dJ0_isEmpty_aae02_8 ?_
    refine lv_goto (tgt := 13) hx hb dJ0_isEmpty_aae02_9 (by decide) ?_
    first | exact e_b hx hb hr hlk (by rfl) hS dJ0_isEmpty_aae02_13 (by first | exact Nat.le_of_ble_eq_true rfl | ((try dsimp only); omega)) (by first | exact Nat.le_of_ble_eq_true rfl | ((try dsimp only); omega)) ⟨by first | rfl | exact ex_i (by split <;> omega), rfl⟩ | exact (show False by omega).elim

set_option maxHeartbeats 4000000 in
set_option maxRecDepth 100000 in
theorem jm_inflateIf (θ : TH) (l : Launch) (S0 : State) (H : Heap) (hz : SZ θ S0 H) (hj : SJ θ S0 H) (a : Nat) (s1 : Nat) (b : Nat) (n : Nat) (cnt : Int) (b2 : Nat) (n2 : Nat) (h_q0 : SB θ H a b n cnt) (h_q1 : STg S0 H s1 b2 n2) : CT l yJ5_inflateIfNeededFor_a7421 cJ5_inflateIfNeededFor_a7421 2 none 1 20 0 0 [.ref a, .ref s1] S0 H (fun v9 H1 => v9 = none ∧ H1 = H) (fun _ _ => False) (fun _ : Nat => False) := by
  refine ct_of (by decide +kernel) (Nat.le_of_ble_eq_true rfl) ?_
  intro pg en s mi args below meth co ls fx hs hr hlk hxt hin hl
  subst hs
  obtain ⟨hx, hb, hml, hown, hts⟩ := id fx.1
  have hS : va_S (fun _ : Nat => False) s.heap s.heap [] := va_S.rf
  have hAB : ∀ x : Nat, (fun _ : Nat => False) x → θ.2.2.2 ≤ x := fun q h => h.elim
  have hz0 := hz
  have hj0 := hj
  have hK := sz_K fx.2 hz
  have hz2 := hz.2.1
  have lh_q0 := h_q0.lt
  have lh_q1 := h_q1.lt
  refine r_gets (θ := θ) hx hb fx.2 hz0.2.2.2.2.2.2.1 hAB hS hown (hts _ k48) dJ5_inflateIfNeededFor_a7421_0 ?_
  refine q_ai 1 rfl ?_
  refine q_ieq (tgt := 21) hx hb dJ5_inflateIfNeededFor_a7421_3 (by decide) (by omega) (fun c1 => ?_) (fun c1 => ?_)
  · exact (show False by omega).elim
  · refine lv_aload_n hx hb dJ5_inflateIfNeededFor_a7421_6 rfl (lv_at hl 0 rfl) ?_
    obtain ⟨mlo2, hoo2, hbo2, hco2, hdo2⟩ := h_q0.split
    have loo2 := hoo2.lt
    have lbo2 := hbo2.lt
    refine r_get (θ := θ) (C := RJ4) (T := TJ4) (N := 4) (ci := 1) hx hb hts gwJ4 hown hK hoo2 rfl 1 (by decide) k58 (fun _ h => h) (v := .int (iI 0)) rfl dJ5_inflateIfNeededFor_a7421_7 ?_
    refine lv_aload_n hx hb dJ5_inflateIfNeededFor_a7421_10 rfl (lv_at hl 1 rfl) ?_
    refine c_Vr (C := "java/lang/String") (As := []) (rest := [.int (iI 0)]) (r := some (.int (iI 0))) (st1 := [.int (iI 0), .int (iI 0)]) fx hl (jm_coder θ l S0 _ hz hj s1 b2 n2 h_q1) (o_recv fx.2 h_q1.1) dJ5_inflateIfNeededFor_a7421_11 k431 k419 k420 k4 k421 hd_J0_coder_7d493 rfl rfl ⟨by decide, by decide⟩ (Nat.le_of_ble_eq_true rfl) ⟨by (try dsimp only); omega, by (try dsimp only); omega⟩ hS (fun x hx => by first | exact hx.elim | ((try dsimp only at hx ⊢); omega)) (fun H3 locs hpH3 hsz0H3 hk0H3 hS => ?_)
    obtain rfl := hpH3.symm
    refine q_ceq (tgt := 21) hx hb dJ5_inflateIfNeededFor_a7421_14 (by decide) (by omega) (by omega) (fun c4 => ?_) (fun c4 => ?_)
    · first | exact e_v hx hb hr hlk hS dJ5_inflateIfNeededFor_a7421_21 (by first | exact Nat.le_of_ble_eq_true rfl | ((try dsimp only); omega)) (by first | exact Nat.le_of_ble_eq_true rfl | ((try dsimp only); omega)) ⟨rfl, rfl⟩ | exact (show False by omega).elim
    · exact (show False by omega).elim

set_option maxHeartbeats 4000000 in
set_option maxRecDepth 100000 in
theorem jm_getBytes (θ : TH) (l : Launch) (S0 : State) (H : Heap) (hz : SZ θ S0 H) (hj : SJ θ S0 H) (s1 : Nat) (q : Nat) (x1 : Int) (co : Int) (n : Nat) (b2 : Nat) (n2 : Nat) (h_q0 : BY θ H q n) (h_q1 : STg S0 H s1 b2 n2) (h_0 : co = 0) (h_1 : 0 ≤ x1 ∧ x1 + n2 ≤ n) (h_2 : n ≤ 1000) (h_3 : n2 ≤ 1000) (h_4 : q ≠ s1 ∧ q ≠ b2) (h_5 : θ.2.2.2 ≤ q) : CT l yJ0_getBytes_840e7 cJ0_getBytes_840e7 4 none 1 60 0 0 [.ref s1, .ref q, .int (iI x1), .int (iI co)] S0 H (fun v9 H1 => v9 = none ∧ H1.size = H.size + 0 ∧ BY θ H1 q n) (fun _ _ => False) (fun x : Nat => x = q) := by
  refine ct_of (by decide +kernel) (Nat.le_of_ble_eq_true rfl) ?_
  intro pg en s mi args below meth co ls fx hs hr hlk hxt hin hl
  subst hs
  obtain ⟨hx, hb, hml, hown, hts⟩ := id fx.1
  have hS : va_S (fun x : Nat => x = q) s.heap s.heap [] := va_S.rf
  have hAB : ∀ x : Nat, (fun x : Nat => x = q) x → θ.2.2.2 ≤ x := fun x hx => by have hz2 := hz.2.1; (try dsimp only at hx); omega
  have hz0 := hz
  have hj0 := hj
  have hK := sz_K fx.2 hz
  have hz2 := hz.2.1
  have lh_q0 := h_q0.lt
  have lh_q1 := h_q1.lt
  refine lv_aload_n hx hb dJ0_getBytes_840e7_0 rfl (lv_at hl 0 rfl) ?_
  refine c_Vr (C := "java/lang/String") (As := []) (rest := []) (r := some (.int (iI 0))) (st1 := [.int (iI 0)]) fx hl (jm_coder θ l S0 _ hz hj s1 b2 n2 h_q1) (o_recv fx.2 h_q1.1) dJ0_getBytes_840e7_1 k418 k419 k420 k4 k421 hd_J0_coder_7d493 rfl rfl ⟨by decide, by decide⟩ (Nat.le_of_ble_eq_true rfl) ⟨by (try dsimp only); omega, by (try dsimp only); omega⟩ hS (fun x hx => by first | exact hx.elim | ((try dsimp only at hx ⊢); omega)) (fun H1 locs hpH1 hsz0H1 hk0H1 hS => ?_)
  obtain rfl := hpH1.symm
  refine lv_iload_n hx hb dJ0_getBytes_840e7_4 rfl (lv_at hl 3 rfl) ?_
  refine q_cne (tgt := 28) hx hb dJ0_getBytes_840e7_5 (by decide) (by omega) (by omega) (fun c2 => ?_) (fun c2 => ?_)
  · exact (show False by omega).elim
  · refine lv_aload_n hx hb dJ0_getBytes_840e7_8 rfl (lv_at hl 0 rfl) ?_
    refine r_getOF hx hb fx.2 h_q1.2.2.1 hown (hts _ k539) (fun _ h => h) dJ0_getBytes_840e7_9 ?_
    refine q_con hx hb dJ0_getBytes_840e7_12 ?_
    refine lv_aload_n hx hb dJ0_getBytes_840e7_13 rfl (lv_at hl 1 rfl) ?_
    refine lv_iload_n hx hb dJ0_getBytes_840e7_14 rfl (lv_at hl 2 rfl) ?_
    refine lv_iload_n hx hb dJ0_getBytes_840e7_15 rfl (lv_at hl 3 rfl) ?_
    refine q_as (0) (by omega) ?_
    refine q_shl0 hx hb dJ0_getBytes_840e7_16 ?_
    refine lv_aload_n hx hb dJ0_getBytes_840e7_17 rfl (lv_at hl 0 rfl) ?_
    refine r_getOF hx hb fx.2 h_q1.2.2.1 hown (hts _ k539) (fun _ h => h) dJ0_getBytes_840e7_18 ?_
    obtain ⟨gy3, ty3, -⟩ := STg.T fx.2 h_q1
    refine r_talen hx hb ty3 dJ0_getBytes_840e7_21 ?_
    refine r_copyB (θ := θ) (a := q) (sp := 0) (dp := x1) (n := ((n2 : Nat) : Int)) hx hb (hml.trans hl.1.symm) hts hown k455 k382 k381 k24 hK (STg.T fx.2 h_q1) h_q0 (by first | ((try dsimp only); omega) | dsimp only) hS (by omega) (by omega) (by omega) (by omega) (Nat.le_of_ble_eq_true rfl) (Nat.le_of_ble_eq_true rfl) dJ0_getBytes_840e7_22 (fun H4 locs hnH4 hszH4 hkH4 hS => ?_)
    have h_q1_H4 := h_q1.kept (hkH4 _ (by omega)) (hkH4 _ (by omega))
    have hzH4 := hz0.at hAB hS
    have hjH4 := hj0.at hAB hS
    have lnH4 := hnH4.lt
    refine lv_goto (tgt := 43) hx hb dJ0_getBytes_840e7_25 (by decide) ?_
    first | exact e_v hx hb hr hlk hS dJ0_getBytes_840e7_43 (by first | exact Nat.le_of_ble_eq_true rfl | ((try dsimp only); omega)) (by first | exact Nat.le_of_ble_eq_true rfl | ((try dsimp only); omega)) ⟨rfl, ⟨by omega, by first | exact hnH4 | (subst_vars; exact hnH4)⟩⟩ | exact (show False by omega).elim

set_option maxHeartbeats 4000000 in
set_option maxRecDepth 100000 in
theorem jm_putStringAt (θ : TH) (l : Launch) (S0 : State) (H : Heap) (hz : SZ θ S0 H) (hj : SJ θ S0 H) (a : Nat) (x1 : Int) (s1 : Nat) (b : Nat) (n : Nat) (cnt : Int) (b2 : Nat) (n2 : Nat) (h_q0 : SB θ H a b n cnt) (h_q1 : STg S0 H s1 b2 n2) (h_0 : 0 ≤ x1 ∧ x1 + n2 ≤ n) (h_1 : n ≤ 1000) (h_2 : n2 ≤ 1000) (h_3 : a ≠ b) (h_4 : a ≠ s1 ∧ a ≠ b2 ∧ b ≠ s1 ∧ b ≠ b2) (h_5 : θ.2.2.2 ≤ b) : CT l yJ5_putStringAt_47b60 cJ5_putStringAt_47b60 3 none 2 83 0 0 [.ref a, .int (iI x1), .ref s1] S0 H (fun v9 H1 => v9 = none ∧ H1.size = H.size + 0 ∧ SB θ H1 a b n cnt) (fun _ _ => False) (fun x : Nat => x = b) := by
  refine ct_of (by decide +kernel) (Nat.le_of_ble_eq_true rfl) ?_
  intro pg en s mi args below meth co ls fx hs hr hlk hxt hin hl
  subst hs
  obtain ⟨hx, hb, hml, hown, hts⟩ := id fx.1
  have hS : va_S (fun x : Nat => x = b) s.heap s.heap [] := va_S.rf
  have hAB : ∀ x : Nat, (fun x : Nat => x = b) x → θ.2.2.2 ≤ x := fun x hx => by have hz2 := hz.2.1; (try dsimp only at hx); omega
  have hz0 := hz
  have hj0 := hj
  have hK := sz_K fx.2 hz
  have hz2 := hz.2.1
  have lh_q0 := h_q0.lt
  have lh_q1 := h_q1.lt
  refine lv_aload_n hx hb dJ5_putStringAt_47b60_0 rfl (lv_at hl 0 rfl) ?_
  refine lv_aload_n hx hb dJ5_putStringAt_47b60_1 rfl (lv_at hl 2 rfl) ?_
  refine c_VPr (As := [.ref s1]) (rest := []) (r := none) (st1 := []) fx hl (jm_inflateIf θ l S0 _ hz hj a s1 b n cnt b2 n2 h_q0 h_q1) (ob_st h_q0.split.choose_spec.1) hj0.1.1.2.2.1 dJ5_putStringAt_47b60_2 k427 k429 k1635 k2 k430 hd_J5_inflateIfNeededFor_a7421 rfl rfl ⟨by decide, by decide⟩ (Nat.le_of_ble_eq_true rfl) ⟨by (try dsimp only); omega, by (try dsimp only); omega⟩ hS (fun x hx => by first | exact hx.elim | ((try dsimp only at hx ⊢); omega)) (fun H1 locs hpH1 hsz0H1 hk0H1 hS => ?_)
  obtain rfl := hpH1.symm
  refine lv_aload_n hx hb dJ5_putStringAt_47b60_5 rfl (lv_at hl 2 rfl) ?_
  refine lv_aload_n hx hb dJ5_putStringAt_47b60_6 rfl (lv_at hl 0 rfl) ?_
  obtain ⟨mlo2, hoo2, hbo2, hco2, hdo2⟩ := h_q0.split
  have loo2 := hoo2.lt
  have lbo2 := hbo2.lt
  refine r_get (θ := θ) (C := RJ4) (T := TJ4) (N := 4) (ci := 1) hx hb hts gwJ4 hown hK hoo2 rfl 0 (by decide) k57 (fun _ h => h) (v := .ref b) rfl dJ5_putStringAt_47b60_7 ?_
  refine lv_iload_n hx hb dJ5_putStringAt_47b60_10 rfl (lv_at hl 1 rfl) ?_
  refine lv_aload_n hx hb dJ5_putStringAt_47b60_11 rfl (lv_at hl 0 rfl) ?_
  refine r_get (θ := θ) (C := RJ4) (T := TJ4) (N := 4) (ci := 1) hx hb hts gwJ4 hown hK hoo2 rfl 1 (by decide) k58 (fun _ h => h) (v := .int (iI 0)) rfl dJ5_putStringAt_47b60_12 ?_
  refine c_Vr (C := "java/lang/String") (As := [.ref b, .int (iI x1), .int (iI 0)]) (rest := []) (r := none) (st1 := []) fx hl (jm_getBytes θ l S0 _ hz hj s1 b x1 0 n b2 n2 hbo2 h_q1 (by omega) (by omega) (by omega) (by omega) (by omega) (by omega)) (o_recv fx.2 h_q1.1) dJ5_putStringAt_47b60_15 k451 k452 k453 k4 k454 hd_J0_getBytes_840e7 rfl rfl ⟨by decide, by decide⟩ (Nat.le_of_ble_eq_true rfl) ⟨by (try dsimp only); omega, by (try dsimp only); omega⟩ hS (fun x hx => by first | exact hx.elim | ((try dsimp only at hx ⊢); omega)) (fun H3 locs hpH3 hsz0H3 hk0H3 hS => ?_)
  obtain ⟨hszH3, hoH3_0⟩ := hpH3
  have hkH3 : ∀ q : Nat, q < (s.heap).size → ¬ (q = b) → H3[q]? = (s.heap)[q]? := fun q hq hn => hk0H3 q hq (by (try dsimp only); omega)
  have hoo2_H3 := hoo2.kept (hkH3 _ hoo2.lt (by omega))
  have h_q1_H3 := h_q1.kept (hkH3 _ h_q1.lt.1 (by omega)) (hkH3 _ h_q1.lt.2 (by omega))
  have lhoH3_0 := hoH3_0.lt
  have hzH3 := hz0.at hAB hS
  have hjH3 := hj0.at hAB hS
  first | exact e_v hx hb hr hlk hS dJ5_putStringAt_47b60_18 (by first | exact Nat.le_of_ble_eq_true rfl | ((try dsimp only); omega)) (by first | exact Nat.le_of_ble_eq_true rfl | ((try dsimp only); omega)) ⟨rfl, ⟨by omega, by first | exact (mk_sb hoo2_H3 hoH3_0 (by omega)) | (subst_vars; exact (mk_sb hoo2_H3 hoH3_0 (by omega)))⟩⟩ | exact (show False by omega).elim

set_option maxHeartbeats 4000000 in
set_option maxRecDepth 100000 in
theorem jm_appendS0 (θ : TH) (l : Launch) (S0 : State) (H : Heap) (hz : SZ θ S0 H) (hj : SJ θ S0 H) (a : Nat) (s1 : Nat) (b : Nat) (n : Nat) (cnt : Int) (b2 : Nat) (n2 : Nat) (h_q0 : SB θ H a b n cnt) (h_q1 : STg S0 H s1 b2 n2) (h_0 : cnt + n2 ≤ n) (h_1 : n ≤ 1000) (h_2 : n2 ≤ 1000) (h_3 : a ≠ b) (h_4 : a ≠ s1 ∧ a ≠ b2 ∧ b ≠ s1 ∧ b ≠ b2) (h_5 : θ.2.2.2 ≤ a) (h_6 : θ.2.2.2 ≤ b) : CT l yJ5_append_cf1ce cJ5_append_cf1ce 3 (some (.object "java/lang/AbstractStringBuilder")) 3 105 0 0 [.ref a, .ref s1] S0 H (fun v9 H1 => v9 = some (.ref a) ∧ H1.size = H.size + 0 ∧ SB θ H1 a b n (cnt + n2)) (fun _ _ => False) (fun x : Nat => x = a ∨ x = b) := by
  refine ct_of (by decide +kernel) (Nat.le_of_ble_eq_true rfl) ?_
  intro pg en s mi args below meth co ls fx hs hr hlk hxt hin hl
  subst hs
  obtain ⟨hx, hb, hml, hown, hts⟩ := id fx.1
  have hS : va_S (fun x : Nat => x = a ∨ x = b) s.heap s.heap [] := va_S.rf
  have hAB : ∀ x : Nat, (fun x : Nat => x = a ∨ x = b) x → θ.2.2.2 ≤ x := fun x hx => by have hz2 := hz.2.1; (try dsimp only at hx); omega
  have hz0 := hz
  have hj0 := hj
  have hK := sz_K fx.2 hz
  have hz2 := hz.2.1
  have lh_q0 := h_q0.lt
  have lh_q1 := h_q1.lt
  refine lv_aload_n hx hb dJ5_append_cf1ce_0 rfl (lv_at hl 1 rfl) ?_
  refine lv_ifnonnull (tgt := 9) hx hb dJ5_append_cf1ce_1 (by decide) ?_
  refine lv_aload_n hx hb dJ5_append_cf1ce_9 rfl (lv_at hl 1 rfl) ?_
  refine c_Vr (C := "java/lang/String") (As := []) (rest := []) (r := some (.int (iI (n2 : Int)))) (st1 := [.int (iI (n2 : Int))]) fx hl (jm_length θ l S0 _ hz hj s1 b2 n2 h_q1 (by omega)) (o_recv fx.2 h_q1.1) dJ5_append_cf1ce_10 k414 k415 k416 k4 k417 hd_J0_length_8abf5 rfl rfl ⟨by decide, by decide⟩ (Nat.le_of_ble_eq_true rfl) ⟨by (try dsimp only); omega, by (try dsimp only); omega⟩ hS (fun x hx => by first | exact hx.elim | ((try dsimp only at hx ⊢); omega)) (fun H1 locs hpH1 hsz0H1 hk0H1 hS => ?_)
  obtain rfl := hpH1.symm
  refine q_nm (fun z2 ez2 => ?_)
  refine lv_istore_n (lv' := [(2, .int (iI z2)), (0, .ref a), (1, .ref s1)]) hx hb dJ5_append_cf1ce_13 rfl hl (by decide) rfl (fun ls hl => ?_)
  refine lv_aload_n hx hb dJ5_append_cf1ce_14 rfl (lv_at hl 1 rfl) ?_
  refine lv_aload_n hx hb dJ5_append_cf1ce_15 rfl (lv_at hl 1 rfl) ?_
  obtain ⟨mlo3, hoo3, hbo3, hco3, hdo3⟩ := h_q0.split
  have loo3 := hoo3.lt
  have lbo3 := hbo3.lt
  refine r_get (θ := θ) (C := RJ4) (T := TJ4) (N := 4) (ci := 1) hx hb hts gwJ4 hown hK hoo3 rfl 3 (by decide) k61 (fun _ h => h) (v := .int (iI cnt)) rfl dJ5_append_cf1ce_16 ?_
  refine lv_iload_n hx hb dJ5_append_cf1ce_19 rfl (lv_at hl 0 rfl) ?_
  refine q_add hx hb dJ5_append_cf1ce_20 ?_
  refine c_VPr (As := [.int (iI (cnt + z2))]) (rest := []) (r := none) (st1 := []) fx hl (jm_ensureCap θ l S0 _ hz hj a (cnt + z2) b n cnt (mk_sb hoo3 hbo3 (by omega)) (by omega) (by omega)) (ob_st hoo3) hj0.1.1.1 dJ5_append_cf1ce_21 k350 k352 k1632 k2 k353 hd_J5_ensureCapacityInternal_d00df rfl rfl ⟨by decide, by decide⟩ (Nat.le_of_ble_eq_true rfl) ⟨by (try dsimp only); omega, by (try dsimp only); omega⟩ hS (fun x hx => by first | exact hx.elim | ((try dsimp only at hx ⊢); omega)) (fun H4 locs hpH4 hsz0H4 hk0H4 hS => ?_)
  obtain rfl := hpH4.symm
  refine lv_aload_n hx hb dJ5_append_cf1ce_24 rfl (lv_at hl 1 rfl) ?_
  refine lv_aload_n hx hb dJ5_append_cf1ce_25 rfl (lv_at hl 1 rfl) ?_
  refine r_get (θ := θ) (C := RJ4) (T := TJ4) (N := 4) (ci := 1) hx hb hts gwJ4 hown hK hoo3 rfl 3 (by decide) k61 (fun _ h => h) (v := .int (iI cnt)) rfl dJ5_append_cf1ce_26 ?_
  refine lv_aload_n hx hb dJ5_append_cf1ce_29 rfl (lv_at hl 2 rfl) ?_
  refine c_VPr (As := [.int (iI cnt), .ref s1]) (rest := []) (r := none) (st1 := []) fx hl (jm_putStringAt θ l S0 _ hz hj a cnt s1 b n cnt b2 n2 (mk_sb hoo3 hbo3 (by omega)) h_q1 (by omega) (by omega) (by omega) (by omega) (by omega) (by omega)) (ob_st hoo3) hj0.1.1.2.1 dJ5_append_cf1ce_30 k423 k425 k1634 k2 k426 hd_J5_putStringAt_47b60 rfl rfl ⟨by decide, by decide⟩ (Nat.le_of_ble_eq_true rfl) ⟨by (try dsimp only); omega, by (try dsimp only); omega⟩ hS (fun x hx => by first | exact hx.elim | ((try dsimp only at hx ⊢); omega)) (fun H5 locs hpH5 hsz0H5 hk0H5 hS => ?_)
  obtain ⟨hszH5, hoH5_0⟩ := hpH5
  have hkH5 : ∀ q : Nat, q < (s.heap).size → ¬ (q = b) → H5[q]? = (s.heap)[q]? := fun q hq hn => hk0H5 q hq (by (try dsimp only); omega)
  have hoo3_H5 := hoo3.kept (hkH5 _ hoo3.lt (by omega))
  have h_q1_H5 := h_q1.kept (hkH5 _ h_q1.lt.1 (by omega)) (hkH5 _ h_q1.lt.2 (by omega))
  have lhoH5_0 := hoH5_0.lt
  have hzH5 := hz0.at hAB hS
  have hjH5 := hj0.at hAB hS
  refine lv_aload_n hx hb dJ5_append_cf1ce_33 rfl (lv_at hl 1 rfl) ?_
  refine lv_dup hx hb dJ5_append_cf1ce_34 rfl ?_
  obtain ⟨mlo6, hoo6, hbo6, hco6, hdo6⟩ := hoH5_0.split
  have loo6 := hoo6.lt
  have lbo6 := hbo6.lt
  refine r_get (θ := θ) (C := RJ4) (T := TJ4) (N := 4) (ci := 1) hx hb hts gwJ4 hown hK hoo6 rfl 3 (by decide) k61 (fun _ h => h) (v := .int (iI cnt)) rfl dJ5_append_cf1ce_35 ?_
  refine lv_iload_n hx hb dJ5_append_cf1ce_38 rfl (lv_at hl 0 rfl) ?_
  refine q_add hx hb dJ5_append_cf1ce_39 ?_
  refine q_nm (fun z7 ez7 => ?_)
  refine r_put (θ := θ) (C := RJ4) (T := TJ4) (N := 4) (ci := 1) (v := .int (iI z7)) (ty := .int) hx hb hts gwJ4 tyJ4 tyJ4_ok nmJ4 hown hK hoo6 (by first | ((try dsimp only); omega) | dsimp only) hS rfl 3 (by decide) k61 (fun _ h => h) rfl (by decide +kernel) rfl rfl (Nat.le_of_ble_eq_true rfl) dJ5_append_cf1ce_40 (fun H8 locs hqH8 hszH8 hkH8 hS => ?_)
  have hnH8 : OB θ H8 a 1 [.ref b, .int (iI 0), .int (iI mlo6), .int (iI z7)] := hqH8
  have hbo6_H8 := hbo6.kept (hkH8 _ (by omega))
  have h_q1_H8 := h_q1_H5.kept (hkH8 _ (by omega)) (hkH8 _ (by omega))
  have hzH8 := hz0.at hAB hS
  have hjH8 := hj0.at hAB hS
  have lnH8 := hnH8.lt
  refine lv_aload_n hx hb dJ5_append_cf1ce_43 rfl (lv_at hl 1 rfl) ?_
  first | exact e_a hx hb hr (by first | exact Or.inl ⟨_, rfl⟩ | exact Or.inr ⟨_, rfl⟩) hlk hS dJ5_append_cf1ce_44 (by first | exact Nat.le_of_ble_eq_true rfl | ((try dsimp only); omega)) (by first | exact Nat.le_of_ble_eq_true rfl | ((try dsimp only); omega)) ⟨by first | rfl | (subst_vars; rfl) | (rw [show a = a from by omega]), ⟨by omega, by first | exact (mk_sb hnH8 hbo6_H8 (by omega)) | (subst_vars; exact (mk_sb hnH8 hbo6_H8 (by omega)))⟩⟩ | exact (show False by omega).elim

set_option maxHeartbeats 4000000 in
set_option maxRecDepth 100000 in
theorem jm_appendS (θ : TH) (l : Launch) (S0 : State) (H : Heap) (hz : SZ θ S0 H) (hj : SJ θ S0 H) (a : Nat) (s1 : Nat) (b : Nat) (n : Nat) (cnt : Int) (b2 : Nat) (n2 : Nat) (h_q0 : SB θ H a b n cnt) (h_q1 : STg S0 H s1 b2 n2) (h_0 : cnt + n2 ≤ n) (h_1 : n ≤ 1000) (h_2 : n2 ≤ 1000) (h_3 : a ≠ b) (h_4 : a ≠ s1 ∧ a ≠ b2 ∧ b ≠ s1 ∧ b ≠ b2) (h_5 : θ.2.2.2 ≤ a) (h_6 : θ.2.2.2 ≤ b) : CT l yJ4_append_15ec4 cJ4_append_15ec4 2 (some (.object "java/lang/StringBuilder")) 4 127 0 0 [.ref a, .ref s1] S0 H (fun v9 H1 => v9 = some (.ref a) ∧ H1.size = H.size + 0 ∧ SB θ H1 a b n (cnt + n2)) (fun _ _ => False) (fun x : Nat => x = a ∨ x = b) := by
  refine ct_of (by decide +kernel) (Nat.le_of_ble_eq_true rfl) ?_
  intro pg en s mi args below meth co ls fx hs hr hlk hxt hin hl
  subst hs
  obtain ⟨hx, hb, hml, hown, hts⟩ := id fx.1
  have hS : va_S (fun x : Nat => x = a ∨ x = b) s.heap s.heap [] := va_S.rf
  have hAB : ∀ x : Nat, (fun x : Nat => x = a ∨ x = b) x → θ.2.2.2 ≤ x := fun x hx => by have hz2 := hz.2.1; (try dsimp only at hx); omega
  have hz0 := hz
  have hj0 := hj
  have hK := sz_K fx.2 hz
  have hz2 := hz.2.1
  have lh_q0 := h_q0.lt
  have lh_q1 := h_q1.lt
  refine lv_aload_n hx hb dJ4_append_15ec4_0 rfl (lv_at hl 0 rfl) ?_
  refine lv_aload_n hx hb dJ4_append_15ec4_1 rfl (lv_at hl 1 rfl) ?_
  refine c_SUr (As := [.ref s1]) (rest := []) (r := some (.ref a)) (st1 := [.ref a]) fx hl (jm_appendS0 θ l S0 _ hz hj a s1 b n cnt b2 n2 h_q0 h_q1 (by omega) (by omega) (by omega) (by omega) (by omega) (by omega) (by omega)) hK h_q0.split.choose_spec.1 rfl dJ4_append_15ec4_2 k343 k344 k1630 k70 k2 k345 (by decide) hd_J5_append_cf1ce rfl rfl ⟨by decide, by decide⟩ (Nat.le_of_ble_eq_true rfl) ⟨by (try dsimp only); omega, by (try dsimp only); omega⟩ hS (fun x hx => by first | exact hx.elim | ((try dsimp only at hx ⊢); omega)) (fun H1 locs hpH1 hsz0H1 hk0H1 hS => ?_)
  obtain ⟨hszH1, hoH1_0⟩ := hpH1
  have hkH1 : ∀ q : Nat, q < (s.heap).size → ¬ (q = a ∨ q = b) → H1[q]? = (s.heap)[q]? := fun q hq hn => hk0H1 q hq (by (try dsimp only); omega)
  have h_q1_H1 := h_q1.kept (hkH1 _ h_q1.lt.1 (by omega)) (hkH1 _ h_q1.lt.2 (by omega))
  have lhoH1_0 := hoH1_0.lt
  have hzH1 := hz0.at hAB hS
  have hjH1 := hj0.at hAB hS
  refine lv_pop hx hb dJ4_append_15ec4_5 rfl ?_
  refine lv_aload_n hx hb dJ4_append_15ec4_6 rfl (lv_at hl 0 rfl) ?_
  first | exact e_a hx hb hr (by first | exact Or.inl ⟨_, rfl⟩ | exact Or.inr ⟨_, rfl⟩) hlk hS dJ4_append_15ec4_7 (by first | exact Nat.le_of_ble_eq_true rfl | ((try dsimp only); omega)) (by first | exact Nat.le_of_ble_eq_true rfl | ((try dsimp only); omega)) ⟨by first | rfl | (subst_vars; rfl) | (rw [show a = a from by omega]), ⟨by omega, by first | exact hoH1_0 | (subst_vars; exact hoH1_0)⟩⟩ | exact (show False by omega).elim

set_option maxHeartbeats 4000000 in
set_option maxRecDepth 100000 in
theorem jm_checkLength (θ : TH) (l : Launch) (S0 : State) (H : Heap) (hz : SZ θ S0 H) (hj : SJ θ S0 H) (x1 : Int) (x2 : Int) (h_0 : x1 ≤ x2) (h_1 : -1000 ≤ x1 ∧ x2 ≤ 1000) : CT l yJ7_checkLength_df160 cJ7_checkLength_df160 2 none 0 0 0 0 [.int (iI x1), .int (iI x2)] S0 H (fun v9 H1 => v9 = none ∧ H1 = H) (fun _ _ => False) (fun _ : Nat => False) := by
  refine ct_of (by decide +kernel) (Nat.le_of_ble_eq_true rfl) ?_
  intro pg en s mi args below meth co ls fx hs hr hlk hxt hin hl
  subst hs
  obtain ⟨hx, hb, hml, hown, hts⟩ := id fx.1
  have hS : va_S (fun _ : Nat => False) s.heap s.heap [] := va_S.rf
  have hAB : ∀ x : Nat, (fun _ : Nat => False) x → θ.2.2.2 ≤ x := fun q h => h.elim
  have hz0 := hz
  have hj0 := hj
  have hK := sz_K fx.2 hz
  have hz2 := hz.2.1
  refine lv_iload_n hx hb dJ7_checkLength_df160_0 rfl (lv_at hl 1 rfl) ?_
  refine lv_iload_n hx hb dJ7_checkLength_df160_1 rfl (lv_at hl 0 rfl) ?_
  refine q_cge (tgt := 37) hx hb dJ7_checkLength_df160_2 (by decide) (by omega) (by omega) (fun c1 => ?_) (fun c1 => ?_)
  · first | exact e_v hx hb hr hlk hS dJ7_checkLength_df160_37 (by first | exact Nat.le_of_ble_eq_true rfl | ((try dsimp only); omega)) (by first | exact Nat.le_of_ble_eq_true rfl | ((try dsimp only); omega)) ⟨rfl, rfl⟩ | exact (show False by omega).elim
  · exact (show False by omega).elim

set_option maxHeartbeats 4000000 in
set_option maxRecDepth 100000 in
theorem jm_copyOfRangeByte (θ : TH) (l : Launch) (S0 : State) (H : Heap) (hz : SZ θ S0 H) (hj : SJ θ S0 H) (q : Nat) (x1 : Int) (x2 : Int) (n : Nat) (h_q0 : BY θ H q n) (h_0 : x1 = 0) (h_1 : 0 ≤ x2 ∧ x2 ≤ 16) (h_2 : x2 ≤ n) (h_3 : n ≤ 1000) : CT l yJ7_copyOfRangeByte_39247 cJ7_copyOfRangeByte_39247 5 (some (.array .byte)) 1 60 1 16 [.ref q, .int (iI x1), .int (iI x2)] S0 H (fun v9 H1 => v9 = some (.ref H.size) ∧ H1.size = H.size + 1 ∧ BY θ H1 H.size x2.toNat) (fun _ _ => False) (fun x : Nat => H.size ≤ x) := by
  refine ct_of (by decide +kernel) (Nat.le_of_ble_eq_true rfl) ?_
  intro pg en s mi args below meth co ls fx hs hr hlk hxt hin hl
  subst hs
  obtain ⟨hx, hb, hml, hown, hts⟩ := id fx.1
  have hS : va_S (fun x : Nat => s.heap.size ≤ x) s.heap s.heap [] := va_S.rf
  have hAB : ∀ x : Nat, (fun x : Nat => s.heap.size ≤ x) x → θ.2.2.2 ≤ x := fun x hx => by have hz2 := hz.2.1; (try dsimp only at hx); omega
  have hz0 := hz
  have hj0 := hj
  have hK := sz_K fx.2 hz
  have hz2 := hz.2.1
  have lh_q0 := h_q0.lt
  refine lv_iload_n hx hb dJ7_copyOfRangeByte_39247_0 rfl (lv_at hl 1 rfl) ?_
  refine lv_iload_n hx hb dJ7_copyOfRangeByte_39247_1 rfl (lv_at hl 2 rfl) ?_
  refine c_Sr (As := [.int (iI x1), .int (iI x2)]) (rest := []) (r := none) (st1 := []) fx hl (jm_checkLength θ l S0 _ hz hj x1 x2 (by omega) (by omega)) dJ7_copyOfRangeByte_39247_2 k515 k516 k23 k517 hd_J7_checkLength_df160 rfl rfl ⟨by decide, by decide⟩ (Nat.le_of_ble_eq_true rfl) ⟨by (try dsimp only); omega, by (try dsimp only); omega⟩ hS (fun x hx => by first | exact hx.elim | ((try dsimp only at hx ⊢); omega)) (fun H1 locs hpH1 hsz0H1 hk0H1 hS => ?_)
  obtain rfl := hpH1.symm
  refine lv_iload_n hx hb dJ7_copyOfRangeByte_39247_5 rfl (lv_at hl 2 rfl) ?_
  refine lv_iload_n hx hb dJ7_copyOfRangeByte_39247_6 rfl (lv_at hl 1 rfl) ?_
  refine q_sub hx hb dJ7_copyOfRangeByte_39247_7 ?_
  refine q_nm (fun z2 ez2 => ?_)
  refine lv_istore_n (lv' := [(3, .int (iI z2)), (0, .ref q), (1, .int (iI x1)), (2, .int (iI x2))]) hx hb dJ7_copyOfRangeByte_39247_8 rfl hl (by decide) rfl (fun ls hl => ?_)
  refine lv_iload_n hx hb dJ7_copyOfRangeByte_39247_9 rfl (lv_at hl 0 rfl) ?_
  refine r_newB (θ := θ) hx hb hts hK k72 hS (n := z2) (by omega) (by (try dsimp only); omega) (by (try dsimp only); omega) dJ7_copyOfRangeByte_39247_10 (fun H3 hnH3 hszH3 hkH3 hS => ?_)
  have h_q0_H3 := h_q0.kept (hkH3 _ h_q0.lt)
  have hzH3 := hz0.at hAB hS
  have hjH3 := hj0.at hAB hS
  have lnH3 := hnH3.lt
  refine lv_astore (lv' := [(4, .ref s.heap.size), (3, .int (iI z2)), (0, .ref q), (1, .int (iI x1)), (2, .int (iI x2))]) hx hb dJ7_copyOfRangeByte_39247_12 hl (by decide) rfl (fun ls hl => ?_)
  refine lv_aload_n hx hb dJ7_copyOfRangeByte_39247_14 rfl (lv_at hl 2 rfl) ?_
  refine lv_iload_n hx hb dJ7_copyOfRangeByte_39247_15 rfl (lv_at hl 3 rfl) ?_
  refine lv_aload hx hb dJ7_copyOfRangeByte_39247_16 (lv_at hl 0 rfl) ?_
  refine q_con hx hb dJ7_copyOfRangeByte_39247_18 ?_
  refine lv_aload_n hx hb dJ7_copyOfRangeByte_39247_19 rfl (lv_at hl 2 rfl) ?_
  obtain ⟨gy4, ty4, -⟩ := h_q0_H3.T hK
  refine r_talen hx hb ty4 dJ7_copyOfRangeByte_39247_20 ?_
  refine lv_iload_n hx hb dJ7_copyOfRangeByte_39247_21 rfl (lv_at hl 3 rfl) ?_
  refine q_sub hx hb dJ7_copyOfRangeByte_39247_22 ?_
  refine lv_iload_n hx hb dJ7_copyOfRangeByte_39247_23 rfl (lv_at hl 1 rfl) ?_
  refine c_P (As := [.int (iI (((n : Nat) : Int) - x1)), .int (iI z2)]) (rest := [.int (iI 0), .ref s.heap.size, .int (iI x1), .ref q]) fx hl (pm_min l (((n : Nat) : Int) - x1) z2 (by omega) (by omega)) dJ7_copyOfRangeByte_39247_24 k379 k135 k14 k136 hd_J9_min_7cf53 rfl ⟨by decide, by decide⟩ (Nat.le_of_ble_eq_true rfl) ⟨by (try dsimp only); omega, by (try dsimp only); omega⟩ ?_
  refine q_nm (fun z5 ez5 => ?_)
  refine r_copyB (θ := θ) (a := s.heap.size) (sp := x1) (dp := 0) (n := z5) hx hb (hml.trans hl.1.symm) hts hown k380 k382 k381 k24 hK (h_q0_H3.T hK) hnH3 (by first | ((try dsimp only); omega) | dsimp only) hS (by omega) (by omega) (by omega) (by omega) (Nat.le_of_ble_eq_true rfl) (Nat.le_of_ble_eq_true rfl) dJ7_copyOfRangeByte_39247_27 (fun H6 locs hnH6 hszH6 hkH6 hS => ?_)
  have h_q0_H6 := h_q0_H3.kept (hkH6 _ (by omega))
  have hzH6 := hz0.at hAB hS
  have hjH6 := hj0.at hAB hS
  have lnH6 := hnH6.lt
  refine lv_aload hx hb dJ7_copyOfRangeByte_39247_30 (lv_at hl 0 rfl) ?_
  first | exact e_a hx hb hr (by first | exact Or.inl ⟨_, rfl⟩ | exact Or.inr ⟨_, rfl⟩) hlk hS dJ7_copyOfRangeByte_39247_32 (by first | exact Nat.le_of_ble_eq_true rfl | ((try dsimp only); omega)) (by first | exact Nat.le_of_ble_eq_true rfl | ((try dsimp only); omega)) ⟨by first | rfl | (subst_vars; rfl) | (rw [show s.heap.size = s.heap.size from by omega]), ⟨by omega, by first | exact (show BY θ _ _ x2.toNat from by rw [show x2.toNat = z2.toNat from by omega]; exact hnH6) | (subst_vars; exact (show BY θ _ _ x2.toNat from by rw [show x2.toNat = z2.toNat from by omega]; exact hnH6))⟩⟩ | exact (show False by omega).elim

set_option maxHeartbeats 4000000 in
set_option maxRecDepth 100000 in
theorem jm_copyOfRange (θ : TH) (l : Launch) (S0 : State) (H : Heap) (hz : SZ θ S0 H) (hj : SJ θ S0 H) (q : Nat) (x1 : Int) (x2 : Int) (n : Nat) (h_q0 : BY θ H q n) (h_0 : x1 = 0) (h_1 : 0 ≤ x2 ∧ x2 ≤ 16) (h_2 : x2 < n) (h_3 : n ≤ 1000) : CT l yJ7_copyOfRange_39247 cJ7_copyOfRange_39247 3 (some (.array .byte)) 2 84 1 16 [.ref q, .int (iI x1), .int (iI x2)] S0 H (fun v9 H1 => v9 = some (.ref H.size) ∧ H1.size = H.size + 1 ∧ BY θ H1 H.size x2.toNat) (fun _ _ => False) (fun x : Nat => H.size ≤ x) := by
  refine ct_of (by decide +kernel) (Nat.le_of_ble_eq_true rfl) ?_
  intro pg en s mi args below meth co ls fx hs hr hlk hxt hin hl
  subst hs
  obtain ⟨hx, hb, hml, hown, hts⟩ := id fx.1
  have hS : va_S (fun x : Nat => s.heap.size ≤ x) s.heap s.heap [] := va_S.rf
  have hAB : ∀ x : Nat, (fun x : Nat => s.heap.size ≤ x) x → θ.2.2.2 ≤ x := fun x hx => by have hz2 := hz.2.1; (try dsimp only at hx); omega
  have hz0 := hz
  have hj0 := hj
  have hK := sz_K fx.2 hz
  have hz2 := hz.2.1
  have lh_q0 := h_q0.lt
  refine lv_iload_n hx hb dJ7_copyOfRange_39247_0 rfl (lv_at hl 1 rfl) ?_
  refine q_ine (tgt := 10) hx hb dJ7_copyOfRange_39247_1 (by decide) (by omega) (fun c1 => ?_) (fun c1 => ?_)
  · exact (show False by omega).elim
  · refine lv_iload_n hx hb dJ7_copyOfRange_39247_4 rfl (lv_at hl 2 rfl) ?_
    refine lv_aload_n hx hb dJ7_copyOfRange_39247_5 rfl (lv_at hl 0 rfl) ?_
    obtain ⟨gy2, ty2, -⟩ := h_q0.T hK
    refine r_talen hx hb ty2 dJ7_copyOfRange_39247_6 ?_
    refine q_ceq (tgt := 17) hx hb dJ7_copyOfRange_39247_7 (by decide) (by omega) (by omega) (fun c3 => ?_) (fun c3 => ?_)
    · exact (show False by omega).elim
    · refine lv_aload_n hx hb dJ7_copyOfRange_39247_10 rfl (lv_at hl 0 rfl) ?_
      refine lv_iload_n hx hb dJ7_copyOfRange_39247_11 rfl (lv_at hl 1 rfl) ?_
      refine lv_iload_n hx hb dJ7_copyOfRange_39247_12 rfl (lv_at hl 2 rfl) ?_
      refine c_Sr (As := [.ref q, .int (iI x1), .int (iI x2)]) (rest := []) (r := some (.ref s.heap.size)) (st1 := [.ref s.heap.size]) fx hl (jm_copyOfRangeByte θ l S0 _ hz hj q x1 x2 n h_q0 (by omega) (by omega) (by omega) (by omega)) dJ7_copyOfRange_39247_13 k512 k513 k23 k514 hd_J7_copyOfRangeByte_39247 rfl rfl ⟨by decide, by decide⟩ (Nat.le_of_ble_eq_true rfl) ⟨by (try dsimp only); omega, by (try dsimp only); omega⟩ hS (fun x hx => by first | exact hx.elim | ((try dsimp only at hx ⊢); omega)) (fun H4 locs hpH4 hsz0H4 hk0H4 hS => ?_)
      obtain ⟨hszH4, hoH4_0⟩ := hpH4
      have hkH4 : ∀ q : Nat, q < (s.heap).size → H4[q]? = (s.heap)[q]? := fun q hq => hk0H4 q hq (Nat.not_le.mpr hq)
      have h_q0_H4 := h_q0.kept (hkH4 _ h_q0.lt)
      have lhoH4_0 := hoH4_0.lt
      have hzH4 := hz0.at hAB hS
      have hjH4 := hj0.at hAB hS
      first | exact e_a hx hb hr (by first | exact Or.inl ⟨_, rfl⟩ | exact Or.inr ⟨_, rfl⟩) hlk hS dJ7_copyOfRange_39247_16 (by first | exact Nat.le_of_ble_eq_true rfl | ((try dsimp only); omega)) (by first | exact Nat.le_of_ble_eq_true rfl | ((try dsimp only); omega)) ⟨by first | rfl | (subst_vars; rfl) | (rw [show s.heap.size = s.heap.size from by omega]), ⟨by omega, by first | exact hoH4_0 | (subst_vars; exact hoH4_0)⟩⟩ | exact (show False by omega).elim

set_option maxHeartbeats 4000000 in
set_option maxRecDepth 100000 in
theorem jm_getValue (θ : TH) (l : Launch) (S0 : State) (H : Heap) (hz : SZ θ S0 H) (hj : SJ θ S0 H) (a : Nat) (b : Nat) (n : Nat) (cnt : Int) (h_q0 : SB θ H a b n cnt) : CT l yJ5_getValue_6d5f1 cJ5_getValue_6d5f1 1 (some (.array .byte)) 0 0 0 0 [.ref a] S0 H (fun v9 H1 => v9 = some (.ref b) ∧ H1 = H) (fun _ _ => False) (fun _ : Nat => False) := by
  refine ct_of (by decide +kernel) (Nat.le_of_ble_eq_true rfl) ?_
  intro pg en s mi args below meth co ls fx hs hr hlk hxt hin hl
  subst hs
  obtain ⟨hx, hb, hml, hown, hts⟩ := id fx.1
  have hS : va_S (fun _ : Nat => False) s.heap s.heap [] := va_S.rf
  have hAB : ∀ x : Nat, (fun _ : Nat => False) x → θ.2.2.2 ≤ x := fun q h => h.elim
  have hz0 := hz
  have hj0 := hj
  have hK := sz_K fx.2 hz
  have hz2 := hz.2.1
  have lh_q0 := h_q0.lt
  refine lv_aload_n hx hb dJ5_getValue_6d5f1_0 rfl (lv_at hl 0 rfl) ?_
  obtain ⟨mlo1, hoo1, hbo1, hco1, hdo1⟩ := h_q0.split
  have loo1 := hoo1.lt
  have lbo1 := hbo1.lt
  refine r_get (θ := θ) (C := RJ4) (T := TJ4) (N := 4) (ci := 1) hx hb hts gwJ4 hown hK hoo1 rfl 0 (by decide) k57 (fun _ h => h) (v := .ref b) rfl dJ5_getValue_6d5f1_1 ?_
  first | exact e_a hx hb hr (by first | exact Or.inl ⟨_, rfl⟩ | exact Or.inr ⟨_, rfl⟩) hlk hS dJ5_getValue_6d5f1_4 (by first | exact Nat.le_of_ble_eq_true rfl | ((try dsimp only); omega)) (by first | exact Nat.le_of_ble_eq_true rfl | ((try dsimp only); omega)) ⟨by first | rfl | (subst_vars; rfl) | (rw [show b = b from by omega]), rfl⟩ | exact (show False by omega).elim

set_option maxHeartbeats 4000000 in
set_option maxRecDepth 100000 in
theorem jm_sbLength0 (θ : TH) (l : Launch) (S0 : State) (H : Heap) (hz : SZ θ S0 H) (hj : SJ θ S0 H) (a : Nat) (b : Nat) (n : Nat) (cnt : Int) (h_q0 : SB θ H a b n cnt) : CT l yJ5_length_8abf5 cJ5_length_8abf5 1 (some .int) 0 0 0 0 [.ref a] S0 H (fun v9 H1 => v9 = some (.int (iI cnt)) ∧ H1 = H) (fun _ _ => False) (fun _ : Nat => False) := by
  refine ct_of (by decide +kernel) (Nat.le_of_ble_eq_true rfl) ?_
  intro pg en s mi args below meth co ls fx hs hr hlk hxt hin hl
  subst hs
  obtain ⟨hx, hb, hml, hown, hts⟩ := id fx.1
  have hS : va_S (fun _ : Nat => False) s.heap s.heap [] := va_S.rf
  have hAB : ∀ x : Nat, (fun _ : Nat => False) x → θ.2.2.2 ≤ x := fun q h => h.elim
  have hz0 := hz
  have hj0 := hj
  have hK := sz_K fx.2 hz
  have hz2 := hz.2.1
  have lh_q0 := h_q0.lt
  refine lv_aload_n hx hb dJ5_length_8abf5_0 rfl (lv_at hl 0 rfl) ?_
  obtain ⟨mlo1, hoo1, hbo1, hco1, hdo1⟩ := h_q0.split
  have loo1 := hoo1.lt
  have lbo1 := hbo1.lt
  refine r_get (θ := θ) (C := RJ4) (T := TJ4) (N := 4) (ci := 1) hx hb hts gwJ4 hown hK hoo1 rfl 3 (by decide) k61 (fun _ h => h) (v := .int (iI cnt)) rfl dJ5_length_8abf5_1 ?_
  first | exact e_i hx hb hr hlk hS dJ5_length_8abf5_4 (by first | exact Nat.le_of_ble_eq_true rfl | ((try dsimp only); omega)) (by first | exact Nat.le_of_ble_eq_true rfl | ((try dsimp only); omega)) ⟨ex_i (by omega), rfl⟩ | exact (show False by omega).elim

set_option maxHeartbeats 4000000 in
set_option maxRecDepth 100000 in
theorem jm_sbLength (θ : TH) (l : Launch) (S0 : State) (H : Heap) (hz : SZ θ S0 H) (hj : SJ θ S0 H) (a : Nat) (b : Nat) (n : Nat) (cnt : Int) (h_q0 : SB θ H a b n cnt) : CT l yJ4_length_8abf5 cJ4_length_8abf5 1 (some .int) 1 20 0 0 [.ref a] S0 H (fun v9 H1 => v9 = some (.int (iI cnt)) ∧ H1 = H) (fun _ _ => False) (fun _ : Nat => False) := by
  refine ct_of (by decide +kernel) (Nat.le_of_ble_eq_true rfl) ?_
  intro pg en s mi args below meth co ls fx hs hr hlk hxt hin hl
  subst hs
  obtain ⟨hx, hb, hml, hown, hts⟩ := id fx.1
  have hS : va_S (fun _ : Nat => False) s.heap s.heap [] := va_S.rf
  have hAB : ∀ x : Nat, (fun _ : Nat => False) x → θ.2.2.2 ≤ x := fun q h => h.elim
  have hz0 := hz
  have hj0 := hj
  have hK := sz_K fx.2 hz
  have hz2 := hz.2.1
  have lh_q0 := h_q0.lt
  refine lv_aload_n hx hb dJ4_length_8abf5_0 rfl (lv_at hl 0 rfl) ?_
  refine c_SUr (As := []) (rest := []) (r := some (.int (iI cnt))) (st1 := [.int (iI cnt)]) fx hl (jm_sbLength0 θ l S0 _ hz hj a b n cnt h_q0) hK h_q0.split.choose_spec.1 rfl dJ4_length_8abf5_1 k506 k501 k502 k70 k2 k507 (by decide) hd_J5_length_8abf5 rfl rfl ⟨by decide, by decide⟩ (Nat.le_of_ble_eq_true rfl) ⟨by (try dsimp only); omega, by (try dsimp only); omega⟩ hS (fun x hx => by first | exact hx.elim | ((try dsimp only at hx ⊢); omega)) (fun H1 locs hpH1 hsz0H1 hk0H1 hS => ?_)
  obtain rfl := hpH1.symm
  first | exact e_i hx hb hr hlk hS dJ4_length_8abf5_4 (by first | exact Nat.le_of_ble_eq_true rfl | ((try dsimp only); omega)) (by first | exact Nat.le_of_ble_eq_true rfl | ((try dsimp only); omega)) ⟨ex_i (by omega), rfl⟩ | exact (show False by omega).elim

set_option maxHeartbeats 4000000 in
set_option maxRecDepth 100000 in
theorem jm_strInit0 (θ : TH) (l : Launch) (S0 : State) (H : Heap) (hz : SZ θ S0 H) (hj : SJ θ S0 H) (s1 : Nat) (a : Nat) (b : Nat) (n : Nat) (cnt : Int) (h_q0 : OB θ H s1 0 [.null, .int (iI 0), .int (iI 0), .int (iI 0)]) (h_q1 : SB θ H a b n cnt) (h_0 : cnt < n) (h_1 : cnt ≤ 16) (h_2 : n ≤ 1000) (h_3 : s1 ≠ a ∧ s1 ≠ b) (h_4 : θ.2.2.2 ≤ s1) : CT l yJ0_init_db425 cJ0_init_db425 5 none 3 106 1 16 [.ref s1, .ref a, .null] S0 H (fun v9 H1 => v9 = none ∧ H1.size = H.size + 1 ∧ OB θ H1 s1 0 [.ref H.size, .int (iI 0), .int (iI 0), .int (iI 0)] ∧ BY θ H1 H.size cnt.toNat ∧ SB θ H1 a b n cnt) (fun _ _ => False) (fun x : Nat => x = s1 ∨ H.size ≤ x) := by
  refine ct_of (by decide +kernel) (Nat.le_of_ble_eq_true rfl) ?_
  intro pg en s mi args below meth co ls fx hs hr hlk hxt hin hl
  subst hs
  obtain ⟨hx, hb, hml, hown, hts⟩ := id fx.1
  have hS : va_S (fun x : Nat => x = s1 ∨ s.heap.size ≤ x) s.heap s.heap [] := va_S.rf
  have hAB : ∀ x : Nat, (fun x : Nat => x = s1 ∨ s.heap.size ≤ x) x → θ.2.2.2 ≤ x := fun x hx => by have hz2 := hz.2.1; (try dsimp only at hx); omega
  have hz0 := hz
  have hj0 := hj
  have hK := sz_K fx.2 hz
  have hz2 := hz.2.1
  have lh_q0 := h_q0.lt
  have lh_q1 := h_q1.lt
  refine lv_aload_n hx hb dJ0_init_db425_0 rfl (lv_at hl 0 rfl) ?_
  refine r_oinit hx hb hml hl hts hown k494 k37 k38 dJ0_init_db425_1 (Nat.le_of_ble_eq_true rfl) (Nat.le_of_ble_eq_true rfl) ?_
  refine lv_aload_n hx hb dJ0_init_db425_4 rfl (lv_at hl 1 rfl) ?_
  refine c_Vr (C := "java/lang/StringBuilder") (As := []) (rest := []) (r := some (.ref b)) (st1 := [.ref b]) fx hl (jm_getValue θ l S0 _ hz hj a b n cnt h_q1) (ob_recv hK h_q1.split.choose_spec.1 rfl) dJ0_init_db425_5 k495 k496 k498 k2 k499 hd_J5_getValue_6d5f1 rfl rfl ⟨by decide, by decide⟩ (Nat.le_of_ble_eq_true rfl) ⟨by (try dsimp only); omega, by (try dsimp only); omega⟩ hS (fun x hx => by first | exact hx.elim | ((try dsimp only at hx ⊢); omega)) (fun H1 locs hpH1 hsz0H1 hk0H1 hS => ?_)
  obtain rfl := hpH1.symm
  refine lv_astore_n (lv' := [(3, .ref b), (0, .ref s1), (1, .ref a), (2, .null)]) hx hb dJ0_init_db425_8 rfl hl (by decide) rfl (fun ls hl => ?_)
  refine lv_aload_n hx hb dJ0_init_db425_9 rfl (lv_at hl 2 rfl) ?_
  refine c_Ur (C := "java/lang/StringBuilder") (owner := "java/lang/AbstractStringBuilder") (As := []) (rest := []) (r := some (.int (iI cnt))) (st1 := [.int (iI cnt)]) fx hl (jm_sbLength θ l S0 _ hz hj a b n cnt h_q1) (ob_recv hK h_q1.split.choose_spec.1 rfl) dJ0_init_db425_10 k500 k504 k503 k502 k501 k507 k3 k505 hd_J5_length_8abf5 rfl rfl ⟨by decide, by decide⟩ (Nat.le_of_ble_eq_true rfl) ⟨by (try dsimp only); omega, by (try dsimp only); omega⟩ hS (fun x hx => by first | exact hx.elim | ((try dsimp only at hx ⊢); omega)) (fun H2 locs hpH2 hsz0H2 hk0H2 hS => ?_)
  obtain rfl := hpH2.symm
  refine lv_istore (lv' := [(4, .int (iI cnt)), (3, .ref b), (0, .ref s1), (1, .ref a), (2, .null)]) hx hb dJ0_init_db425_13 hl (by decide) rfl (fun ls hl => ?_)
  refine lv_aload_n hx hb dJ0_init_db425_15 rfl (lv_at hl 3 rfl) ?_
  refine c_Vr (C := "java/lang/StringBuilder") (As := []) (rest := []) (r := some (.int (iI 1))) (st1 := [.int (iI 1)]) fx hl (jm_isLatin1 θ l S0 _ hz hj a b n cnt h_q1) (ob_recv hK h_q1.split.choose_spec.1 rfl) dJ0_init_db425_16 k508 k384 k386 k2 k387 hd_J5_isLatin1_aae02 rfl rfl ⟨by decide, by decide⟩ (Nat.le_of_ble_eq_true rfl) ⟨by (try dsimp only); omega, by (try dsimp only); omega⟩ hS (fun x hx => by first | exact hx.elim | ((try dsimp only at hx ⊢); omega)) (fun H3 locs hpH3 hsz0H3 hk0H3 hS => ?_)
  obtain rfl := hpH3.symm
  refine q_ieq (tgt := 41) hx hb dJ0_init_db425_19 (by decide) (by omega) (fun c4 => ?_) (fun c4 => ?_)
  · exact (show False by omega).elim
  · refine lv_aload_n hx hb dJ0_init_db425_22 rfl (lv_at hl 2 rfl) ?_
    refine q_con hx hb dJ0_init_db425_23 ?_
    refine r_putF (θ := θ) (C := RJ0) (T := TJ0) (N := 4) (ci := 0) (v := .int (iI 0)) (ty := .byte) hx hb hts gwJ0 tyJ0 tyJ0_ok nmJ0 hown hK h_q0 (by first | ((try dsimp only); omega) | dsimp only) hS rfl 1 (by decide) k540 (fun _ h => h) rfl (hin rfl) rfl (by decide +kernel) (by rfl) rfl (Nat.le_of_ble_eq_true rfl) dJ0_init_db425_24 (fun H5 locs hqH5 hszH5 hkH5 hS => ?_)
    have hnH5 : OB θ H5 s1 0 [.null, .int (iI 0), .int (iI 0), .int (iI 0)] := hqH5
    have h_q1_H5 := h_q1.kept (hkH5 _ (by omega)) (hkH5 _ (by omega))
    have hzH5 := hz0.at hAB hS
    have hjH5 := hj0.at hAB hS
    have lnH5 := hnH5.lt
    refine lv_aload_n hx hb dJ0_init_db425_27 rfl (lv_at hl 2 rfl) ?_
    refine lv_aload_n hx hb dJ0_init_db425_28 rfl (lv_at hl 1 rfl) ?_
    refine q_con hx hb dJ0_init_db425_29 ?_
    refine lv_iload hx hb dJ0_init_db425_30 (lv_at hl 0 rfl) ?_
    obtain ⟨mlo6, hoo6, hbo6, hco6, hdo6⟩ := h_q1_H5.split
    have loo6 := hoo6.lt
    have lbo6 := hbo6.lt
    refine c_Sr (As := [.ref b, .int (iI 0), .int (iI cnt)]) (rest := [.ref s1]) (r := some (.ref H5.size)) (st1 := [.ref H5.size, .ref s1]) fx hl (jm_copyOfRange θ l S0 _ hzH5 hjH5 b 0 cnt n hbo6 (by omega) (by omega) (by omega) (by omega)) dJ0_init_db425_32 k509 k510 k23 k511 hd_J7_copyOfRange_39247 rfl rfl ⟨by decide, by decide⟩ (Nat.le_of_ble_eq_true rfl) ⟨by (try dsimp only); omega, by (try dsimp only); omega⟩ hS (fun x hx => by first | exact hx.elim | ((try dsimp only at hx ⊢); omega)) (fun H7 locs hpH7 hsz0H7 hk0H7 hS => ?_)
    obtain ⟨hszH7, hoH7_0⟩ := hpH7
    have hkH7 : ∀ q : Nat, q < (H5).size → H7[q]? = (H5)[q]? := fun q hq => hk0H7 q hq (Nat.not_le.mpr hq)
    have hnH5_H7 := hnH5.kept (hkH7 _ hnH5.lt)
    have hoo6_H7 := hoo6.kept (hkH7 _ hoo6.lt)
    have hbo6_H7 := hbo6.kept (hkH7 _ hbo6.lt)
    have lhoH7_0 := hoH7_0.lt
    have hzH7 := hz0.at hAB hS
    have hjH7 := hj0.at hAB hS
    refine r_putF (θ := θ) (C := RJ0) (T := TJ0) (N := 4) (ci := 0) (v := .ref H5.size) (ty := .array .byte) hx hb hts gwJ0 tyJ0 tyJ0_ok nmJ0 hown hK hnH5_H7 (by first | ((try dsimp only); omega) | dsimp only) hS rfl 0 (by decide) k539 (fun _ h => h) rfl (hin rfl) rfl (by decide +kernel) rfl rfl (Nat.le_of_ble_eq_true rfl) dJ0_init_db425_35 (fun H8 locs hqH8 hszH8 hkH8 hS => ?_)
    have hnH8 : OB θ H8 s1 0 [.ref H5.size, .int (iI 0), .int (iI 0), .int (iI 0)] := hqH8
    have hoo6_H8 := hoo6_H7.kept (hkH8 _ (by omega))
    have hbo6_H8 := hbo6_H7.kept (hkH8 _ (by omega))
    have hoH7_0_H8 := hoH7_0.kept (hkH8 _ (by omega))
    have hzH8 := hz0.at hAB hS
    have hjH8 := hj0.at hAB hS
    have lnH8 := hnH8.lt
    refine lv_goto (tgt := 97) hx hb dJ0_init_db425_38 (by decide) ?_
    first | exact e_v hx hb hr hlk hS dJ0_init_db425_97 (by first | exact Nat.le_of_ble_eq_true rfl | ((try dsimp only); omega)) (by first | exact Nat.le_of_ble_eq_true rfl | ((try dsimp only); omega)) ⟨rfl, ⟨by omega, (by first | (rw [show s.heap.size = H5.size from by omega]; exact hnH8) | (subst_vars; rw [show s.heap.size = H5.size from by omega]; exact hnH8)), (by first | (rw [show s.heap.size = H5.size from by omega]; exact hoH7_0_H8) | (subst_vars; rw [show s.heap.size = H5.size from by omega]; exact hoH7_0_H8)), by first | exact (mk_sb hoo6_H8 hbo6_H8 (by omega)) | (subst_vars; exact (mk_sb hoo6_H8 hbo6_H8 (by omega)))⟩⟩ | exact (show False by omega).elim

set_option maxHeartbeats 4000000 in
set_option maxRecDepth 100000 in
theorem jm_strInit (θ : TH) (l : Launch) (S0 : State) (H : Heap) (hz : SZ θ S0 H) (hj : SJ θ S0 H) (s1 : Nat) (a : Nat) (b : Nat) (n : Nat) (cnt : Int) (h_q0 : OB θ H s1 0 [.null, .int (iI 0), .int (iI 0), .int (iI 0)]) (h_q1 : SB θ H a b n cnt) (h_0 : cnt < n) (h_1 : cnt ≤ 16) (h_2 : n ≤ 1000) (h_3 : s1 ≠ a ∧ s1 ≠ b) (h_4 : θ.2.2.2 ≤ s1) : CT l yJ0_init_81219 cJ0_init_81219 2 none 4 130 1 16 [.ref s1, .ref a] S0 H (fun v9 H1 => v9 = none ∧ H1.size = H.size + 1 ∧ OB θ H1 s1 0 [.ref H.size, .int (iI 0), .int (iI 0), .int (iI 0)] ∧ BY θ H1 H.size cnt.toNat ∧ SB θ H1 a b n cnt) (fun _ _ => False) (fun x : Nat => x = s1 ∨ H.size ≤ x) := by
  refine ct_of (by decide +kernel) (Nat.le_of_ble_eq_true rfl) ?_
  intro pg en s mi args below meth co ls fx hs hr hlk hxt hin hl
  subst hs
  obtain ⟨hx, hb, hml, hown, hts⟩ := id fx.1
  have hS : va_S (fun x : Nat => x = s1 ∨ s.heap.size ≤ x) s.heap s.heap [] := va_S.rf
  have hAB : ∀ x : Nat, (fun x : Nat => x = s1 ∨ s.heap.size ≤ x) x → θ.2.2.2 ≤ x := fun x hx => by have hz2 := hz.2.1; (try dsimp only at hx); omega
  have hz0 := hz
  have hj0 := hj
  have hK := sz_K fx.2 hz
  have hz2 := hz.2.1
  have lh_q0 := h_q0.lt
  have lh_q1 := h_q1.lt
  refine lv_aload_n hx hb dJ0_init_81219_0 rfl (lv_at hl 0 rfl) ?_
  refine lv_aload_n hx hb dJ0_init_81219_1 rfl (lv_at hl 1 rfl) ?_
  refine lv_null hx hb dJ0_init_81219_2 ?_
  refine c_Ir (As := [.ref a, .null]) (rest := []) (r := none) (st1 := []) fx hl (jm_strInit0 θ l S0 _ hz hj s1 a b n cnt h_q0 h_q1 (by omega) (by omega) (by omega) (by omega) (by omega)) dJ0_init_81219_3 k491 k492 k4 k493 rfl hd_J0_init_db425 rfl rfl ⟨by decide, by decide⟩ (Nat.le_of_ble_eq_true rfl) ⟨by (try dsimp only); omega, by (try dsimp only); omega⟩ hS (fun x hx => by first | exact hx.elim | ((try dsimp only at hx ⊢); omega)) (fun H1 locs hpH1 hsz0H1 hk0H1 hS => ?_)
  obtain ⟨hszH1, hoH1_0, hoH1_1, hoH1_2⟩ := hpH1
  have hkH1 : ∀ q : Nat, q < (s.heap).size → ¬ (q = s1) → H1[q]? = (s.heap)[q]? := fun q hq hn => hk0H1 q hq (by (try dsimp only); omega)
  have h_q1_H1 := h_q1.kept (hkH1 _ h_q1.lt.1 (by omega)) (hkH1 _ h_q1.lt.2 (by omega))
  have lhoH1_0 := hoH1_0.lt
  have lhoH1_1 := hoH1_1.lt
  have lhoH1_2 := hoH1_2.lt
  have hzH1 := hz0.at hAB hS
  have hjH1 := hj0.at hAB hS
  first | exact e_v hx hb hr hlk hS dJ0_init_81219_6 (by first | exact Nat.le_of_ble_eq_true rfl | ((try dsimp only); omega)) (by first | exact Nat.le_of_ble_eq_true rfl | ((try dsimp only); omega)) ⟨rfl, ⟨by omega, by first | exact hoH1_0 | (subst_vars; exact hoH1_0), by first | exact hoH1_1 | (subst_vars; exact hoH1_1), by first | exact hoH1_2 | (subst_vars; exact hoH1_2)⟩⟩ | exact (show False by omega).elim

set_option maxHeartbeats 4000000 in
set_option maxRecDepth 100000 in
theorem jm_toString (θ : TH) (l : Launch) (S0 : State) (H : Heap) (hz : SZ θ S0 H) (hj : SJ θ S0 H) (a : Nat) (b : Nat) (n : Nat) (cnt : Int) (h_q0 : SB θ H a b n cnt) (h_0 : cnt < n) (h_1 : cnt ≤ 16) (h_2 : n ≤ 1000) : CT l yJ4_toString_0e30d cJ4_toString_0e30d 1 (some (.object "java/lang/String")) 5 151 2 20 [.ref a] S0 H (fun v9 H1 => v9 = some (.ref H.size) ∧ H1.size = H.size + 2 ∧ STg S0 H1 H.size (H.size + 1) cnt.toNat ∧ SB θ H1 a b n cnt) (fun _ _ => False) (fun x : Nat => H.size ≤ x) := by
  refine ct_of (by decide +kernel) (Nat.le_of_ble_eq_true rfl) ?_
  intro pg en s mi args below meth co ls fx hs hr hlk hxt hin hl
  subst hs
  obtain ⟨hx, hb, hml, hown, hts⟩ := id fx.1
  have hS : va_S (fun x : Nat => s.heap.size ≤ x) s.heap s.heap [] := va_S.rf
  have hAB : ∀ x : Nat, (fun x : Nat => s.heap.size ≤ x) x → θ.2.2.2 ≤ x := fun x hx => by have hz2 := hz.2.1; (try dsimp only at hx); omega
  have hz0 := hz
  have hj0 := hj
  have hK := sz_K fx.2 hz
  have hz2 := hz.2.1
  have lh_q0 := h_q0.lt
  refine r_new (θ := θ) (ci := 0) (fs := [.null, .int (iI 0), .int (iI 0), .int (iI 0)]) (C := RJ0) (T := TJ0) (N := 4) hx hb hts gwJ0 tyJ0 tyJ0_ok hown k486 k487 k4 hK hS rfl (fun j hj => by rcases (show j = 0 ∨ j = 1 ∨ j = 2 ∨ j = 3 by omega) with rfl | rfl | rfl | rfl <;> rfl) (by (try dsimp only); omega) (by (try dsimp only); omega) dJ4_toString_0e30d_0 (fun H1 hnH1 hszH1 hkH1 hS => ?_)
  have h_q0_H1 := h_q0.kept (hkH1 _ h_q0.lt.1) (hkH1 _ h_q0.lt.2)
  have hzH1 := hz0.at hAB hS
  have hjH1 := hj0.at hAB hS
  have lnH1 := hnH1.lt
  refine lv_dup hx hb dJ4_toString_0e30d_3 rfl ?_
  refine lv_aload_n hx hb dJ4_toString_0e30d_4 rfl (lv_at hl 0 rfl) ?_
  refine c_Ir (As := [.ref a]) (rest := [.ref s.heap.size]) (r := none) (st1 := [.ref s.heap.size]) fx hl (jm_strInit θ l S0 _ hzH1 hjH1 s.heap.size a b n cnt hnH1 h_q0_H1 (by omega) (by omega) (by omega) (by omega) (by omega)) dJ4_toString_0e30d_5 k488 k489 k4 k490 rfl hd_J0_init_81219 rfl rfl ⟨by decide, by decide⟩ (Nat.le_of_ble_eq_true rfl) ⟨by (try dsimp only); omega, by (try dsimp only); omega⟩ hS (fun x hx => by first | exact hx.elim | ((try dsimp only at hx ⊢); omega)) (fun H2 locs hpH2 hsz0H2 hk0H2 hS => ?_)
  obtain ⟨hszH2, hoH2_0, hoH2_1, hoH2_2⟩ := hpH2
  have hkH2 : ∀ q : Nat, q < (H1).size → ¬ (q = s.heap.size) → H2[q]? = (H1)[q]? := fun q hq hn => hk0H2 q hq (by (try dsimp only); omega)
  have h_q0_H2 := h_q0_H1.kept (hkH2 _ h_q0_H1.lt.1 (by omega)) (hkH2 _ h_q0_H1.lt.2 (by omega))
  have lhoH2_0 := hoH2_0.lt
  have lhoH2_1 := hoH2_1.lt
  have lhoH2_2 := hoH2_2.lt
  have hzH2 := hz0.at hAB hS
  have hjH2 := hj0.at hAB hS
  first | exact e_a hx hb hr (by first | exact Or.inl ⟨_, rfl⟩ | exact Or.inr ⟨_, rfl⟩) hlk hS dJ4_toString_0e30d_8 (by first | exact Nat.le_of_ble_eq_true rfl | ((try dsimp only); omega)) (by first | exact Nat.le_of_ble_eq_true rfl | ((try dsimp only); omega)) ⟨by first | rfl | (subst_vars; rfl) | (rw [show s.heap.size = s.heap.size from by omega]), ⟨by omega, (by first | (rw [show s.heap.size + 1 = H1.size from by omega]; exact (mk_st fx.2 hzH2 hts hoH2_0 hoH2_1)) | (subst_vars; rw [show s.heap.size + 1 = H1.size from by omega]; exact (mk_st fx.2 hzH2 hts hoH2_0 hoH2_1))), by first | exact hoH2_2 | (subst_vars; exact hoH2_2)⟩⟩ | exact (show False by omega).elim

set_option maxHeartbeats 4000000 in
set_option maxRecDepth 100000 in
theorem jm_setLength0 (θ : TH) (l : Launch) (S0 : State) (H : Heap) (hz : SZ θ S0 H) (hj : SJ θ S0 H) (a : Nat) (q : Int) (b : Nat) (n : Nat) (cnt : Int) (h_q0 : SB θ H a b n cnt) (h_0 : q = 0) (h_1 : n ≤ 1000) (h_2 : a ≠ b) (h_3 : θ.2.2.2 ≤ a) : CT l yJ5_setLength_d00df cJ5_setLength_d00df 2 none 1 22 0 0 [.ref a, .int (iI q)] S0 H (fun v9 H1 => v9 = none ∧ H1.size = H.size + 0 ∧ SB θ H1 a b n 0) (fun _ _ => False) (fun x : Nat => x = a) := by
  refine ct_of (by decide +kernel) (Nat.le_of_ble_eq_true rfl) ?_
  intro pg en s mi args below meth co ls fx hs hr hlk hxt hin hl
  subst hs
  obtain ⟨hx, hb, hml, hown, hts⟩ := id fx.1
  have hS : va_S (fun x : Nat => x = a) s.heap s.heap [] := va_S.rf
  have hAB : ∀ x : Nat, (fun x : Nat => x = a) x → θ.2.2.2 ≤ x := fun x hx => by have hz2 := hz.2.1; (try dsimp only at hx); omega
  have hz0 := hz
  have hj0 := hj
  have hK := sz_K fx.2 hz
  have hz2 := hz.2.1
  have lh_q0 := h_q0.lt
  refine lv_iload_n hx hb dJ5_setLength_d00df_0 rfl (lv_at hl 1 rfl) ?_
  refine q_ige (tgt := 13) hx hb dJ5_setLength_d00df_1 (by decide) (by omega) (fun c1 => ?_) (fun c1 => ?_)
  · refine lv_aload_n hx hb dJ5_setLength_d00df_13 rfl (lv_at hl 0 rfl) ?_
    refine lv_iload_n hx hb dJ5_setLength_d00df_14 rfl (lv_at hl 1 rfl) ?_
    refine c_VPr (As := [.int (iI q)]) (rest := []) (r := none) (st1 := []) fx hl (jm_ensureCap θ l S0 _ hz hj a q b n cnt h_q0 (by omega) (by omega)) (ob_st h_q0.split.choose_spec.1) hj0.1.1.1 dJ5_setLength_d00df_15 k350 k352 k1632 k2 k353 hd_J5_ensureCapacityInternal_d00df rfl rfl ⟨by decide, by decide⟩ (Nat.le_of_ble_eq_true rfl) ⟨by (try dsimp only); omega, by (try dsimp only); omega⟩ hS (fun x hx => by first | exact hx.elim | ((try dsimp only at hx ⊢); omega)) (fun H2 locs hpH2 hsz0H2 hk0H2 hS => ?_)
    obtain rfl := hpH2.symm
    refine lv_aload_n hx hb dJ5_setLength_d00df_18 rfl (lv_at hl 0 rfl) ?_
    obtain ⟨mlo3, hoo3, hbo3, hco3, hdo3⟩ := h_q0.split
    have loo3 := hoo3.lt
    have lbo3 := hbo3.lt
    refine r_get (θ := θ) (C := RJ4) (T := TJ4) (N := 4) (ci := 1) hx hb hts gwJ4 hown hK hoo3 rfl 3 (by decide) k61 (fun _ h => h) (v := .int (iI cnt)) rfl dJ5_setLength_d00df_19 ?_
    refine lv_iload_n hx hb dJ5_setLength_d00df_22 rfl (lv_at hl 1 rfl) ?_
    refine q_cge (tgt := 63) hx hb dJ5_setLength_d00df_23 (by decide) (by omega) (by omega) (fun c4 => ?_) (fun c4 => ?_)
    · refine lv_aload_n hx hb dJ5_setLength_d00df_63 rfl (lv_at hl 0 rfl) ?_
      refine r_get (θ := θ) (C := RJ4) (T := TJ4) (N := 4) (ci := 1) hx hb hts gwJ4 hown hK hoo3 rfl 3 (by decide) k61 (fun _ h => h) (v := .int (iI cnt)) rfl dJ5_setLength_d00df_64 ?_
      refine lv_iload_n hx hb dJ5_setLength_d00df_67 rfl (lv_at hl 1 rfl) ?_
      refine q_cle (tgt := 76) hx hb dJ5_setLength_d00df_68 (by decide) (by omega) (by omega) (fun c5 => ?_) (fun c5 => ?_)
      · refine lv_aload_n hx hb dJ5_setLength_d00df_76 rfl (lv_at hl 0 rfl) ?_
        refine lv_iload_n hx hb dJ5_setLength_d00df_77 rfl (lv_at hl 1 rfl) ?_
        refine q_as (0) (by omega) ?_
        refine r_put (θ := θ) (C := RJ4) (T := TJ4) (N := 4) (ci := 1) (v := .int (iI 0)) (ty := .int) hx hb hts gwJ4 tyJ4 tyJ4_ok nmJ4 hown hK hoo3 (by first | ((try dsimp only); omega) | dsimp only) hS rfl 3 (by decide) k61 (fun _ h => h) rfl (by decide +kernel) rfl rfl (Nat.le_of_ble_eq_true rfl) dJ5_setLength_d00df_78 (fun H6 locs hqH6 hszH6 hkH6 hS => ?_)
        have hnH6 : OB θ H6 a 1 [.ref b, .int (iI 0), .int (iI mlo3), .int (iI 0)] := hqH6
        have hbo3_H6 := hbo3.kept (hkH6 _ (by omega))
        have hzH6 := hz0.at hAB hS
        have hjH6 := hj0.at hAB hS
        have lnH6 := hnH6.lt
        first | exact e_v hx hb hr hlk hS dJ5_setLength_d00df_81 (by first | exact Nat.le_of_ble_eq_true rfl | ((try dsimp only); omega)) (by first | exact Nat.le_of_ble_eq_true rfl | ((try dsimp only); omega)) ⟨rfl, ⟨by omega, by first | exact (mk_sb hnH6 hbo3_H6 (by omega)) | (subst_vars; exact (mk_sb hnH6 hbo3_H6 (by omega)))⟩⟩ | exact (show False by omega).elim
      · refine lv_aload_n hx hb dJ5_setLength_d00df_71 rfl (lv_at hl 0 rfl) ?_
        refine q_con hx hb dJ5_setLength_d00df_72 ?_
        refine r_put (θ := θ) (C := RJ4) (T := TJ4) (N := 4) (ci := 1) (v := .int (iI 1)) (ty := .boolean) hx hb hts gwJ4 tyJ4 tyJ4_ok nmJ4 hown hK hoo3 (by first | ((try dsimp only); omega) | dsimp only) hS rfl 2 (by decide) k59 (fun _ h => h) rfl (by decide +kernel) (by rfl) rfl (Nat.le_of_ble_eq_true rfl) dJ5_setLength_d00df_73 (fun H7 locs hqH7 hszH7 hkH7 hS => ?_)
        have hnH7 : OB θ H7 a 1 [.ref b, .int (iI 0), .int (iI 1), .int (iI cnt)] := hqH7
        have hbo3_H7 := hbo3.kept (hkH7 _ (by omega))
        have hzH7 := hz0.at hAB hS
        have hjH7 := hj0.at hAB hS
        have lnH7 := hnH7.lt
        refine lv_aload_n hx hb dJ5_setLength_d00df_76 rfl (lv_at hl 0 rfl) ?_
        refine lv_iload_n hx hb dJ5_setLength_d00df_77 rfl (lv_at hl 1 rfl) ?_
        refine q_as (0) (by omega) ?_
        refine r_put (θ := θ) (C := RJ4) (T := TJ4) (N := 4) (ci := 1) (v := .int (iI 0)) (ty := .int) hx hb hts gwJ4 tyJ4 tyJ4_ok nmJ4 hown hK hnH7 (by first | ((try dsimp only); omega) | dsimp only) hS rfl 3 (by decide) k61 (fun _ h => h) rfl (by decide +kernel) rfl rfl (Nat.le_of_ble_eq_true rfl) dJ5_setLength_d00df_78 (fun H8 locs hqH8 hszH8 hkH8 hS => ?_)
        have hnH8 : OB θ H8 a 1 [.ref b, .int (iI 0), .int (iI 1), .int (iI 0)] := hqH8
        have hbo3_H8 := hbo3_H7.kept (hkH8 _ (by omega))
        have hzH8 := hz0.at hAB hS
        have hjH8 := hj0.at hAB hS
        have lnH8 := hnH8.lt
        first | exact e_v hx hb hr hlk hS dJ5_setLength_d00df_81 (by first | exact Nat.le_of_ble_eq_true rfl | ((try dsimp only); omega)) (by first | exact Nat.le_of_ble_eq_true rfl | ((try dsimp only); omega)) ⟨rfl, ⟨by omega, by first | exact (mk_sb hnH8 hbo3_H8 (by omega)) | (subst_vars; exact (mk_sb hnH8 hbo3_H8 (by omega)))⟩⟩ | exact (show False by omega).elim
    · exact (show False by omega).elim
  · exact (show False by omega).elim

set_option maxHeartbeats 4000000 in
set_option maxRecDepth 100000 in
theorem jm_setLength (θ : TH) (l : Launch) (S0 : State) (H : Heap) (hz : SZ θ S0 H) (hj : SJ θ S0 H) (a : Nat) (q : Int) (b : Nat) (n : Nat) (cnt : Int) (h_q0 : SB θ H a b n cnt) (h_0 : q = 0) (h_1 : n ≤ 1000) (h_2 : a ≠ b) (h_3 : θ.2.2.2 ≤ a) : CT l yJ4_setLength_d00df cJ4_setLength_d00df 2 none 2 43 0 0 [.ref a, .int (iI q)] S0 H (fun v9 H1 => v9 = none ∧ H1.size = H.size + 0 ∧ SB θ H1 a b n 0) (fun _ _ => False) (fun x : Nat => x = a) := by
  refine ct_of (by decide +kernel) (Nat.le_of_ble_eq_true rfl) ?_
  intro pg en s mi args below meth co ls fx hs hr hlk hxt hin hl
  subst hs
  obtain ⟨hx, hb, hml, hown, hts⟩ := id fx.1
  have hS : va_S (fun x : Nat => x = a) s.heap s.heap [] := va_S.rf
  have hAB : ∀ x : Nat, (fun x : Nat => x = a) x → θ.2.2.2 ≤ x := fun x hx => by have hz2 := hz.2.1; (try dsimp only at hx); omega
  have hz0 := hz
  have hj0 := hj
  have hK := sz_K fx.2 hz
  have hz2 := hz.2.1
  have lh_q0 := h_q0.lt
  refine lv_aload_n hx hb dJ4_setLength_d00df_0 rfl (lv_at hl 0 rfl) ?_
  refine lv_iload_n hx hb dJ4_setLength_d00df_1 rfl (lv_at hl 1 rfl) ?_
  refine c_SUr (As := [.int (iI q)]) (rest := []) (r := none) (st1 := []) fx hl (jm_setLength0 θ l S0 _ hz hj a q b n cnt h_q0 (by omega) (by omega) (by omega) (by omega)) hK h_q0.split.choose_spec.1 rfl dJ4_setLength_d00df_2 k328 k329 k1629 k70 k2 k330 (by decide) hd_J5_setLength_d00df rfl rfl ⟨by decide, by decide⟩ (Nat.le_of_ble_eq_true rfl) ⟨by (try dsimp only); omega, by (try dsimp only); omega⟩ hS (fun x hx => by first | exact hx.elim | ((try dsimp only at hx ⊢); omega)) (fun H1 locs hpH1 hsz0H1 hk0H1 hS => ?_)
  obtain ⟨hszH1, hoH1_0⟩ := hpH1
  have hkH1 : ∀ q : Nat, q < (s.heap).size → ¬ (q = a) → H1[q]? = (s.heap)[q]? := fun q hq hn => hk0H1 q hq (by (try dsimp only); omega)
  have lhoH1_0 := hoH1_0.lt
  have hzH1 := hz0.at hAB hS
  have hjH1 := hj0.at hAB hS
  first | exact e_v hx hb hr hlk hS dJ4_setLength_d00df_5 (by first | exact Nat.le_of_ble_eq_true rfl | ((try dsimp only); omega)) (by first | exact Nat.le_of_ble_eq_true rfl | ((try dsimp only); omega)) ⟨rfl, ⟨by omega, by first | exact hoH1_0 | (subst_vars; exact hoH1_0)⟩⟩ | exact (show False by omega).elim

set_option maxHeartbeats 4000000 in
set_option maxRecDepth 100000 in
theorem jm_absInit (θ : TH) (l : Launch) (S0 : State) (H : Heap) (hz : SZ θ S0 H) (hj : SJ θ S0 H) (a : Nat) (q : Int) (h_q0 : OB θ H a 1 [.null, .int (iI 0), .int (iI 0), .int (iI 0)]) (h_0 : q = 16) (h_1 : θ.2.2.2 ≤ a) : CT l yJ5_init_d00df cJ5_init_d00df 2 none 1 20 1 16 [.ref a, .int (iI q)] S0 H (fun v9 H1 => v9 = none ∧ H1.size = H.size + 1 ∧ SB θ H1 a H.size 16 0) (fun _ _ => False) (fun x : Nat => x = a ∨ H.size ≤ x) := by
  refine ct_of (by decide +kernel) (Nat.le_of_ble_eq_true rfl) ?_
  intro pg en s mi args below meth co ls fx hs hr hlk hxt hin hl
  subst hs
  obtain ⟨hx, hb, hml, hown, hts⟩ := id fx.1
  have hS : va_S (fun x : Nat => x = a ∨ s.heap.size ≤ x) s.heap s.heap [] := va_S.rf
  have hAB : ∀ x : Nat, (fun x : Nat => x = a ∨ s.heap.size ≤ x) x → θ.2.2.2 ≤ x := fun x hx => by have hz2 := hz.2.1; (try dsimp only at hx); omega
  have hz0 := hz
  have hj0 := hj
  have hK := sz_K fx.2 hz
  have hz2 := hz.2.1
  have lh_q0 := h_q0.lt
  refine lv_aload_n hx hb dJ5_init_d00df_0 rfl (lv_at hl 0 rfl) ?_
  refine r_oinit hx hb hml hl hts hown k47 k37 k38 dJ5_init_d00df_1 (Nat.le_of_ble_eq_true rfl) (Nat.le_of_ble_eq_true rfl) ?_
  refine r_gets (θ := θ) hx hb fx.2 hz0.2.2.2.2.2.2.1 hAB hS hown (hts _ k48) dJ5_init_d00df_4 ?_
  refine q_ai 1 rfl ?_
  refine q_ieq (tgt := 25) hx hb dJ5_init_d00df_7 (by decide) (by omega) (fun c1 => ?_) (fun c1 => ?_)
  · exact (show False by omega).elim
  · refine lv_aload_n hx hb dJ5_init_d00df_10 rfl (lv_at hl 0 rfl) ?_
    refine lv_iload_n hx hb dJ5_init_d00df_11 rfl (lv_at hl 1 rfl) ?_
    refine q_as (16) (by omega) ?_
    refine r_newB (θ := θ) hx hb hts hK k72 hS (n := 16) (by omega) (by (try dsimp only); omega) (by (try dsimp only); omega) dJ5_init_d00df_12 (fun H2 hnH2 hszH2 hkH2 hS => ?_)
    have h_q0_H2 := h_q0.kept (hkH2 _ h_q0.lt)
    have hzH2 := hz0.at hAB hS
    have hjH2 := hj0.at hAB hS
    have lnH2 := hnH2.lt
    refine r_put (θ := θ) (C := RJ4) (T := TJ4) (N := 4) (ci := 1) (v := .ref s.heap.size) (ty := .array .byte) hx hb hts gwJ4 tyJ4 tyJ4_ok nmJ4 hown hK h_q0_H2 (by first | ((try dsimp only); omega) | dsimp only) hS rfl 0 (by decide) k57 (fun _ h => h) rfl (by decide +kernel) rfl rfl (Nat.le_of_ble_eq_true rfl) dJ5_init_d00df_14 (fun H3 locs hqH3 hszH3 hkH3 hS => ?_)
    have hnH3 : OB θ H3 a 1 [.ref s.heap.size, .int (iI 0), .int (iI 0), .int (iI 0)] := hqH3
    have hnH2_H3 := hnH2.kept (hkH3 _ (by omega))
    have hzH3 := hz0.at hAB hS
    have hjH3 := hj0.at hAB hS
    have lnH3 := hnH3.lt
    refine lv_aload_n hx hb dJ5_init_d00df_17 rfl (lv_at hl 0 rfl) ?_
    refine q_con hx hb dJ5_init_d00df_18 ?_
    refine r_put (θ := θ) (C := RJ4) (T := TJ4) (N := 4) (ci := 1) (v := .int (iI 0)) (ty := .byte) hx hb hts gwJ4 tyJ4 tyJ4_ok nmJ4 hown hK hnH3 (by first | ((try dsimp only); omega) | dsimp only) hS rfl 1 (by decide) k58 (fun _ h => h) rfl (by decide +kernel) (by rfl) rfl (Nat.le_of_ble_eq_true rfl) dJ5_init_d00df_19 (fun H4 locs hqH4 hszH4 hkH4 hS => ?_)
    have hnH4 : OB θ H4 a 1 [.ref s.heap.size, .int (iI 0), .int (iI 0), .int (iI 0)] := hqH4
    have hnH2_H4 := hnH2_H3.kept (hkH4 _ (by omega))
    have hzH4 := hz0.at hAB hS
    have hjH4 := hj0.at hAB hS
    have lnH4 := hnH4.lt
    refine lv_goto (tgt := 38) hx hb dJ5_init_d00df_22 (by decide) ?_
    first | exact e_v hx hb hr hlk hS dJ5_init_d00df_38 (by first | exact Nat.le_of_ble_eq_true rfl | ((try dsimp only); omega)) (by first | exact Nat.le_of_ble_eq_true rfl | ((try dsimp only); omega)) ⟨rfl, ⟨by omega, by first | exact (mk_sb hnH4 hnH2_H4 (by omega)) | (subst_vars; exact (mk_sb hnH4 hnH2_H4 (by omega)))⟩⟩ | exact (show False by omega).elim

set_option maxHeartbeats 4000000 in
set_option maxRecDepth 100000 in
theorem jm_sbInit (θ : TH) (l : Launch) (S0 : State) (H : Heap) (hz : SZ θ S0 H) (hj : SJ θ S0 H) (a : Nat) (h_q0 : OB θ H a 1 [.null, .int (iI 0), .int (iI 0), .int (iI 0)]) (h_0 : θ.2.2.2 ≤ a) : CT l yJ4_init_da8c8 cJ4_init_da8c8 1 none 2 41 1 16 [.ref a] S0 H (fun v9 H1 => v9 = none ∧ H1.size = H.size + 1 ∧ SB θ H1 a H.size 16 0) (fun _ _ => False) (fun x : Nat => x = a ∨ H.size ≤ x) := by
  refine ct_of (by decide +kernel) (Nat.le_of_ble_eq_true rfl) ?_
  intro pg en s mi args below meth co ls fx hs hr hlk hxt hin hl
  subst hs
  obtain ⟨hx, hb, hml, hown, hts⟩ := id fx.1
  have hS : va_S (fun x : Nat => x = a ∨ s.heap.size ≤ x) s.heap s.heap [] := va_S.rf
  have hAB : ∀ x : Nat, (fun x : Nat => x = a ∨ s.heap.size ≤ x) x → θ.2.2.2 ≤ x := fun x hx => by have hz2 := hz.2.1; (try dsimp only at hx); omega
  have hz0 := hz
  have hj0 := hj
  have hK := sz_K fx.2 hz
  have hz2 := hz.2.1
  have lh_q0 := h_q0.lt
  refine lv_aload_n hx hb dJ4_init_da8c8_0 rfl (lv_at hl 0 rfl) ?_
  refine q_bip hx hb dJ4_init_da8c8_1 (by decide) ?_
  refine c_Ir (As := [.int (iI 16)]) (rest := []) (r := none) (st1 := []) fx hl (jm_absInit θ l S0 _ hz hj a 16 h_q0 (by omega) (by omega)) dJ4_init_da8c8_3 k44 k45 k2 k46 rfl hd_J5_init_d00df rfl rfl ⟨by decide, by decide⟩ (Nat.le_of_ble_eq_true rfl) ⟨by (try dsimp only); omega, by (try dsimp only); omega⟩ hS (fun x hx => by first | exact hx.elim | ((try dsimp only at hx ⊢); omega)) (fun H1 locs hpH1 hsz0H1 hk0H1 hS => ?_)
  obtain ⟨hszH1, hoH1_0⟩ := hpH1
  have hkH1 : ∀ q : Nat, q < (s.heap).size → ¬ (q = a) → H1[q]? = (s.heap)[q]? := fun q hq hn => hk0H1 q hq (by (try dsimp only); omega)
  have lhoH1_0 := hoH1_0.lt
  have hzH1 := hz0.at hAB hS
  have hjH1 := hj0.at hAB hS
  first | exact e_v hx hb hr hlk hS dJ4_init_da8c8_6 (by first | exact Nat.le_of_ble_eq_true rfl | ((try dsimp only); omega)) (by first | exact Nat.le_of_ble_eq_true rfl | ((try dsimp only); omega)) ⟨rfl, ⟨by omega, by first | exact hoH1_0 | (subst_vars; exact hoH1_0)⟩⟩ | exact (show False by omega).elim
