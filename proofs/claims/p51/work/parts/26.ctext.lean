/-- the date behind i shifts by n -/
def wyI (d n : Int) : Nat → Int
  | 0 => d
  | i + 1 => shI (wyI d n i) n
theorem wy_step (d n : Int) : dI (shI d n) = dI d ∨ (28 ≤ dI (shI d n) ∧ dI (shI d n) < dI d) := by
  have h := (shI_s d n).2.1
  have h2 := len_b (mI d + n)
  by_cases e : dI d ≤ fI (mI d + n + 1) - fI (mI d + n)
  · rw [if_pos e] at h
    exact Or.inl h
  · rw [if_neg e] at h
    exact Or.inr (by omega)
theorem wy_bd (d n : Int) (hd : -4371587 ≤ d ∧ d ≤ 2932896) (hn : -1200 ≤ n ∧ n ≤ 1200) : ∀ i : Nat, -4371587 - 40000 * (i : Int) ≤ wyI d n i ∧ wyI d n i ≤ 2932896 + 40000 * (i : Int) := by
  intro i
  induction i with
  | zero => exact ⟨by show _ ≤ d; omega, by show d ≤ _; omega⟩
  | succ i ih =>
    have h := shI_bd (wyI d n i) n
    show _ ≤ shI (wyI d n i) n ∧ shI (wyI d n i) n ≤ _
    omega
set_option maxHeartbeats 4000000 in
set_option maxRecDepth 100000 in
theorem jm_twoDigits (θ : TH) (l : Launch) (S0 : State) (H : Heap) (hz : SZ θ S0 H) (hj : SJ θ S0 H) (v : Int) (u : Nat → Nat) (bc : Int) (rf : Int) (kn : Int) (cnt : Int) (h_q0 : OB θ H (u 0) 7 [.ref (u 1), .ref (u 2), .ref (u 3), .ref (u 4), .ref (u 5), .int (iI bc), .int (iI rf), .int (iI kn)]) (h_q1 : SB θ H (u 5) (u 6) 16 cnt) (h_0 : 0 ≤ v ∧ v < 100) (h_1 : cnt + 2 ≤ 16) (h_2 : u 0 ≠ u 5 ∧ u 0 ≠ u 6 ∧ u 5 ≠ u 6) (h_3 : θ.2.2.2 ≤ (u 5)) (h_4 : θ.2.2.2 ≤ (u 6)) : CT l yX1_writeTwoDigits cX1_writeTwoDigits 2 none 3 70 0 0 [.ref (u 0), .int (iI v)] S0 H (fun v9 H1 => v9 = none ∧ H1.size = H.size + 0 ∧ SB θ H1 (u 5) (u 6) 16 (cnt + 2)) (fun _ _ => False) (fun x : Nat => x = (u 5) ∨ x = (u 6)) := by
  refine ct_of (by decide +kernel) (Nat.le_of_ble_eq_true rfl) ?_
  intro pg en s mi args below meth co ls fx hs hr hlk hxt hin hl
  subst hs
  obtain ⟨hx, hb, hml, hown, hts⟩ := id fx.1
  have hS : va_S (fun x : Nat => x = (u 5) ∨ x = (u 6)) s.heap s.heap [] := va_S.rf
  have hAB : ∀ x : Nat, (fun x : Nat => x = (u 5) ∨ x = (u 6)) x → θ.2.2.2 ≤ x := fun x hx => by have hz2 := hz.2.1; (try dsimp only at hx); omega
  have hz0 := hz
  have hj0 := hj
  have hK := sz_K fx.2 hz
  have hz2 := hz.2.1
  have lh_q0 := h_q0.lt
  have lh_q1 := h_q1.lt
  have tsv := sgI_b v
  refine lv_iload_n hx hb dX1_writeTwoDigits_0 rfl (lv_at hl 1 rfl) ?_
  refine q_bip hx hb dX1_writeTwoDigits_1 (by decide) ?_
  refine q_cge (tgt := 16) hx hb dX1_writeTwoDigits_3 (by decide) (by omega) (by omega) (fun c1 => ?_) (fun c1 => ?_)
  · refine lv_aload_n hx hb dX1_writeTwoDigits_16 rfl (lv_at hl 0 rfl) ?_
    refine r_get (θ := θ) (C := RX1) (T := TX1) (N := 8) (ci := 7) hx hb hts gwX1 hown hK h_q0 rfl 4 (by decide) k77 (fun _ h => h) (v := .ref (u 5)) rfl dX1_writeTwoDigits_17 ?_
    refine lv_iload_n hx hb dX1_writeTwoDigits_20 rfl (lv_at hl 1 rfl) ?_
    refine c_Vr (C := "java/lang/StringBuilder") (As := [.int (iI v)]) (rest := []) (r := some (.ref (u 5))) (st1 := [.ref (u 5)]) fx hl (jm_appendI θ l S0 _ hz hj (u 5) v (u 6) 16 cnt h_q1 (by omega) (by omega) (by omega) (by omega) (by omega) (by omega)) (ob_recv hK h_q1.split.choose_spec.1 rfl) dX1_writeTwoDigits_21 k626 k458 k459 k3 k460 hd_J4_append_bf812 rfl rfl ⟨by decide, by decide⟩ (Nat.le_of_ble_eq_true rfl) ⟨by (try dsimp only); omega, by (try dsimp only); omega⟩ hS (fun x hx => by first | exact hx.elim | ((try dsimp only at hx ⊢); omega)) (fun H2 locs hpH2 hsz0H2 hk0H2 hS => ?_)
    obtain ⟨hszH2, hoH2_0⟩ := hpH2
    have hkH2 : ∀ q : Nat, q < (s.heap).size → ¬ (q = (u 5) ∨ q = (u 6)) → H2[q]? = (s.heap)[q]? := fun q hq hn => hk0H2 q hq (by (try dsimp only); omega)
    have h_q0_H2 := h_q0.kept (hkH2 _ h_q0.lt (by omega))
    have lhoH2_0 := hoH2_0.lt
    have hzH2 := hz0.at hAB hS
    have hjH2 := hj0.at hAB hS
    refine lv_pop hx hb dX1_writeTwoDigits_24 rfl ?_
    first | exact e_v hx hb hr hlk hS dX1_writeTwoDigits_25 (by first | exact Nat.le_of_ble_eq_true rfl | ((try dsimp only); omega)) (by first | exact Nat.le_of_ble_eq_true rfl | ((try dsimp only); omega)) ⟨rfl, ⟨by omega, by first | exact (show SB θ _ _ _ _ (cnt + 2) from by rw [show cnt + 2 = cnt + sgI v from by omega]; exact hoH2_0) | (subst_vars; exact (show SB θ _ _ _ _ (cnt + 2) from by rw [show cnt + 2 = cnt + sgI v from by omega]; exact hoH2_0))⟩⟩ | exact (show False by omega).elim
  · refine lv_aload_n hx hb dX1_writeTwoDigits_6 rfl (lv_at hl 0 rfl) ?_
    refine r_get (θ := θ) (C := RX1) (T := TX1) (N := 8) (ci := 7) hx hb hts gwX1 hown hK h_q0 rfl 4 (by decide) k77 (fun _ h => h) (v := .ref (u 5)) rfl dX1_writeTwoDigits_7 ?_
    refine q_bip hx hb dX1_writeTwoDigits_10 (by decide) ?_
    refine c_Vr (C := "java/lang/StringBuilder") (As := [.int (iI 48)]) (rest := []) (r := some (.ref (u 5))) (st1 := [.ref (u 5)]) fx hl (jm_appendC θ l S0 _ hz hj (u 5) 48 (u 6) 16 cnt h_q1 (by omega) (by omega) (by omega) (by omega) (by omega) (by omega)) (ob_recv hK h_q1.split.choose_spec.1 rfl) dX1_writeTwoDigits_12 k597 k598 k599 k3 k600 hd_J4_append_cf468 rfl rfl ⟨by decide, by decide⟩ (Nat.le_of_ble_eq_true rfl) ⟨by (try dsimp only); omega, by (try dsimp only); omega⟩ hS (fun x hx => by first | exact hx.elim | ((try dsimp only at hx ⊢); omega)) (fun H3 locs hpH3 hsz0H3 hk0H3 hS => ?_)
    obtain ⟨hszH3, hoH3_0⟩ := hpH3
    have hkH3 : ∀ q : Nat, q < (s.heap).size → ¬ (q = (u 5) ∨ q = (u 6)) → H3[q]? = (s.heap)[q]? := fun q hq hn => hk0H3 q hq (by (try dsimp only); omega)
    have h_q0_H3 := h_q0.kept (hkH3 _ h_q0.lt (by omega))
    have lhoH3_0 := hoH3_0.lt
    have hzH3 := hz0.at hAB hS
    have hjH3 := hj0.at hAB hS
    refine lv_pop hx hb dX1_writeTwoDigits_15 rfl ?_
    refine lv_aload_n hx hb dX1_writeTwoDigits_16 rfl (lv_at hl 0 rfl) ?_
    refine r_get (θ := θ) (C := RX1) (T := TX1) (N := 8) (ci := 7) hx hb hts gwX1 hown hK h_q0_H3 rfl 4 (by decide) k77 (fun _ h => h) (v := .ref (u 5)) rfl dX1_writeTwoDigits_17 ?_
    refine lv_iload_n hx hb dX1_writeTwoDigits_20 rfl (lv_at hl 1 rfl) ?_
    refine c_Vr (C := "java/lang/StringBuilder") (As := [.int (iI v)]) (rest := []) (r := some (.ref (u 5))) (st1 := [.ref (u 5)]) fx hl (jm_appendI θ l S0 _ hzH3 hjH3 (u 5) v (u 6) 16 (cnt + 1) hoH3_0 (by omega) (by omega) (by omega) (by omega) (by omega) (by omega)) (ob_recv hK hoH3_0.split.choose_spec.1 rfl) dX1_writeTwoDigits_21 k626 k458 k459 k3 k460 hd_J4_append_bf812 rfl rfl ⟨by decide, by decide⟩ (Nat.le_of_ble_eq_true rfl) ⟨by (try dsimp only); omega, by (try dsimp only); omega⟩ hS (fun x hx => by first | exact hx.elim | ((try dsimp only at hx ⊢); omega)) (fun H4 locs hpH4 hsz0H4 hk0H4 hS => ?_)
    obtain ⟨hszH4, hoH4_0⟩ := hpH4
    have hkH4 : ∀ q : Nat, q < (H3).size → ¬ (q = (u 5) ∨ q = (u 6)) → H4[q]? = (H3)[q]? := fun q hq hn => hk0H4 q hq (by (try dsimp only); omega)
    have h_q0_H4 := h_q0_H3.kept (hkH4 _ h_q0_H3.lt (by omega))
    have lhoH4_0 := hoH4_0.lt
    have hzH4 := hz0.at hAB hS
    have hjH4 := hj0.at hAB hS
    refine lv_pop hx hb dX1_writeTwoDigits_24 rfl ?_
    first | exact e_v hx hb hr hlk hS dX1_writeTwoDigits_25 (by first | exact Nat.le_of_ble_eq_true rfl | ((try dsimp only); omega)) (by first | exact Nat.le_of_ble_eq_true rfl | ((try dsimp only); omega)) ⟨rfl, ⟨by omega, by first | exact (show SB θ _ _ _ _ (cnt + 2) from by rw [show cnt + 2 = (cnt + 1) + sgI v from by omega]; exact hoH4_0) | (subst_vars; exact (show SB θ _ _ _ _ (cnt + 2) from by rw [show cnt + 2 = (cnt + 1) + sgI v from by omega]; exact hoH4_0))⟩⟩ | exact (show False by omega).elim

set_option maxHeartbeats 4000000 in
set_option maxRecDepth 100000 in
theorem ok_text (θ : TH) (l : Launch) (hl0 : l.stackTraces = false) (S0 : State) (H : Heap) (u : Nat → Nat) (dt sy sm sd : Nat → Int) (bc rf kn : Int) (hw : CWR θ S0 u H dt sy sm sd bc rf kn) (hj : SJ θ S0 H) (a : Int) (h_0 : 0 ≤ a ∧ a < 6) : CT l yX1_text cX1_text 5 (some (.object "java/lang/String")) 6 171 2 20 [.ref (u 0), .int (iI a)] S0 H (fun v9 H1 => v9 = some (.ref H.size) ∧ CW θ u H1 dt sy sm sd bc rf kn ∧ (STg S0 H1 H.size (H.size + 1) (if mI (dt a.toNat) / 12 < 0 then 11 else 10)) ∧ H1.size = H.size + 2) (fun _ _ => False) (fun x : Nat => x = u 5 ∨ x = u 6 ∨ H.size ≤ x) := by
  refine ct_of (by decide +kernel) (Nat.le_of_ble_eq_true rfl) ?_
  intro pg en s mi args below meth co ls fx hs hr hlk hxt hin hl
  subst hs
  obtain ⟨hx, hb, hml, hown, hts⟩ := id fx.1
  have hS : va_S (fun x : Nat => x = u 5 ∨ x = u 6 ∨ s.heap.size ≤ x) s.heap s.heap [] := va_S.rf
  obtain ⟨hz, hu, ⟨ho, ha1, ha2, ha3, ha4, hsb9⟩, hd, hsp⟩ := id hw
  obtain ⟨cnt0, hsb⟩ := hsb9
  have hnA0 : ¬ (fun x : Nat => x = u 5 ∨ x = u 6 ∨ s.heap.size ≤ x) (u 0) := fun hx => hx.elim (fun z => absurd (hu.1 0 5 (by decide) (by decide) z) (by decide)) (fun hx => hx.elim (fun z => absurd (hu.1 0 6 (by decide) (by decide) z) (by decide)) (fun z => Nat.not_le.mpr ho.lt z))
  have hnA1 : ¬ (fun x : Nat => x = u 5 ∨ x = u 6 ∨ s.heap.size ≤ x) (u 1) := fun hx => hx.elim (fun z => absurd (hu.1 1 5 (by decide) (by decide) z) (by decide)) (fun hx => hx.elim (fun z => absurd (hu.1 1 6 (by decide) (by decide) z) (by decide)) (fun z => Nat.not_le.mpr ha1.lt z))
  have hnA2 : ¬ (fun x : Nat => x = u 5 ∨ x = u 6 ∨ s.heap.size ≤ x) (u 2) := fun hx => hx.elim (fun z => absurd (hu.1 2 5 (by decide) (by decide) z) (by decide)) (fun hx => hx.elim (fun z => absurd (hu.1 2 6 (by decide) (by decide) z) (by decide)) (fun z => Nat.not_le.mpr ha2.lt z))
  have hnA3 : ¬ (fun x : Nat => x = u 5 ∨ x = u 6 ∨ s.heap.size ≤ x) (u 3) := fun hx => hx.elim (fun z => absurd (hu.1 3 5 (by decide) (by decide) z) (by decide)) (fun hx => hx.elim (fun z => absurd (hu.1 3 6 (by decide) (by decide) z) (by decide)) (fun z => Nat.not_le.mpr ha3.lt z))
  have hnA4 : ¬ (fun x : Nat => x = u 5 ∨ x = u 6 ∨ s.heap.size ≤ x) (u 4) := fun hx => hx.elim (fun z => absurd (hu.1 4 5 (by decide) (by decide) z) (by decide)) (fun hx => hx.elim (fun z => absurd (hu.1 4 6 (by decide) (by decide) z) (by decide)) (fun z => Nat.not_le.mpr ha4.lt z))
  have hu9 : Hid (u 0 ≠ u 5 ∧ u 0 ≠ u 6 ∧ u 5 ≠ u 6) := Hid.mk ⟨fun z => absurd (hu.1 0 5 (by decide) (by decide) z) (by decide), fun z => absurd (hu.1 0 6 (by decide) (by decide) z) (by decide), fun z => absurd (hu.1 5 6 (by decide) (by decide) z) (by decide)⟩
  have hu56 := hu9.out.2.2
  have hu5 := hu.2 5 (by decide)
  have hu6 := hu.2 6 (by decide)
  have hz2 := hz.2.1
  have hAB : ∀ x : Nat, (fun x : Nat => x = u 5 ∨ x = u 6 ∨ s.heap.size ≤ x) x → θ.2.2.2 ≤ x := fun x hx => by (try dsimp only at hx); omega
  have hz0 := hz
  have hj0 := hj
  have hK := sz_K fx.2 hz
  have lsb := hsb.lt
  have tt0 := hd a.toNat (by omega)
  have tt1 := inR tt0
  have tt2 := dI_b (dt a.toNat)
  refine lv_iload_n hx hb dX1_text_0 rfl (lv_at hl 1 rfl) ?_
  refine c_N (As := [.int (iI a)]) (rest := []) fx hl (nok_needPlace l S0 _ a (by omega) (by omega)) dX1_text_1 k260 k261 k1 k262 hd_X1_needPlace rfl ⟨by decide, by decide⟩ (Nat.le_of_ble_eq_true rfl) ⟨by dsimp only; omega, by dsimp only; omega⟩ ?_
  refine lv_aload_n hx hb dX1_text_4 rfl (lv_at hl 0 rfl) ?_
  refine r_get (θ := θ) (C := RX1) (T := TX1) (N := 8) (ci := 7) hx hb hts gwX1 hown hK ho rfl 0 (by decide) k73 (fun _ h => h) (v := .ref (u 1)) rfl dX1_text_5 ?_
  refine lv_iload_n hx hb dX1_text_8 rfl (lv_at hl 1 rfl) ?_
  refine r_iald (θ := θ) hx hb hK ha1 (i := a) (by omega) (by decide) dX1_text_9 ?_
  have tr1 := hd (a.toNat) (by omega)
  refine c_P (As := [.int (iI (dt a.toNat))]) (rest := []) fx hl (pm_X0_monthOf l (dt a.toNat) (by omega)) dX1_text_10 k283 k110 k13 k111 hd_X0_monthOf rfl ⟨by decide, by decide⟩ (Nat.le_of_ble_eq_true rfl) ⟨by omega, by omega⟩ ?_
  have t0z2 := mI_s (dt a.toNat)
  have t1z2 := mI_bd (dt a.toNat)
  have t2z2 := len_b (mI (dt a.toNat))
  refine lv_istore_n (lv' := [(2, .int (iI (mI (dt a.toNat)))), (0, .ref (u 0)), (1, .int (iI a))]) hx hb dX1_text_13 rfl hl (by decide) rfl (fun ls hl => ?_)
  refine lv_iload_n hx hb dX1_text_14 rfl (lv_at hl 0 rfl) ?_
  refine c_P (As := [.int (iI (mI (dt a.toNat)))]) (rest := []) fx hl (pm_X0_yearOfMonth l (mI (dt a.toNat)) (by omega)) dX1_text_15 k323 k304 k13 k305 hd_X0_yearOfMonth rfl ⟨by decide, by decide⟩ (Nat.le_of_ble_eq_true rfl) ⟨by omega, by omega⟩ ?_
  refine q_nm (fun z3 ez3 => ?_)
  refine lv_istore_n (lv' := [(3, .int (iI z3)), (2, .int (iI (mI (dt a.toNat)))), (0, .ref (u 0)), (1, .int (iI a))]) hx hb dX1_text_18 rfl hl (by decide) rfl (fun ls hl => ?_)
  refine lv_aload_n hx hb dX1_text_19 rfl (lv_at hl 2 rfl) ?_
  refine r_get (θ := θ) (C := RX1) (T := TX1) (N := 8) (ci := 7) hx hb hts gwX1 hown hK ho rfl 4 (by decide) k77 (fun _ h => h) (v := .ref (u 5)) rfl dX1_text_20 ?_
  refine q_con hx hb dX1_text_23 ?_
  refine c_Vr (C := "java/lang/StringBuilder") (As := [.int (iI 0)]) (rest := []) (r := none) (st1 := []) fx hl (jm_setLength θ l S0 _ hz hj (u 5) 0 (u 6) 16 cnt0 hsb (by omega) (by omega) (by omega) (by omega)) (ob_recv hK hsb.split.choose_spec.1 rfl) dX1_text_24 k324 k325 k326 k3 k327 hd_J4_setLength_d00df rfl rfl ⟨by decide, by decide⟩ (Nat.le_of_ble_eq_true rfl) ⟨by (try dsimp only); omega, by (try dsimp only); omega⟩ hS (fun x hx => by first | exact hx.elim | ((try dsimp only at hx ⊢); omega)) (fun H4 locs hpH4 hsz0H4 hk0H4 hS => ?_)
  obtain ⟨hszH4, hoH4_0⟩ := hpH4
  have hkH4 : ∀ q : Nat, q < (s.heap).size → ¬ (q = (u 5)) → H4[q]? = (s.heap)[q]? := fun q hq hn => hk0H4 q hq (by (try dsimp only); omega)
  have lhoH4_0 := hoH4_0.lt
  have hzH4 := hz0.at hAB hS
  have hjH4 := hj0.at hAB hS
  have ha1H4 := ha1.kept (hS.2.1 _ ha1.lt hnA1)
  have ha2H4 := ha2.kept (hS.2.1 _ ha2.lt hnA2)
  have ha3H4 := ha3.kept (hS.2.1 _ ha3.lt hnA3)
  have ha4H4 := ha4.kept (hS.2.1 _ ha4.lt hnA4)
  have hoH4 := ho.kept (hS.2.1 _ ho.lt hnA0)
  refine lv_iload_n hx hb dX1_text_27 rfl (lv_at hl 0 rfl) ?_
  refine q_ige (tgt := 41) hx hb dX1_text_28 (by decide) (by omega) (fun c5 => ?_) (fun c5 => ?_)
  · refine lv_iload_n hx hb dX1_text_41 rfl (lv_at hl 0 rfl) ?_
    refine c_P (As := [.int (iI z3)]) (rest := []) fx hl (pm_abs l z3 (by omega)) dX1_text_42 k619 k620 k14 k621 hd_J9_abs_0f7a4 rfl ⟨by decide, by decide⟩ (Nat.le_of_ble_eq_true rfl) ⟨by omega, by omega⟩ ?_
    refine q_nm (fun z6 ez6 => ?_)
    refine lv_istore (lv' := [(4, .int (iI z6)), (3, .int (iI z3)), (2, .int (iI (mI (dt a.toNat)))), (0, .ref (u 0)), (1, .int (iI a))]) hx hb dX1_text_45 hl (by decide) rfl (fun ls hl => ?_)
    refine lv_aload_n hx hb dX1_text_47 rfl (lv_at hl 3 rfl) ?_
    refine lv_iload hx hb dX1_text_48 (lv_at hl 0 rfl) ?_
    refine q_bip hx hb dX1_text_50 (by decide) ?_
    refine q_div hx hb dX1_text_52 (by omega) (by omega) ?_
    refine q_nm (fun z7 ez7 => ?_)
    have fz7 : 0 ≤ z6 → z7 = z6 / 100 := fun h => by rw [ez7, tdiv_pos h (by omega)]
    have gz7 : z6 < 0 → z7 = -((-z6) / 100) := fun h => by rw [ez7, tdiv_neg' h]
    clear ez7
    refine c_Vr (C := "Calendaract") (As := [.int (iI z7)]) (rest := []) (r := none) (st1 := []) fx hl (jm_twoDigits θ l S0 _ hzH4 hjH4 z7 u bc rf kn 0 hoH4 hoH4_0 (by omega) (by omega) (by exact hu9.out) (by omega) (by omega)) (ob_recv hK hoH4 rfl) dX1_text_53 k622 k624 ks4 k1 k625 hd_X1_writeTwoDigits rfl rfl ⟨by decide, by decide⟩ (Nat.le_of_ble_eq_true rfl) ⟨by (try dsimp only); omega, by (try dsimp only); omega⟩ hS (fun x hx => by first | exact hx.elim | ((try dsimp only at hx ⊢); omega)) (fun H8 locs hpH8 hsz0H8 hk0H8 hS => ?_)
    obtain ⟨hszH8, hoH8_0⟩ := hpH8
    have hkH8 : ∀ q : Nat, q < (H4).size → ¬ (q = (u 5) ∨ q = (u 6)) → H8[q]? = (H4)[q]? := fun q hq hn => hk0H8 q hq (by (try dsimp only); omega)
    have lhoH8_0 := hoH8_0.lt
    have hzH8 := hz0.at hAB hS
    have hjH8 := hj0.at hAB hS
    have ha1H8 := ha1.kept (hS.2.1 _ ha1.lt hnA1)
    have ha2H8 := ha2.kept (hS.2.1 _ ha2.lt hnA2)
    have ha3H8 := ha3.kept (hS.2.1 _ ha3.lt hnA3)
    have ha4H8 := ha4.kept (hS.2.1 _ ha4.lt hnA4)
    have hoH8 := ho.kept (hS.2.1 _ ho.lt hnA0)
    refine lv_aload_n hx hb dX1_text_56 rfl (lv_at hl 3 rfl) ?_
    refine lv_iload hx hb dX1_text_57 (lv_at hl 0 rfl) ?_
    refine q_bip hx hb dX1_text_59 (by decide) ?_
    refine q_rem hx hb dX1_text_61 (by omega) (by omega) ?_
    refine q_nm (fun z9 ez9 => ?_)
    have fz9 : 0 ≤ z6 → z9 = z6 % 100 := fun h => by rw [ez9, tdiv_pos h (by omega)]; omega
    have gz9 : z6 < 0 → z9 = -((-z6) % 100) := fun h => by rw [ez9, tdiv_neg' h]; omega
    clear ez9
    refine c_Vr (C := "Calendaract") (As := [.int (iI z9)]) (rest := []) (r := none) (st1 := []) fx hl (jm_twoDigits θ l S0 _ hzH8 hjH8 z9 u bc rf kn (0 + 2) hoH8 hoH8_0 (by omega) (by omega) (by exact hu9.out) (by omega) (by omega)) (ob_recv hK hoH8 rfl) dX1_text_62 k622 k624 ks4 k1 k625 hd_X1_writeTwoDigits rfl rfl ⟨by decide, by decide⟩ (Nat.le_of_ble_eq_true rfl) ⟨by (try dsimp only); omega, by (try dsimp only); omega⟩ hS (fun x hx => by first | exact hx.elim | ((try dsimp only at hx ⊢); omega)) (fun H10 locs hpH10 hsz0H10 hk0H10 hS => ?_)
    obtain ⟨hszH10, hoH10_0⟩ := hpH10
    have hkH10 : ∀ q : Nat, q < (H8).size → ¬ (q = (u 5) ∨ q = (u 6)) → H10[q]? = (H8)[q]? := fun q hq hn => hk0H10 q hq (by (try dsimp only); omega)
    have lhoH10_0 := hoH10_0.lt
    have hzH10 := hz0.at hAB hS
    have hjH10 := hj0.at hAB hS
    have ha1H10 := ha1.kept (hS.2.1 _ ha1.lt hnA1)
    have ha2H10 := ha2.kept (hS.2.1 _ ha2.lt hnA2)
    have ha3H10 := ha3.kept (hS.2.1 _ ha3.lt hnA3)
    have ha4H10 := ha4.kept (hS.2.1 _ ha4.lt hnA4)
    have hoH10 := ho.kept (hS.2.1 _ ho.lt hnA0)
    refine lv_aload_n hx hb dX1_text_65 rfl (lv_at hl 3 rfl) ?_
    refine r_get (θ := θ) (C := RX1) (T := TX1) (N := 8) (ci := 7) hx hb hts gwX1 hown hK hoH10 rfl 4 (by decide) k77 (fun _ h => h) (v := .ref (u 5)) rfl dX1_text_66 ?_
    refine q_bip hx hb dX1_text_69 (by decide) ?_
    refine c_Vr (C := "java/lang/StringBuilder") (As := [.int (iI 45)]) (rest := []) (r := some (.ref (u 5))) (st1 := [.ref (u 5)]) fx hl (jm_appendC θ l S0 _ hzH10 hjH10 (u 5) 45 (u 6) 16 ((0 + 2) + 2) hoH10_0 (by omega) (by omega) (by omega) (by omega) (by omega) (by omega)) (ob_recv hK hoH10_0.split.choose_spec.1 rfl) dX1_text_71 k597 k598 k599 k3 k600 hd_J4_append_cf468 rfl rfl ⟨by decide, by decide⟩ (Nat.le_of_ble_eq_true rfl) ⟨by (try dsimp only); omega, by (try dsimp only); omega⟩ hS (fun x hx => by first | exact hx.elim | ((try dsimp only at hx ⊢); omega)) (fun H11 locs hpH11 hsz0H11 hk0H11 hS => ?_)
    obtain ⟨hszH11, hoH11_0⟩ := hpH11
    have hkH11 : ∀ q : Nat, q < (H10).size → ¬ (q = (u 5) ∨ q = (u 6)) → H11[q]? = (H10)[q]? := fun q hq hn => hk0H11 q hq (by (try dsimp only); omega)
    have lhoH11_0 := hoH11_0.lt
    have hzH11 := hz0.at hAB hS
    have hjH11 := hj0.at hAB hS
    have ha1H11 := ha1.kept (hS.2.1 _ ha1.lt hnA1)
    have ha2H11 := ha2.kept (hS.2.1 _ ha2.lt hnA2)
    have ha3H11 := ha3.kept (hS.2.1 _ ha3.lt hnA3)
    have ha4H11 := ha4.kept (hS.2.1 _ ha4.lt hnA4)
    have hoH11 := ho.kept (hS.2.1 _ ho.lt hnA0)
    refine lv_pop hx hb dX1_text_74 rfl ?_
    refine lv_aload_n hx hb dX1_text_75 rfl (lv_at hl 3 rfl) ?_
    refine lv_iload_n hx hb dX1_text_76 rfl (lv_at hl 2 rfl) ?_
    refine c_P (As := [.int (iI (mI (dt a.toNat)))]) (rest := [.ref (u 0)]) fx hl (pm_X0_monthInYear l (mI (dt a.toNat)) (by omega)) dX1_text_77 k627 k628 k13 k629 hd_X0_monthInYear rfl ⟨by decide, by decide⟩ (Nat.le_of_ble_eq_true rfl) ⟨by omega, by omega⟩ ?_
    refine q_nm (fun z12 ez12 => ?_)
    refine c_Vr (C := "Calendaract") (As := [.int (iI z12)]) (rest := []) (r := none) (st1 := []) fx hl (jm_twoDigits θ l S0 _ hzH11 hjH11 z12 u bc rf kn (((0 + 2) + 2) + 1) hoH11 hoH11_0 (by omega) (by omega) (by exact hu9.out) (by omega) (by omega)) (ob_recv hK hoH11 rfl) dX1_text_80 k622 k624 ks4 k1 k625 hd_X1_writeTwoDigits rfl rfl ⟨by decide, by decide⟩ (Nat.le_of_ble_eq_true rfl) ⟨by (try dsimp only); omega, by (try dsimp only); omega⟩ hS (fun x hx => by first | exact hx.elim | ((try dsimp only at hx ⊢); omega)) (fun H13 locs hpH13 hsz0H13 hk0H13 hS => ?_)
    obtain ⟨hszH13, hoH13_0⟩ := hpH13
    have hkH13 : ∀ q : Nat, q < (H11).size → ¬ (q = (u 5) ∨ q = (u 6)) → H13[q]? = (H11)[q]? := fun q hq hn => hk0H13 q hq (by (try dsimp only); omega)
    have lhoH13_0 := hoH13_0.lt
    have hzH13 := hz0.at hAB hS
    have hjH13 := hj0.at hAB hS
    have ha1H13 := ha1.kept (hS.2.1 _ ha1.lt hnA1)
    have ha2H13 := ha2.kept (hS.2.1 _ ha2.lt hnA2)
    have ha3H13 := ha3.kept (hS.2.1 _ ha3.lt hnA3)
    have ha4H13 := ha4.kept (hS.2.1 _ ha4.lt hnA4)
    have hoH13 := ho.kept (hS.2.1 _ ho.lt hnA0)
    refine lv_aload_n hx hb dX1_text_83 rfl (lv_at hl 3 rfl) ?_
    refine r_get (θ := θ) (C := RX1) (T := TX1) (N := 8) (ci := 7) hx hb hts gwX1 hown hK hoH13 rfl 4 (by decide) k77 (fun _ h => h) (v := .ref (u 5)) rfl dX1_text_84 ?_
    refine q_bip hx hb dX1_text_87 (by decide) ?_
    refine c_Vr (C := "java/lang/StringBuilder") (As := [.int (iI 45)]) (rest := []) (r := some (.ref (u 5))) (st1 := [.ref (u 5)]) fx hl (jm_appendC θ l S0 _ hzH13 hjH13 (u 5) 45 (u 6) 16 ((((0 + 2) + 2) + 1) + 2) hoH13_0 (by omega) (by omega) (by omega) (by omega) (by omega) (by omega)) (ob_recv hK hoH13_0.split.choose_spec.1 rfl) dX1_text_89 k597 k598 k599 k3 k600 hd_J4_append_cf468 rfl rfl ⟨by decide, by decide⟩ (Nat.le_of_ble_eq_true rfl) ⟨by (try dsimp only); omega, by (try dsimp only); omega⟩ hS (fun x hx => by first | exact hx.elim | ((try dsimp only at hx ⊢); omega)) (fun H14 locs hpH14 hsz0H14 hk0H14 hS => ?_)
    obtain ⟨hszH14, hoH14_0⟩ := hpH14
    have hkH14 : ∀ q : Nat, q < (H13).size → ¬ (q = (u 5) ∨ q = (u 6)) → H14[q]? = (H13)[q]? := fun q hq hn => hk0H14 q hq (by (try dsimp only); omega)
    have lhoH14_0 := hoH14_0.lt
    have hzH14 := hz0.at hAB hS
    have hjH14 := hj0.at hAB hS
    have ha1H14 := ha1.kept (hS.2.1 _ ha1.lt hnA1)
    have ha2H14 := ha2.kept (hS.2.1 _ ha2.lt hnA2)
    have ha3H14 := ha3.kept (hS.2.1 _ ha3.lt hnA3)
    have ha4H14 := ha4.kept (hS.2.1 _ ha4.lt hnA4)
    have hoH14 := ho.kept (hS.2.1 _ ho.lt hnA0)
    refine lv_pop hx hb dX1_text_92 rfl ?_
    refine lv_aload_n hx hb dX1_text_93 rfl (lv_at hl 3 rfl) ?_
    refine lv_aload_n hx hb dX1_text_94 rfl (lv_at hl 3 rfl) ?_
    refine r_get (θ := θ) (C := RX1) (T := TX1) (N := 8) (ci := 7) hx hb hts gwX1 hown hK hoH14 rfl 0 (by decide) k73 (fun _ h => h) (v := .ref (u 1)) rfl dX1_text_95 ?_
    refine lv_iload_n hx hb dX1_text_98 rfl (lv_at hl 4 rfl) ?_
    refine r_iald (θ := θ) hx hb hK ha1H14 (i := a) (by omega) (by decide) dX1_text_99 ?_
    have tr15 := hd (a.toNat) (by omega)
    refine c_P (As := [.int (iI (dt a.toNat))]) (rest := [.ref (u 0)]) fx hl (pm_X0_dayOf l (dt a.toNat) (by omega)) dX1_text_100 k288 k129 k13 k130 hd_X0_dayOf rfl ⟨by decide, by decide⟩ (Nat.le_of_ble_eq_true rfl) ⟨by omega, by omega⟩ ?_
    have t0z16 := dI_b (dt a.toNat)
    refine c_Vr (C := "Calendaract") (As := [.int (iI (dI (dt a.toNat)))]) (rest := []) (r := none) (st1 := []) fx hl (jm_twoDigits θ l S0 _ hzH14 hjH14 (dI (dt a.toNat)) u bc rf kn (((((0 + 2) + 2) + 1) + 2) + 1) hoH14 hoH14_0 (by omega) (by omega) (by exact hu9.out) (by omega) (by omega)) (ob_recv hK hoH14 rfl) dX1_text_103 k622 k624 ks4 k1 k625 hd_X1_writeTwoDigits rfl rfl ⟨by decide, by decide⟩ (Nat.le_of_ble_eq_true rfl) ⟨by (try dsimp only); omega, by (try dsimp only); omega⟩ hS (fun x hx => by first | exact hx.elim | ((try dsimp only at hx ⊢); omega)) (fun H17 locs hpH17 hsz0H17 hk0H17 hS => ?_)
    obtain ⟨hszH17, hoH17_0⟩ := hpH17
    have hkH17 : ∀ q : Nat, q < (H14).size → ¬ (q = (u 5) ∨ q = (u 6)) → H17[q]? = (H14)[q]? := fun q hq hn => hk0H17 q hq (by (try dsimp only); omega)
    have lhoH17_0 := hoH17_0.lt
    have hzH17 := hz0.at hAB hS
    have hjH17 := hj0.at hAB hS
    have ha1H17 := ha1.kept (hS.2.1 _ ha1.lt hnA1)
    have ha2H17 := ha2.kept (hS.2.1 _ ha2.lt hnA2)
    have ha3H17 := ha3.kept (hS.2.1 _ ha3.lt hnA3)
    have ha4H17 := ha4.kept (hS.2.1 _ ha4.lt hnA4)
    have hoH17 := ho.kept (hS.2.1 _ ho.lt hnA0)
    refine lv_aload_n hx hb dX1_text_106 rfl (lv_at hl 3 rfl) ?_
    refine r_get (θ := θ) (C := RX1) (T := TX1) (N := 8) (ci := 7) hx hb hts gwX1 hown hK hoH17 rfl 4 (by decide) k77 (fun _ h => h) (v := .ref (u 5)) rfl dX1_text_107 ?_
    refine c_Vr (C := "java/lang/StringBuilder") (As := []) (rest := []) (r := some (.ref H17.size)) (st1 := [.ref H17.size]) fx hl (jm_toString θ l S0 _ hzH17 hjH17 (u 5) (u 6) 16 ((((((0 + 2) + 2) + 1) + 2) + 1) + 2) hoH17_0 (by omega) (by omega) (by omega)) (ob_recv hK hoH17_0.split.choose_spec.1 rfl) dX1_text_110 k630 k483 k484 k3 k485 hd_J4_toString_0e30d rfl rfl ⟨by decide, by decide⟩ (Nat.le_of_ble_eq_true rfl) ⟨by (try dsimp only); omega, by (try dsimp only); omega⟩ hS (fun x hx => by first | exact hx.elim | ((try dsimp only at hx ⊢); omega)) (fun H18 locs hpH18 hsz0H18 hk0H18 hS => ?_)
    obtain ⟨hszH18, hoH18_0, hoH18_1⟩ := hpH18
    have hkH18 : ∀ q : Nat, q < (H17).size → H18[q]? = (H17)[q]? := fun q hq => hk0H18 q hq (Nat.not_le.mpr hq)
    have hoH17_0_H18 := hoH17_0.kept (hkH18 _ hoH17_0.lt.1) (hkH18 _ hoH17_0.lt.2)
    have lhoH18_0 := hoH18_0.lt
    have lhoH18_1 := hoH18_1.lt
    have hzH18 := hz0.at hAB hS
    have hjH18 := hj0.at hAB hS
    have ha1H18 := ha1.kept (hS.2.1 _ ha1.lt hnA1)
    have ha2H18 := ha2.kept (hS.2.1 _ ha2.lt hnA2)
    have ha3H18 := ha3.kept (hS.2.1 _ ha3.lt hnA3)
    have ha4H18 := ha4.kept (hS.2.1 _ ha4.lt hnA4)
    have hoH18 := ho.kept (hS.2.1 _ ho.lt hnA0)
    have eh1 : H17.size = s.heap.size := by omega
    have eh2 : H17.size + 1 = s.heap.size + 1 := by omega
    have hst9 := hoH18_0
    rw [eh2, eh1] at hst9
    rw [eh1]
    exact e_a hx hb hr (by first | exact Or.inl ⟨_, rfl⟩ | exact Or.inr ⟨_, rfl⟩) hlk hS dX1_text_113 (by first | exact Nat.le_of_ble_eq_true rfl | ((try dsimp only); omega)) (by first | exact Nat.le_of_ble_eq_true rfl | ((try dsimp only); omega)) ⟨rfl, ⟨hoH18, ha1H18, ha2H18, ha3H18, ha4H18, ⟨_, hoH18_1⟩⟩, by first | (rw [if_pos (by omega)]; exact hst9) | (rw [if_neg (by omega)]; exact hst9), by omega⟩
  · refine lv_aload_n hx hb dX1_text_31 rfl (lv_at hl 2 rfl) ?_
    refine r_get (θ := θ) (C := RX1) (T := TX1) (N := 8) (ci := 7) hx hb hts gwX1 hown hK hoH4 rfl 4 (by decide) k77 (fun _ h => h) (v := .ref (u 5)) rfl dX1_text_32 ?_
    refine q_bip hx hb dX1_text_35 (by decide) ?_
    refine c_Vr (C := "java/lang/StringBuilder") (As := [.int (iI 45)]) (rest := []) (r := some (.ref (u 5))) (st1 := [.ref (u 5)]) fx hl (jm_appendC θ l S0 _ hzH4 hjH4 (u 5) 45 (u 6) 16 0 hoH4_0 (by omega) (by omega) (by omega) (by omega) (by omega) (by omega)) (ob_recv hK hoH4_0.split.choose_spec.1 rfl) dX1_text_37 k597 k598 k599 k3 k600 hd_J4_append_cf468 rfl rfl ⟨by decide, by decide⟩ (Nat.le_of_ble_eq_true rfl) ⟨by (try dsimp only); omega, by (try dsimp only); omega⟩ hS (fun x hx => by first | exact hx.elim | ((try dsimp only at hx ⊢); omega)) (fun H19 locs hpH19 hsz0H19 hk0H19 hS => ?_)
    obtain ⟨hszH19, hoH19_0⟩ := hpH19
    have hkH19 : ∀ q : Nat, q < (H4).size → ¬ (q = (u 5) ∨ q = (u 6)) → H19[q]? = (H4)[q]? := fun q hq hn => hk0H19 q hq (by (try dsimp only); omega)
    have lhoH19_0 := hoH19_0.lt
    have hzH19 := hz0.at hAB hS
    have hjH19 := hj0.at hAB hS
    have ha1H19 := ha1.kept (hS.2.1 _ ha1.lt hnA1)
    have ha2H19 := ha2.kept (hS.2.1 _ ha2.lt hnA2)
    have ha3H19 := ha3.kept (hS.2.1 _ ha3.lt hnA3)
    have ha4H19 := ha4.kept (hS.2.1 _ ha4.lt hnA4)
    have hoH19 := ho.kept (hS.2.1 _ ho.lt hnA0)
    refine lv_pop hx hb dX1_text_40 rfl ?_
    refine lv_iload_n hx hb dX1_text_41 rfl (lv_at hl 0 rfl) ?_
    refine c_P (As := [.int (iI z3)]) (rest := []) fx hl (pm_abs l z3 (by omega)) dX1_text_42 k619 k620 k14 k621 hd_J9_abs_0f7a4 rfl ⟨by decide, by decide⟩ (Nat.le_of_ble_eq_true rfl) ⟨by omega, by omega⟩ ?_
    refine q_nm (fun z20 ez20 => ?_)
    refine lv_istore (lv' := [(4, .int (iI z20)), (3, .int (iI z3)), (2, .int (iI (mI (dt a.toNat)))), (0, .ref (u 0)), (1, .int (iI a))]) hx hb dX1_text_45 hl (by decide) rfl (fun ls hl => ?_)
    refine lv_aload_n hx hb dX1_text_47 rfl (lv_at hl 3 rfl) ?_
    refine lv_iload hx hb dX1_text_48 (lv_at hl 0 rfl) ?_
    refine q_bip hx hb dX1_text_50 (by decide) ?_
    refine q_div hx hb dX1_text_52 (by omega) (by omega) ?_
    refine q_nm (fun z21 ez21 => ?_)
    have fz21 : 0 ≤ z20 → z21 = z20 / 100 := fun h => by rw [ez21, tdiv_pos h (by omega)]
    have gz21 : z20 < 0 → z21 = -((-z20) / 100) := fun h => by rw [ez21, tdiv_neg' h]
    clear ez21
    refine c_Vr (C := "Calendaract") (As := [.int (iI z21)]) (rest := []) (r := none) (st1 := []) fx hl (jm_twoDigits θ l S0 _ hzH19 hjH19 z21 u bc rf kn (0 + 1) hoH19 hoH19_0 (by omega) (by omega) (by exact hu9.out) (by omega) (by omega)) (ob_recv hK hoH19 rfl) dX1_text_53 k622 k624 ks4 k1 k625 hd_X1_writeTwoDigits rfl rfl ⟨by decide, by decide⟩ (Nat.le_of_ble_eq_true rfl) ⟨by (try dsimp only); omega, by (try dsimp only); omega⟩ hS (fun x hx => by first | exact hx.elim | ((try dsimp only at hx ⊢); omega)) (fun H22 locs hpH22 hsz0H22 hk0H22 hS => ?_)
    obtain ⟨hszH22, hoH22_0⟩ := hpH22
    have hkH22 : ∀ q : Nat, q < (H19).size → ¬ (q = (u 5) ∨ q = (u 6)) → H22[q]? = (H19)[q]? := fun q hq hn => hk0H22 q hq (by (try dsimp only); omega)
    have lhoH22_0 := hoH22_0.lt
    have hzH22 := hz0.at hAB hS
    have hjH22 := hj0.at hAB hS
    have ha1H22 := ha1.kept (hS.2.1 _ ha1.lt hnA1)
    have ha2H22 := ha2.kept (hS.2.1 _ ha2.lt hnA2)
    have ha3H22 := ha3.kept (hS.2.1 _ ha3.lt hnA3)
    have ha4H22 := ha4.kept (hS.2.1 _ ha4.lt hnA4)
    have hoH22 := ho.kept (hS.2.1 _ ho.lt hnA0)
    refine lv_aload_n hx hb dX1_text_56 rfl (lv_at hl 3 rfl) ?_
    refine lv_iload hx hb dX1_text_57 (lv_at hl 0 rfl) ?_
    refine q_bip hx hb dX1_text_59 (by decide) ?_
    refine q_rem hx hb dX1_text_61 (by omega) (by omega) ?_
    refine q_nm (fun z23 ez23 => ?_)
    have fz23 : 0 ≤ z20 → z23 = z20 % 100 := fun h => by rw [ez23, tdiv_pos h (by omega)]; omega
    have gz23 : z20 < 0 → z23 = -((-z20) % 100) := fun h => by rw [ez23, tdiv_neg' h]; omega
    clear ez23
    refine c_Vr (C := "Calendaract") (As := [.int (iI z23)]) (rest := []) (r := none) (st1 := []) fx hl (jm_twoDigits θ l S0 _ hzH22 hjH22 z23 u bc rf kn ((0 + 1) + 2) hoH22 hoH22_0 (by omega) (by omega) (by exact hu9.out) (by omega) (by omega)) (ob_recv hK hoH22 rfl) dX1_text_62 k622 k624 ks4 k1 k625 hd_X1_writeTwoDigits rfl rfl ⟨by decide, by decide⟩ (Nat.le_of_ble_eq_true rfl) ⟨by (try dsimp only); omega, by (try dsimp only); omega⟩ hS (fun x hx => by first | exact hx.elim | ((try dsimp only at hx ⊢); omega)) (fun H24 locs hpH24 hsz0H24 hk0H24 hS => ?_)
    obtain ⟨hszH24, hoH24_0⟩ := hpH24
    have hkH24 : ∀ q : Nat, q < (H22).size → ¬ (q = (u 5) ∨ q = (u 6)) → H24[q]? = (H22)[q]? := fun q hq hn => hk0H24 q hq (by (try dsimp only); omega)
    have lhoH24_0 := hoH24_0.lt
    have hzH24 := hz0.at hAB hS
    have hjH24 := hj0.at hAB hS
    have ha1H24 := ha1.kept (hS.2.1 _ ha1.lt hnA1)
    have ha2H24 := ha2.kept (hS.2.1 _ ha2.lt hnA2)
    have ha3H24 := ha3.kept (hS.2.1 _ ha3.lt hnA3)
    have ha4H24 := ha4.kept (hS.2.1 _ ha4.lt hnA4)
    have hoH24 := ho.kept (hS.2.1 _ ho.lt hnA0)
    refine lv_aload_n hx hb dX1_text_65 rfl (lv_at hl 3 rfl) ?_
    refine r_get (θ := θ) (C := RX1) (T := TX1) (N := 8) (ci := 7) hx hb hts gwX1 hown hK hoH24 rfl 4 (by decide) k77 (fun _ h => h) (v := .ref (u 5)) rfl dX1_text_66 ?_
    refine q_bip hx hb dX1_text_69 (by decide) ?_
    refine c_Vr (C := "java/lang/StringBuilder") (As := [.int (iI 45)]) (rest := []) (r := some (.ref (u 5))) (st1 := [.ref (u 5)]) fx hl (jm_appendC θ l S0 _ hzH24 hjH24 (u 5) 45 (u 6) 16 (((0 + 1) + 2) + 2) hoH24_0 (by omega) (by omega) (by omega) (by omega) (by omega) (by omega)) (ob_recv hK hoH24_0.split.choose_spec.1 rfl) dX1_text_71 k597 k598 k599 k3 k600 hd_J4_append_cf468 rfl rfl ⟨by decide, by decide⟩ (Nat.le_of_ble_eq_true rfl) ⟨by (try dsimp only); omega, by (try dsimp only); omega⟩ hS (fun x hx => by first | exact hx.elim | ((try dsimp only at hx ⊢); omega)) (fun H25 locs hpH25 hsz0H25 hk0H25 hS => ?_)
    obtain ⟨hszH25, hoH25_0⟩ := hpH25
    have hkH25 : ∀ q : Nat, q < (H24).size → ¬ (q = (u 5) ∨ q = (u 6)) → H25[q]? = (H24)[q]? := fun q hq hn => hk0H25 q hq (by (try dsimp only); omega)
    have lhoH25_0 := hoH25_0.lt
    have hzH25 := hz0.at hAB hS
    have hjH25 := hj0.at hAB hS
    have ha1H25 := ha1.kept (hS.2.1 _ ha1.lt hnA1)
    have ha2H25 := ha2.kept (hS.2.1 _ ha2.lt hnA2)
    have ha3H25 := ha3.kept (hS.2.1 _ ha3.lt hnA3)
    have ha4H25 := ha4.kept (hS.2.1 _ ha4.lt hnA4)
    have hoH25 := ho.kept (hS.2.1 _ ho.lt hnA0)
    refine lv_pop hx hb dX1_text_74 rfl ?_
    refine lv_aload_n hx hb dX1_text_75 rfl (lv_at hl 3 rfl) ?_
    refine lv_iload_n hx hb dX1_text_76 rfl (lv_at hl 2 rfl) ?_
    refine c_P (As := [.int (iI (mI (dt a.toNat)))]) (rest := [.ref (u 0)]) fx hl (pm_X0_monthInYear l (mI (dt a.toNat)) (by omega)) dX1_text_77 k627 k628 k13 k629 hd_X0_monthInYear rfl ⟨by decide, by decide⟩ (Nat.le_of_ble_eq_true rfl) ⟨by omega, by omega⟩ ?_
    refine q_nm (fun z26 ez26 => ?_)
    refine c_Vr (C := "Calendaract") (As := [.int (iI z26)]) (rest := []) (r := none) (st1 := []) fx hl (jm_twoDigits θ l S0 _ hzH25 hjH25 z26 u bc rf kn ((((0 + 1) + 2) + 2) + 1) hoH25 hoH25_0 (by omega) (by omega) (by exact hu9.out) (by omega) (by omega)) (ob_recv hK hoH25 rfl) dX1_text_80 k622 k624 ks4 k1 k625 hd_X1_writeTwoDigits rfl rfl ⟨by decide, by decide⟩ (Nat.le_of_ble_eq_true rfl) ⟨by (try dsimp only); omega, by (try dsimp only); omega⟩ hS (fun x hx => by first | exact hx.elim | ((try dsimp only at hx ⊢); omega)) (fun H27 locs hpH27 hsz0H27 hk0H27 hS => ?_)
    obtain ⟨hszH27, hoH27_0⟩ := hpH27
    have hkH27 : ∀ q : Nat, q < (H25).size → ¬ (q = (u 5) ∨ q = (u 6)) → H27[q]? = (H25)[q]? := fun q hq hn => hk0H27 q hq (by (try dsimp only); omega)
    have lhoH27_0 := hoH27_0.lt
    have hzH27 := hz0.at hAB hS
    have hjH27 := hj0.at hAB hS
    have ha1H27 := ha1.kept (hS.2.1 _ ha1.lt hnA1)
    have ha2H27 := ha2.kept (hS.2.1 _ ha2.lt hnA2)
    have ha3H27 := ha3.kept (hS.2.1 _ ha3.lt hnA3)
    have ha4H27 := ha4.kept (hS.2.1 _ ha4.lt hnA4)
    have hoH27 := ho.kept (hS.2.1 _ ho.lt hnA0)
    refine lv_aload_n hx hb dX1_text_83 rfl (lv_at hl 3 rfl) ?_
    refine r_get (θ := θ) (C := RX1) (T := TX1) (N := 8) (ci := 7) hx hb hts gwX1 hown hK hoH27 rfl 4 (by decide) k77 (fun _ h => h) (v := .ref (u 5)) rfl dX1_text_84 ?_
    refine q_bip hx hb dX1_text_87 (by decide) ?_
    refine c_Vr (C := "java/lang/StringBuilder") (As := [.int (iI 45)]) (rest := []) (r := some (.ref (u 5))) (st1 := [.ref (u 5)]) fx hl (jm_appendC θ l S0 _ hzH27 hjH27 (u 5) 45 (u 6) 16 (((((0 + 1) + 2) + 2) + 1) + 2) hoH27_0 (by omega) (by omega) (by omega) (by omega) (by omega) (by omega)) (ob_recv hK hoH27_0.split.choose_spec.1 rfl) dX1_text_89 k597 k598 k599 k3 k600 hd_J4_append_cf468 rfl rfl ⟨by decide, by decide⟩ (Nat.le_of_ble_eq_true rfl) ⟨by (try dsimp only); omega, by (try dsimp only); omega⟩ hS (fun x hx => by first | exact hx.elim | ((try dsimp only at hx ⊢); omega)) (fun H28 locs hpH28 hsz0H28 hk0H28 hS => ?_)
    obtain ⟨hszH28, hoH28_0⟩ := hpH28
    have hkH28 : ∀ q : Nat, q < (H27).size → ¬ (q = (u 5) ∨ q = (u 6)) → H28[q]? = (H27)[q]? := fun q hq hn => hk0H28 q hq (by (try dsimp only); omega)
    have lhoH28_0 := hoH28_0.lt
    have hzH28 := hz0.at hAB hS
    have hjH28 := hj0.at hAB hS
    have ha1H28 := ha1.kept (hS.2.1 _ ha1.lt hnA1)
    have ha2H28 := ha2.kept (hS.2.1 _ ha2.lt hnA2)
    have ha3H28 := ha3.kept (hS.2.1 _ ha3.lt hnA3)
    have ha4H28 := ha4.kept (hS.2.1 _ ha4.lt hnA4)
    have hoH28 := ho.kept (hS.2.1 _ ho.lt hnA0)
    refine lv_pop hx hb dX1_text_92 rfl ?_
    refine lv_aload_n hx hb dX1_text_93 rfl (lv_at hl 3 rfl) ?_
    refine lv_aload_n hx hb dX1_text_94 rfl (lv_at hl 3 rfl) ?_
    refine r_get (θ := θ) (C := RX1) (T := TX1) (N := 8) (ci := 7) hx hb hts gwX1 hown hK hoH28 rfl 0 (by decide) k73 (fun _ h => h) (v := .ref (u 1)) rfl dX1_text_95 ?_
    refine lv_iload_n hx hb dX1_text_98 rfl (lv_at hl 4 rfl) ?_
    refine r_iald (θ := θ) hx hb hK ha1H28 (i := a) (by omega) (by decide) dX1_text_99 ?_
    have tr29 := hd (a.toNat) (by omega)
    refine c_P (As := [.int (iI (dt a.toNat))]) (rest := [.ref (u 0)]) fx hl (pm_X0_dayOf l (dt a.toNat) (by omega)) dX1_text_100 k288 k129 k13 k130 hd_X0_dayOf rfl ⟨by decide, by decide⟩ (Nat.le_of_ble_eq_true rfl) ⟨by omega, by omega⟩ ?_
    have t0z30 := dI_b (dt a.toNat)
    refine c_Vr (C := "Calendaract") (As := [.int (iI (dI (dt a.toNat)))]) (rest := []) (r := none) (st1 := []) fx hl (jm_twoDigits θ l S0 _ hzH28 hjH28 (dI (dt a.toNat)) u bc rf kn ((((((0 + 1) + 2) + 2) + 1) + 2) + 1) hoH28 hoH28_0 (by omega) (by omega) (by exact hu9.out) (by omega) (by omega)) (ob_recv hK hoH28 rfl) dX1_text_103 k622 k624 ks4 k1 k625 hd_X1_writeTwoDigits rfl rfl ⟨by decide, by decide⟩ (Nat.le_of_ble_eq_true rfl) ⟨by (try dsimp only); omega, by (try dsimp only); omega⟩ hS (fun x hx => by first | exact hx.elim | ((try dsimp only at hx ⊢); omega)) (fun H31 locs hpH31 hsz0H31 hk0H31 hS => ?_)
    obtain ⟨hszH31, hoH31_0⟩ := hpH31
    have hkH31 : ∀ q : Nat, q < (H28).size → ¬ (q = (u 5) ∨ q = (u 6)) → H31[q]? = (H28)[q]? := fun q hq hn => hk0H31 q hq (by (try dsimp only); omega)
    have lhoH31_0 := hoH31_0.lt
    have hzH31 := hz0.at hAB hS
    have hjH31 := hj0.at hAB hS
    have ha1H31 := ha1.kept (hS.2.1 _ ha1.lt hnA1)
    have ha2H31 := ha2.kept (hS.2.1 _ ha2.lt hnA2)
    have ha3H31 := ha3.kept (hS.2.1 _ ha3.lt hnA3)
    have ha4H31 := ha4.kept (hS.2.1 _ ha4.lt hnA4)
    have hoH31 := ho.kept (hS.2.1 _ ho.lt hnA0)
    refine lv_aload_n hx hb dX1_text_106 rfl (lv_at hl 3 rfl) ?_
    refine r_get (θ := θ) (C := RX1) (T := TX1) (N := 8) (ci := 7) hx hb hts gwX1 hown hK hoH31 rfl 4 (by decide) k77 (fun _ h => h) (v := .ref (u 5)) rfl dX1_text_107 ?_
    refine c_Vr (C := "java/lang/StringBuilder") (As := []) (rest := []) (r := some (.ref H31.size)) (st1 := [.ref H31.size]) fx hl (jm_toString θ l S0 _ hzH31 hjH31 (u 5) (u 6) 16 (((((((0 + 1) + 2) + 2) + 1) + 2) + 1) + 2) hoH31_0 (by omega) (by omega) (by omega)) (ob_recv hK hoH31_0.split.choose_spec.1 rfl) dX1_text_110 k630 k483 k484 k3 k485 hd_J4_toString_0e30d rfl rfl ⟨by decide, by decide⟩ (Nat.le_of_ble_eq_true rfl) ⟨by (try dsimp only); omega, by (try dsimp only); omega⟩ hS (fun x hx => by first | exact hx.elim | ((try dsimp only at hx ⊢); omega)) (fun H32 locs hpH32 hsz0H32 hk0H32 hS => ?_)
    obtain ⟨hszH32, hoH32_0, hoH32_1⟩ := hpH32
    have hkH32 : ∀ q : Nat, q < (H31).size → H32[q]? = (H31)[q]? := fun q hq => hk0H32 q hq (Nat.not_le.mpr hq)
    have hoH31_0_H32 := hoH31_0.kept (hkH32 _ hoH31_0.lt.1) (hkH32 _ hoH31_0.lt.2)
    have lhoH32_0 := hoH32_0.lt
    have lhoH32_1 := hoH32_1.lt
    have hzH32 := hz0.at hAB hS
    have hjH32 := hj0.at hAB hS
    have ha1H32 := ha1.kept (hS.2.1 _ ha1.lt hnA1)
    have ha2H32 := ha2.kept (hS.2.1 _ ha2.lt hnA2)
    have ha3H32 := ha3.kept (hS.2.1 _ ha3.lt hnA3)
    have ha4H32 := ha4.kept (hS.2.1 _ ha4.lt hnA4)
    have hoH32 := ho.kept (hS.2.1 _ ho.lt hnA0)
    have eh1 : H31.size = s.heap.size := by omega
    have eh2 : H31.size + 1 = s.heap.size + 1 := by omega
    have hst9 := hoH32_0
    rw [eh2, eh1] at hst9
    rw [eh1]
    exact e_a hx hb hr (by first | exact Or.inl ⟨_, rfl⟩ | exact Or.inr ⟨_, rfl⟩) hlk hS dX1_text_113 (by first | exact Nat.le_of_ble_eq_true rfl | ((try dsimp only); omega)) (by first | exact Nat.le_of_ble_eq_true rfl | ((try dsimp only); omega)) ⟨rfl, ⟨hoH32, ha1H32, ha2H32, ha3H32, ha4H32, ⟨_, hoH32_1⟩⟩, by first | (rw [if_pos (by omega)]; exact hst9) | (rw [if_neg (by omega)]; exact hst9), by omega⟩

set_option maxHeartbeats 4000000 in
set_option maxRecDepth 100000 in
theorem no1_text (θ : TH) (l : Launch) (hl0 : l.stackTraces = false) (S0 : State) (H : Heap) (u : Nat → Nat) (dt sy sm sd : Nat → Int) (bc rf kn : Int) (hw : CWR θ S0 u H dt sy sm sd bc rf kn) (a : Int) (h_0 : -2147483648 ≤ a ∧ a < 2147483648) (h_1 : ¬ (0 ≤ a ∧ a < 6)) : TX l yX1_text cX1_text 5 (some (.object "java/lang/String")) 7 110 [.ref (u 0), .int (iI a)] S0 H "java/lang/IndexOutOfBoundsException" := by
  refine ct_of (by decide +kernel) (Nat.le_of_ble_eq_true rfl) ?_
  intro pg en s mi args below meth co ls fx hs hr hlk hxt hin hl
  subst hs
  obtain ⟨hx, hb, hml, hown, hts⟩ := id fx.1
  have hS : va_S (fun q : Nat => s.heap.size ≤ q) s.heap s.heap [] := va_S.rf
  obtain ⟨hz, hu, ⟨ho, ha1, ha2, ha3, ha4, hsb⟩, hd, hsp⟩ := id hw
  have hAB : ∀ q : Nat, (fun q : Nat => s.heap.size ≤ q) q → θ.2.2.2 ≤ q := fun q h => Nat.le_trans hz.2.1 h
  have hz0 := hz
  have hK := sz_K fx.2 hz
  refine lv_iload_n hx hb dX1_text_0 rfl (lv_at hl 1 rfl) ?_
  exact e_cT (As := [.int (iI a)]) (rest := []) fx hl (nno_needPlace θ l hl0 S0 _ hz a (by omega) (by omega)) dX1_text_1 k260 k261 k1 k262 hd_X1_needPlace rfl ⟨by decide, by decide⟩ (Nat.le_of_ble_eq_true rfl) ⟨by decide, by decide⟩ ⟨by decide, by decide⟩ hS (fun _ h => h) hxt hlk (fun H1 h1 h2 => ⟨rfl, h1, h2⟩)

set_option maxHeartbeats 4000000 in
set_option maxRecDepth 100000 in
theorem ok_met (θ : TH) (l : Launch) (hl0 : l.stackTraces = false) (S0 : State) (H : Heap) (u : Nat → Nat) (dt sy sm sd : Nat → Int) (bc rf kn : Int) (hw : CWR θ S0 u H dt sy sm sd bc rf kn) (hj : SJ θ S0 H) (a n k : Int) (h_0 : 0 ≤ a ∧ a < 6) (h_1 : -1200 ≤ n ∧ n ≤ 1200) (h_2 : 0 ≤ k ∧ k ≤ 48) : CT l yX1_met cX1_met 8 (some (.object "java/lang/String")) 6 171 2 20 [.ref (u 0), .int (iI a), .int (iI n), .int (iI k)] S0 H (fun v9 H1 => v9 = some (.ref H.size) ∧ CW θ u H1 dt sy sm sd bc rf kn ∧ (∃ ln : Nat, STg S0 H1 H.size (H.size + 1) ln) ∧ H1.size = H.size + 2) (fun _ _ => False) (fun x : Nat => x = u 5 ∨ x = u 6 ∨ H.size ≤ x) := by
  refine ct_of (by decide +kernel) (Nat.le_of_ble_eq_true rfl) ?_
  intro pg en s mi args below meth co ls fx hs hr hlk hxt hin hl
  subst hs
  obtain ⟨hx, hb, hml, hown, hts⟩ := id fx.1
  have hS : va_S (fun x : Nat => x = u 5 ∨ x = u 6 ∨ s.heap.size ≤ x) s.heap s.heap [] := va_S.rf
  obtain ⟨hz, hu, ⟨ho, ha1, ha2, ha3, ha4, hsb9⟩, hd, hsp⟩ := id hw
  obtain ⟨cnt0, hsb⟩ := hsb9
  have hnA0 : ¬ (fun x : Nat => x = u 5 ∨ x = u 6 ∨ s.heap.size ≤ x) (u 0) := fun hx => hx.elim (fun z => absurd (hu.1 0 5 (by decide) (by decide) z) (by decide)) (fun hx => hx.elim (fun z => absurd (hu.1 0 6 (by decide) (by decide) z) (by decide)) (fun z => Nat.not_le.mpr ho.lt z))
  have hnA1 : ¬ (fun x : Nat => x = u 5 ∨ x = u 6 ∨ s.heap.size ≤ x) (u 1) := fun hx => hx.elim (fun z => absurd (hu.1 1 5 (by decide) (by decide) z) (by decide)) (fun hx => hx.elim (fun z => absurd (hu.1 1 6 (by decide) (by decide) z) (by decide)) (fun z => Nat.not_le.mpr ha1.lt z))
  have hnA2 : ¬ (fun x : Nat => x = u 5 ∨ x = u 6 ∨ s.heap.size ≤ x) (u 2) := fun hx => hx.elim (fun z => absurd (hu.1 2 5 (by decide) (by decide) z) (by decide)) (fun hx => hx.elim (fun z => absurd (hu.1 2 6 (by decide) (by decide) z) (by decide)) (fun z => Nat.not_le.mpr ha2.lt z))
  have hnA3 : ¬ (fun x : Nat => x = u 5 ∨ x = u 6 ∨ s.heap.size ≤ x) (u 3) := fun hx => hx.elim (fun z => absurd (hu.1 3 5 (by decide) (by decide) z) (by decide)) (fun hx => hx.elim (fun z => absurd (hu.1 3 6 (by decide) (by decide) z) (by decide)) (fun z => Nat.not_le.mpr ha3.lt z))
  have hnA4 : ¬ (fun x : Nat => x = u 5 ∨ x = u 6 ∨ s.heap.size ≤ x) (u 4) := fun hx => hx.elim (fun z => absurd (hu.1 4 5 (by decide) (by decide) z) (by decide)) (fun hx => hx.elim (fun z => absurd (hu.1 4 6 (by decide) (by decide) z) (by decide)) (fun z => Nat.not_le.mpr ha4.lt z))
  have hu9 : Hid (u 0 ≠ u 5 ∧ u 0 ≠ u 6 ∧ u 5 ≠ u 6) := Hid.mk ⟨fun z => absurd (hu.1 0 5 (by decide) (by decide) z) (by decide), fun z => absurd (hu.1 0 6 (by decide) (by decide) z) (by decide), fun z => absurd (hu.1 5 6 (by decide) (by decide) z) (by decide)⟩
  have hu56 := hu9.out.2.2
  have hu5 := hu.2 5 (by decide)
  have hu6 := hu.2 6 (by decide)
  have hz2 := hz.2.1
  have hAB : ∀ x : Nat, (fun x : Nat => x = u 5 ∨ x = u 6 ∨ s.heap.size ≤ x) x → θ.2.2.2 ≤ x := fun x hx => by (try dsimp only at hx); omega
  have hz0 := hz
  have hj0 := hj
  have hK := sz_K fx.2 hz
  have lsb := hsb.lt
  have tt0 := hd a.toNat (by omega)
  have tt1 := inR tt0
  have tt2 := dI_b (dt a.toNat)
  have tsd := sgI_b (dI (dt a.toNat))
  refine lv_iload_n hx hb dX1_met_0 rfl (lv_at hl 1 rfl) ?_
  refine c_N (As := [.int (iI a)]) (rest := []) fx hl (nok_needPlace l S0 _ a (by omega) (by omega)) dX1_met_1 k260 k261 k1 k262 hd_X1_needPlace rfl ⟨by decide, by decide⟩ (Nat.le_of_ble_eq_true rfl) ⟨by dsimp only; omega, by dsimp only; omega⟩ ?_
  refine lv_iload_n hx hb dX1_met_4 rfl (lv_at hl 2 rfl) ?_
  refine q_sip hx hb dX1_met_5 (by decide) ?_
  refine q_sip hx hb dX1_met_8 (by decide) ?_
  refine c_N (As := [.int (iI n), .int (iI (-1200)), .int (iI 1200)]) (rest := []) fx hl (nok_needWithin l S0 _ n (-1200) 1200 (by omega) (by omega) (by omega) (by omega)) dX1_met_11 k172 k173 k1 k174 hd_X1_needWithin rfl ⟨by decide, by decide⟩ (Nat.le_of_ble_eq_true rfl) ⟨by dsimp only; omega, by dsimp only; omega⟩ ?_
  refine lv_iload_n hx hb dX1_met_14 rfl (lv_at hl 3 rfl) ?_
  refine q_con hx hb dX1_met_15 ?_
  refine q_bip hx hb dX1_met_16 (by decide) ?_
  refine c_N (As := [.int (iI k), .int (iI 0), .int (iI 48)]) (rest := []) fx hl (nok_needWithin l S0 _ k 0 48 (by omega) (by omega) (by omega) (by omega)) dX1_met_18 k172 k173 k1 k174 hd_X1_needWithin rfl ⟨by decide, by decide⟩ (Nat.le_of_ble_eq_true rfl) ⟨by dsimp only; omega, by dsimp only; omega⟩ ?_
  refine lv_aload_n hx hb dX1_met_21 rfl (lv_at hl 0 rfl) ?_
  refine r_get (θ := θ) (C := RX1) (T := TX1) (N := 8) (ci := 7) hx hb hts gwX1 hown hK ho rfl 0 (by decide) k73 (fun _ h => h) (v := .ref (u 1)) rfl dX1_met_22 ?_
  refine lv_iload_n hx hb dX1_met_25 rfl (lv_at hl 1 rfl) ?_
  refine r_iald (θ := θ) hx hb hK ha1 (i := a) (by omega) (by decide) dX1_met_26 ?_
  have tr1 := hd (a.toNat) (by omega)
  refine lv_istore (lv' := [(4, .int (iI (dt a.toNat))), (0, .ref (u 0)), (1, .int (iI a)), (2, .int (iI n)), (3, .int (iI k))]) hx hb dX1_met_27 hl (by decide) rfl (fun ls hl => ?_)
  refine lv_iload hx hb dX1_met_29 (lv_at hl 0 rfl) ?_
  refine c_P (As := [.int (iI (dt a.toNat))]) (rest := []) fx hl (pm_X0_dayOf l (dt a.toNat) (by omega)) dX1_met_31 k288 k129 k13 k130 hd_X0_dayOf rfl ⟨by decide, by decide⟩ (Nat.le_of_ble_eq_true rfl) ⟨by omega, by omega⟩ ?_
  have t0z2 := dI_b (dt a.toNat)
  refine lv_istore (lv' := [(5, .int (iI (dI (dt a.toNat)))), (4, .int (iI (dt a.toNat))), (0, .ref (u 0)), (1, .int (iI a)), (2, .int (iI n)), (3, .int (iI k))]) hx hb dX1_met_34 hl (by decide) rfl (fun ls hl => ?_)
  refine lv_aload_n hx hb dX1_met_36 rfl (lv_at hl 2 rfl) ?_
  refine r_get (θ := θ) (C := RX1) (T := TX1) (N := 8) (ci := 7) hx hb hts gwX1 hown hK ho rfl 4 (by decide) k77 (fun _ h => h) (v := .ref (u 5)) rfl dX1_met_37 ?_
  refine q_con hx hb dX1_met_40 ?_
  refine c_Vr (C := "java/lang/StringBuilder") (As := [.int (iI 0)]) (rest := []) (r := none) (st1 := []) fx hl (jm_setLength θ l S0 _ hz hj (u 5) 0 (u 6) 16 cnt0 hsb (by omega) (by omega) (by omega) (by omega)) (ob_recv hK hsb.split.choose_spec.1 rfl) dX1_met_41 k324 k325 k326 k3 k327 hd_J4_setLength_d00df rfl rfl ⟨by decide, by decide⟩ (Nat.le_of_ble_eq_true rfl) ⟨by (try dsimp only); omega, by (try dsimp only); omega⟩ hS (fun x hx => by first | exact hx.elim | ((try dsimp only at hx ⊢); omega)) (fun H3 locs hpH3 hsz0H3 hk0H3 hS => ?_)
  obtain ⟨hszH3, hoH3_0⟩ := hpH3
  have hkH3 : ∀ q : Nat, q < (s.heap).size → ¬ (q = (u 5)) → H3[q]? = (s.heap)[q]? := fun q hq hn => hk0H3 q hq (by (try dsimp only); omega)
  have lhoH3_0 := hoH3_0.lt
  have hzH3 := hz0.at hAB hS
  have hjH3 := hj0.at hAB hS
  have ha1H3 := ha1.kept (hS.2.1 _ ha1.lt hnA1)
  have ha2H3 := ha2.kept (hS.2.1 _ ha2.lt hnA2)
  have ha3H3 := ha3.kept (hS.2.1 _ ha3.lt hnA3)
  have ha4H3 := ha4.kept (hS.2.1 _ ha4.lt hnA4)
  have hoH3 := ho.kept (hS.2.1 _ ho.lt hnA0)
  refine lv_aload_n hx hb dX1_met_44 rfl (lv_at hl 2 rfl) ?_
  refine r_get (θ := θ) (C := RX1) (T := TX1) (N := 8) (ci := 7) hx hb hts gwX1 hown hK hoH3 rfl 4 (by decide) k77 (fun _ h => h) (v := .ref (u 5)) rfl dX1_met_45 ?_
  refine lv_iload hx hb dX1_met_48 (lv_at hl 0 rfl) ?_
  refine c_Vr (C := "java/lang/StringBuilder") (As := [.int (iI (dI (dt a.toNat)))]) (rest := []) (r := some (.ref (u 5))) (st1 := [.ref (u 5)]) fx hl (jm_appendI θ l S0 _ hzH3 hjH3 (u 5) (dI (dt a.toNat)) (u 6) 16 0 hoH3_0 (by omega) (by omega) (by omega) (by omega) (by omega) (by omega)) (ob_recv hK hoH3_0.split.choose_spec.1 rfl) dX1_met_50 k626 k458 k459 k3 k460 hd_J4_append_bf812 rfl rfl ⟨by decide, by decide⟩ (Nat.le_of_ble_eq_true rfl) ⟨by (try dsimp only); omega, by (try dsimp only); omega⟩ hS (fun x hx => by first | exact hx.elim | ((try dsimp only at hx ⊢); omega)) (fun H4 locs hpH4 hsz0H4 hk0H4 hS => ?_)
  obtain ⟨hszH4, hoH4_0⟩ := hpH4
  have hkH4 : ∀ q : Nat, q < (H3).size → ¬ (q = (u 5) ∨ q = (u 6)) → H4[q]? = (H3)[q]? := fun q hq hn => hk0H4 q hq (by (try dsimp only); omega)
  have lhoH4_0 := hoH4_0.lt
  have hzH4 := hz0.at hAB hS
  have hjH4 := hj0.at hAB hS
  have ha1H4 := ha1.kept (hS.2.1 _ ha1.lt hnA1)
  have ha2H4 := ha2.kept (hS.2.1 _ ha2.lt hnA2)
  have ha3H4 := ha3.kept (hS.2.1 _ ha3.lt hnA3)
  have ha4H4 := ha4.kept (hS.2.1 _ ha4.lt hnA4)
  have hoH4 := ho.kept (hS.2.1 _ ho.lt hnA0)
  refine lv_pop hx hb dX1_met_53 rfl ?_
  refine q_con hx hb dX1_met_54 ?_
  refine lv_istore (lv' := [(6, .int (iI 0)), (5, .int (iI (dI (dt a.toNat)))), (4, .int (iI (dt a.toNat))), (0, .ref (u 0)), (1, .int (iI a)), (2, .int (iI n)), (3, .int (iI k))]) hx hb dX1_met_55 hl (by decide) rfl (fun ls hl => ?_)
  refine w_loopH (nL := 8) (σ := Int × Int × Int × Int) (fun x => (k - x.2.2.1).toNat) (fun x H1 locs1 c9 s9 => ((x.1 = wyI (dt a.toNat) n x.2.2.1.toNat) ∧ (x.2.1 = dI x.1) ∧ (0 ≤ x.2.2.1 ∧ x.2.2.1 ≤ k) ∧ (1 ≤ x.2.2.2) ∧ (x.2.2.2 ≤ 2 ∨ (28 ≤ x.2.1 ∧ x.2.2.2 ≤ 2 + 3 * (31 - x.2.1)))) ∧ SB θ H1 (u 5) (u 6) 16 x.2.2.2 ∧ H1.size = s.heap.size ∧ va_S (fun x : Nat => x = u 5 ∨ x = u 6 ∨ s.heap.size ≤ x) s.heap H1 locs1 ∧ c9 ≤ 0 ∧ s9 ≤ 0) (fun x => [(4, .int (iI x.1)), (5, .int (iI x.2.1)), (6, .int (iI x.2.2.1)), (0, .ref (u 0)), (1, .int (iI a)), (2, .int (iI n)), (3, .int (iI k))]) ?_ ((dt a.toNat : Int), (dI (dt a.toNat) : Int), (0 : Int), (0 + sgI (dI (dt a.toNat)) : Int)) ⟨⟨by first | ((try dsimp only); (first | omega | rfl)) | (dsimp only; done), by first | ((try dsimp only); (first | omega | rfl)) | (dsimp only; done), by first | ((try dsimp only); (first | omega | rfl)) | (dsimp only; done), by first | ((try dsimp only); (first | omega | rfl)) | (dsimp only; done), by first | ((try dsimp only); (first | omega | rfl)) | (dsimp only; done)⟩, hoH4_0, by omega, hS, by (try dsimp only); omega, by (try dsimp only); omega⟩ (lv_sub hl [2, 1, 0, 3, 4, 5, 6] rfl)
  intro x H5 locs cells slots hJ57 ih57 ls hl
  obtain ⟨dd, lo, j, cc⟩ := x
  obtain ⟨hI57, hf0H5, hkzH5, hS, hcH5, hsH5⟩ := hJ57
  (try dsimp only at hI57 hcH5 hsH5 ih57 hl ⊢)
  (try dsimp only at hf0H5)
  (try dsimp only at hkzH5)
  have hsgeH5 := hS.1
  have twb := wy_bd (dt a.toNat) n (hd a.toNat (by omega)) (by omega) j.toNat
  rw [← hI57.1] at twb
  have tws := wy_step dd n
  have twl := dI_b dd
  have twm := dI_b (shI dd n)
  have twn := shI_bd dd n
  have twq := sgI_b (dI (shI dd n))
  have hzH5 := hz0.at hAB hS
  have hjH5 := hj0.at hAB hS
  have ha1H5 := ha1.kept (hS.2.1 _ ha1.lt hnA1)
  have ha2H5 := ha2.kept (hS.2.1 _ ha2.lt hnA2)
  have ha3H5 := ha3.kept (hS.2.1 _ ha3.lt hnA3)
  have ha4H5 := ha4.kept (hS.2.1 _ ha4.lt hnA4)
  have hoH5 := ho.kept (hS.2.1 _ ho.lt hnA0)
  have lhf0H5 := hf0H5.lt
  refine lv_iload hx hb dX1_met_57 (lv_at hl 2 rfl) ?_
  refine lv_iload_n hx hb dX1_met_59 rfl (lv_at hl 6 rfl) ?_
  refine q_cge (tgt := 110) hx hb dX1_met_60 (by decide) (by omega) (by omega) (fun c6 => ?_) (fun c6 => ?_)
  · refine lv_aload_n hx hb dX1_met_110 rfl (lv_at hl 3 rfl) ?_
    refine r_get (θ := θ) (C := RX1) (T := TX1) (N := 8) (ci := 7) hx hb hts gwX1 hown hK hoH5 rfl 4 (by decide) k77 (fun _ h => h) (v := .ref (u 5)) rfl dX1_met_111 ?_
    refine c_Vr (C := "java/lang/StringBuilder") (As := []) (rest := []) (r := some (.ref H5.size)) (st1 := [.ref H5.size]) fx hl (jm_toString θ l S0 _ hzH5 hjH5 (u 5) (u 6) 16 cc hf0H5 (by omega) (by omega) (by omega)) (ob_recv hK hf0H5.split.choose_spec.1 rfl) dX1_met_114 k630 k483 k484 k3 k485 hd_J4_toString_0e30d rfl rfl ⟨by decide, by decide⟩ (Nat.le_of_ble_eq_true rfl) ⟨by (try dsimp only); omega, by (try dsimp only); omega⟩ hS (fun x hx => by first | exact hx.elim | ((try dsimp only at hx ⊢); omega)) (fun H7 locs hpH7 hsz0H7 hk0H7 hS => ?_)
    obtain ⟨hszH7, hoH7_0, hoH7_1⟩ := hpH7
    have hkH7 : ∀ q : Nat, q < (H5).size → H7[q]? = (H5)[q]? := fun q hq => hk0H7 q hq (Nat.not_le.mpr hq)
    have hf0H5_H7 := hf0H5.kept (hkH7 _ hf0H5.lt.1) (hkH7 _ hf0H5.lt.2)
    have lhoH7_0 := hoH7_0.lt
    have lhoH7_1 := hoH7_1.lt
    have hzH7 := hz0.at hAB hS
    have hjH7 := hj0.at hAB hS
    have ha1H7 := ha1.kept (hS.2.1 _ ha1.lt hnA1)
    have ha2H7 := ha2.kept (hS.2.1 _ ha2.lt hnA2)
    have ha3H7 := ha3.kept (hS.2.1 _ ha3.lt hnA3)
    have ha4H7 := ha4.kept (hS.2.1 _ ha4.lt hnA4)
    have hoH7 := ho.kept (hS.2.1 _ ho.lt hnA0)
    have eh1 : H5.size = s.heap.size := by omega
    have eh2 : H5.size + 1 = s.heap.size + 1 := by omega
    have hst9 := hoH7_0
    rw [eh2, eh1] at hst9
    rw [eh1]
    exact e_a hx hb hr (by first | exact Or.inl ⟨_, rfl⟩ | exact Or.inr ⟨_, rfl⟩) hlk hS dX1_met_117 (by first | exact Nat.le_of_ble_eq_true rfl | ((try dsimp only); omega)) (by first | exact Nat.le_of_ble_eq_true rfl | ((try dsimp only); omega)) ⟨rfl, ⟨hoH7, ha1H7, ha2H7, ha3H7, ha4H7, ⟨_, hoH7_1⟩⟩, ⟨_, hst9⟩, by omega⟩
  · refine lv_iload hx hb dX1_met_63 (lv_at hl 0 rfl) ?_
    refine lv_iload_n hx hb dX1_met_65 rfl (lv_at hl 5 rfl) ?_
    refine c_P (As := [.int (iI dd), .int (iI n)]) (rest := []) fx hl (pm_X0_shifted l dd n (by omega) (by omega)) dX1_met_66 k783 k141 k13 k142 hd_X0_shifted rfl ⟨by decide, by decide⟩ (Nat.le_of_ble_eq_true rfl) ⟨by omega, by omega⟩ ?_
    have t0z8 := shI_s dd n
    have t1z8 := shI_bd dd n
    refine lv_istore (lv' := [(4, .int (iI (shI dd n))), (5, .int (iI lo)), (6, .int (iI j)), (0, .ref (u 0)), (1, .int (iI a)), (2, .int (iI n)), (3, .int (iI k))]) hx hb dX1_met_69 hl (by decide) rfl (fun ls hl => ?_)
    refine lv_iload hx hb dX1_met_71 (lv_at hl 0 rfl) ?_
    refine c_P (As := [.int (iI (shI dd n))]) (rest := []) fx hl (pm_X0_dayOf l (shI dd n) (by omega)) dX1_met_73 k288 k129 k13 k130 hd_X0_dayOf rfl ⟨by decide, by decide⟩ (Nat.le_of_ble_eq_true rfl) ⟨by omega, by omega⟩ ?_
    have t0z9 := dI_b (shI dd n)
    refine lv_istore (lv' := [(7, .int (iI (dI (shI dd n)))), (4, .int (iI (shI dd n))), (5, .int (iI lo)), (6, .int (iI j)), (0, .ref (u 0)), (1, .int (iI a)), (2, .int (iI n)), (3, .int (iI k))]) hx hb dX1_met_76 hl (by decide) rfl (fun ls hl => ?_)
    refine lv_iload hx hb dX1_met_78 (lv_at hl 0 rfl) ?_
    refine lv_iload hx hb dX1_met_80 (lv_at hl 2 rfl) ?_
    refine q_ceq (tgt := 104) hx hb dX1_met_82 (by decide) (by omega) (by omega) (fun c10 => ?_) (fun c10 => ?_)
    · refine lv_iinc (v := iI (j + 1)) (lv' := [(6, .int (iI (j + 1))), (7, .int (iI (dI (shI dd n)))), (4, .int (iI (shI dd n))), (5, .int (iI lo)), (0, .ref (u 0)), (1, .int (iI a)), (2, .int (iI n)), (3, .int (iI k))]) hx hb dX1_met_104 hl (k := 3) rfl (iI_add _ _) (by decide) rfl (fun ls hl => ?_)
      refine lv_goto (tgt := 57) hx hb dX1_met_107 (by decide) ?_
      exact ih57 ((shI dd n : Int), (lo : Int), (j + 1 : Int), (cc : Int)) _ _ _ _ _ ⟨⟨by first | ((try dsimp only); (first | omega | (rw [show (j + 1).toNat = j.toNat + 1 by omega]; show _ = shI (wyI (dt a.toNat) n j.toNat) n; rw [← hI57.1]))) | (dsimp only; done), by first | ((try dsimp only); (first | omega | (rw [show (j + 1).toNat = j.toNat + 1 by omega]; show _ = shI (wyI (dt a.toNat) n j.toNat) n; rw [← hI57.1]))) | (dsimp only; done), by first | ((try dsimp only); (first | omega | (rw [show (j + 1).toNat = j.toNat + 1 by omega]; show _ = shI (wyI (dt a.toNat) n j.toNat) n; rw [← hI57.1]))) | (dsimp only; done), by first | ((try dsimp only); (first | omega | (rw [show (j + 1).toNat = j.toNat + 1 by omega]; show _ = shI (wyI (dt a.toNat) n j.toNat) n; rw [← hI57.1]))) | (dsimp only; done), by first | ((try dsimp only); (first | omega | (rw [show (j + 1).toNat = j.toNat + 1 by omega]; show _ = shI (wyI (dt a.toNat) n j.toNat) n; rw [← hI57.1]))) | (dsimp only; done)⟩, hf0H5, by omega, hS, by (try dsimp only); omega, by (try dsimp only); omega⟩ (by (try dsimp only); omega) (lv_sub hl [2, 3, 0, 4, 5, 6, 7] rfl)
    · refine lv_aload_n hx hb dX1_met_85 rfl (lv_at hl 4 rfl) ?_
      refine r_get (θ := θ) (C := RX1) (T := TX1) (N := 8) (ci := 7) hx hb hts gwX1 hown hK hoH5 rfl 4 (by decide) k77 (fun _ h => h) (v := .ref (u 5)) rfl dX1_met_86 ?_
      refine q_bip hx hb dX1_met_89 (by decide) ?_
      refine c_Vr (C := "java/lang/StringBuilder") (As := [.int (iI 32)]) (rest := []) (r := some (.ref (u 5))) (st1 := [.ref (u 5)]) fx hl (jm_appendC θ l S0 _ hzH5 hjH5 (u 5) 32 (u 6) 16 cc hf0H5 (by omega) (by omega) (by omega) (by omega) (by omega) (by omega)) (ob_recv hK hf0H5.split.choose_spec.1 rfl) dX1_met_91 k597 k598 k599 k3 k600 hd_J4_append_cf468 rfl rfl ⟨by decide, by decide⟩ (Nat.le_of_ble_eq_true rfl) ⟨by (try dsimp only); omega, by (try dsimp only); omega⟩ hS (fun x hx => by first | exact hx.elim | ((try dsimp only at hx ⊢); omega)) (fun H11 locs hpH11 hsz0H11 hk0H11 hS => ?_)
      obtain ⟨hszH11, hoH11_0⟩ := hpH11
      have hkH11 : ∀ q : Nat, q < (H5).size → ¬ (q = (u 5) ∨ q = (u 6)) → H11[q]? = (H5)[q]? := fun q hq hn => hk0H11 q hq (by (try dsimp only); omega)
      have lhoH11_0 := hoH11_0.lt
      have hzH11 := hz0.at hAB hS
      have hjH11 := hj0.at hAB hS
      have ha1H11 := ha1.kept (hS.2.1 _ ha1.lt hnA1)
      have ha2H11 := ha2.kept (hS.2.1 _ ha2.lt hnA2)
      have ha3H11 := ha3.kept (hS.2.1 _ ha3.lt hnA3)
      have ha4H11 := ha4.kept (hS.2.1 _ ha4.lt hnA4)
      have hoH11 := ho.kept (hS.2.1 _ ho.lt hnA0)
      refine lv_iload hx hb dX1_met_94 (lv_at hl 0 rfl) ?_
      refine c_Vr (C := "java/lang/StringBuilder") (As := [.int (iI (dI (shI dd n)))]) (rest := []) (r := some (.ref (u 5))) (st1 := [.ref (u 5)]) fx hl (jm_appendI θ l S0 _ hzH11 hjH11 (u 5) (dI (shI dd n)) (u 6) 16 (cc + 1) hoH11_0 (by omega) (by omega) (by omega) (by omega) (by omega) (by omega)) (ob_recv hK hoH11_0.split.choose_spec.1 rfl) dX1_met_96 k626 k458 k459 k3 k460 hd_J4_append_bf812 rfl rfl ⟨by decide, by decide⟩ (Nat.le_of_ble_eq_true rfl) ⟨by (try dsimp only); omega, by (try dsimp only); omega⟩ hS (fun x hx => by first | exact hx.elim | ((try dsimp only at hx ⊢); omega)) (fun H12 locs hpH12 hsz0H12 hk0H12 hS => ?_)
      obtain ⟨hszH12, hoH12_0⟩ := hpH12
      have hkH12 : ∀ q : Nat, q < (H11).size → ¬ (q = (u 5) ∨ q = (u 6)) → H12[q]? = (H11)[q]? := fun q hq hn => hk0H12 q hq (by (try dsimp only); omega)
      have lhoH12_0 := hoH12_0.lt
      have hzH12 := hz0.at hAB hS
      have hjH12 := hj0.at hAB hS
      have ha1H12 := ha1.kept (hS.2.1 _ ha1.lt hnA1)
      have ha2H12 := ha2.kept (hS.2.1 _ ha2.lt hnA2)
      have ha3H12 := ha3.kept (hS.2.1 _ ha3.lt hnA3)
      have ha4H12 := ha4.kept (hS.2.1 _ ha4.lt hnA4)
      have hoH12 := ho.kept (hS.2.1 _ ho.lt hnA0)
      refine lv_pop hx hb dX1_met_99 rfl ?_
      refine lv_iload hx hb dX1_met_100 (lv_at hl 0 rfl) ?_
      refine lv_istore (lv' := [(5, .int (iI (dI (shI dd n)))), (7, .int (iI (dI (shI dd n)))), (4, .int (iI (shI dd n))), (6, .int (iI j)), (0, .ref (u 0)), (1, .int (iI a)), (2, .int (iI n)), (3, .int (iI k))]) hx hb dX1_met_102 hl (by decide) rfl (fun ls hl => ?_)
      refine lv_iinc (v := iI (j + 1)) (lv' := [(6, .int (iI (j + 1))), (5, .int (iI (dI (shI dd n)))), (7, .int (iI (dI (shI dd n)))), (4, .int (iI (shI dd n))), (0, .ref (u 0)), (1, .int (iI a)), (2, .int (iI n)), (3, .int (iI k))]) hx hb dX1_met_104 hl (k := 3) rfl (iI_add _ _) (by decide) rfl (fun ls hl => ?_)
      refine lv_goto (tgt := 57) hx hb dX1_met_107 (by decide) ?_
      exact ih57 ((shI dd n : Int), (dI (shI dd n) : Int), (j + 1 : Int), ((cc + 1) + sgI (dI (shI dd n)) : Int)) _ _ _ _ _ ⟨⟨by first | ((try dsimp only); (first | omega | (rw [show (j + 1).toNat = j.toNat + 1 by omega]; show _ = shI (wyI (dt a.toNat) n j.toNat) n; rw [← hI57.1]))) | (dsimp only; done), by first | ((try dsimp only); (first | omega | (rw [show (j + 1).toNat = j.toNat + 1 by omega]; show _ = shI (wyI (dt a.toNat) n j.toNat) n; rw [← hI57.1]))) | (dsimp only; done), by first | ((try dsimp only); (first | omega | (rw [show (j + 1).toNat = j.toNat + 1 by omega]; show _ = shI (wyI (dt a.toNat) n j.toNat) n; rw [← hI57.1]))) | (dsimp only; done), by first | ((try dsimp only); (first | omega | (rw [show (j + 1).toNat = j.toNat + 1 by omega]; show _ = shI (wyI (dt a.toNat) n j.toNat) n; rw [← hI57.1]))) | (dsimp only; done), by first | ((try dsimp only); (first | omega | (rw [show (j + 1).toNat = j.toNat + 1 by omega]; show _ = shI (wyI (dt a.toNat) n j.toNat) n; rw [← hI57.1]))) | (dsimp only; done)⟩, hoH12_0, by omega, hS, by (try dsimp only); omega, by (try dsimp only); omega⟩ (by (try dsimp only); omega) (lv_sub hl [3, 1, 0, 4, 5, 6, 7] rfl)

set_option maxHeartbeats 4000000 in
set_option maxRecDepth 100000 in
theorem no1_met (θ : TH) (l : Launch) (hl0 : l.stackTraces = false) (S0 : State) (H : Heap) (u : Nat → Nat) (dt sy sm sd : Nat → Int) (bc rf kn : Int) (hw : CWR θ S0 u H dt sy sm sd bc rf kn) (a n k : Int) (h_0 : -2147483648 ≤ a ∧ a < 2147483648) (h_1 : -2147483648 ≤ n ∧ n < 2147483648) (h_2 : -2147483648 ≤ k ∧ k < 2147483648) (h_3 : ¬ (0 ≤ a ∧ a < 6)) : TX l yX1_met cX1_met 8 (some (.object "java/lang/String")) 7 110 [.ref (u 0), .int (iI a), .int (iI n), .int (iI k)] S0 H "java/lang/IndexOutOfBoundsException" := by
  refine ct_of (by decide +kernel) (Nat.le_of_ble_eq_true rfl) ?_
  intro pg en s mi args below meth co ls fx hs hr hlk hxt hin hl
  subst hs
  obtain ⟨hx, hb, hml, hown, hts⟩ := id fx.1
  have hS : va_S (fun q : Nat => s.heap.size ≤ q) s.heap s.heap [] := va_S.rf
  obtain ⟨hz, hu, ⟨ho, ha1, ha2, ha3, ha4, hsb⟩, hd, hsp⟩ := id hw
  have hAB : ∀ q : Nat, (fun q : Nat => s.heap.size ≤ q) q → θ.2.2.2 ≤ q := fun q h => Nat.le_trans hz.2.1 h
  have hz0 := hz
  have hK := sz_K fx.2 hz
  refine lv_iload_n hx hb dX1_met_0 rfl (lv_at hl 1 rfl) ?_
  exact e_cT (As := [.int (iI a)]) (rest := []) fx hl (nno_needPlace θ l hl0 S0 _ hz a (by omega) (by omega)) dX1_met_1 k260 k261 k1 k262 hd_X1_needPlace rfl ⟨by decide, by decide⟩ (Nat.le_of_ble_eq_true rfl) ⟨by decide, by decide⟩ ⟨by decide, by decide⟩ hS (fun _ h => h) hxt hlk (fun H1 h1 h2 => ⟨rfl, h1, h2⟩)

set_option maxHeartbeats 4000000 in
set_option maxRecDepth 100000 in
theorem no2_met (θ : TH) (l : Launch) (hl0 : l.stackTraces = false) (S0 : State) (H : Heap) (u : Nat → Nat) (dt sy sm sd : Nat → Int) (bc rf kn : Int) (hw : CWR θ S0 u H dt sy sm sd bc rf kn) (a n k : Int) (h_0 : -2147483648 ≤ a ∧ a < 2147483648) (h_1 : -2147483648 ≤ n ∧ n < 2147483648) (h_2 : -2147483648 ≤ k ∧ k < 2147483648) (h_3 : 0 ≤ a ∧ a < 6) (h_4 : ¬ (-1200 ≤ n ∧ n ≤ 1200)) : TX l yX1_met cX1_met 8 (some (.object "java/lang/String")) 7 112 [.ref (u 0), .int (iI a), .int (iI n), .int (iI k)] S0 H "java/lang/IllegalArgumentException" := by
  refine ct_of (by decide +kernel) (Nat.le_of_ble_eq_true rfl) ?_
  intro pg en s mi args below meth co ls fx hs hr hlk hxt hin hl
  subst hs
  obtain ⟨hx, hb, hml, hown, hts⟩ := id fx.1
  have hS : va_S (fun q : Nat => s.heap.size ≤ q) s.heap s.heap [] := va_S.rf
  obtain ⟨hz, hu, ⟨ho, ha1, ha2, ha3, ha4, hsb⟩, hd, hsp⟩ := id hw
  have hAB : ∀ q : Nat, (fun q : Nat => s.heap.size ≤ q) q → θ.2.2.2 ≤ q := fun q h => Nat.le_trans hz.2.1 h
  have hz0 := hz
  have hK := sz_K fx.2 hz
  refine lv_iload_n hx hb dX1_met_0 rfl (lv_at hl 1 rfl) ?_
  refine c_N (As := [.int (iI a)]) (rest := []) fx hl (nok_needPlace l S0 _ a (by omega) (by omega)) dX1_met_1 k260 k261 k1 k262 hd_X1_needPlace rfl ⟨by decide, by decide⟩ (Nat.le_of_ble_eq_true rfl) ⟨by dsimp only; omega, by dsimp only; omega⟩ ?_
  refine lv_iload_n hx hb dX1_met_4 rfl (lv_at hl 2 rfl) ?_
  refine q_sip hx hb dX1_met_5 (by decide) ?_
  refine q_sip hx hb dX1_met_8 (by decide) ?_
  exact e_cT (As := [.int (iI n), .int (iI (-1200)), .int (iI 1200)]) (rest := []) fx hl (nno_needWithin θ l hl0 S0 _ hz n (-1200) 1200 (by omega) (by omega) (by omega) (by omega)) dX1_met_11 k172 k173 k1 k174 hd_X1_needWithin rfl ⟨by decide, by decide⟩ (Nat.le_of_ble_eq_true rfl) ⟨by decide, by decide⟩ ⟨by decide, by decide⟩ hS (fun _ h => h) hxt hlk (fun H1 h1 h2 => ⟨rfl, h1, h2⟩)

set_option maxHeartbeats 4000000 in
set_option maxRecDepth 100000 in
theorem no3_met (θ : TH) (l : Launch) (hl0 : l.stackTraces = false) (S0 : State) (H : Heap) (u : Nat → Nat) (dt sy sm sd : Nat → Int) (bc rf kn : Int) (hw : CWR θ S0 u H dt sy sm sd bc rf kn) (a n k : Int) (h_0 : -2147483648 ≤ a ∧ a < 2147483648) (h_1 : -2147483648 ≤ n ∧ n < 2147483648) (h_2 : -2147483648 ≤ k ∧ k < 2147483648) (h_3 : 0 ≤ a ∧ a < 6) (h_4 : -1200 ≤ n ∧ n ≤ 1200) (h_5 : ¬ (0 ≤ k ∧ k ≤ 48)) : TX l yX1_met cX1_met 8 (some (.object "java/lang/String")) 7 112 [.ref (u 0), .int (iI a), .int (iI n), .int (iI k)] S0 H "java/lang/IllegalArgumentException" := by
  refine ct_of (by decide +kernel) (Nat.le_of_ble_eq_true rfl) ?_
  intro pg en s mi args below meth co ls fx hs hr hlk hxt hin hl
  subst hs
  obtain ⟨hx, hb, hml, hown, hts⟩ := id fx.1
  have hS : va_S (fun q : Nat => s.heap.size ≤ q) s.heap s.heap [] := va_S.rf
  obtain ⟨hz, hu, ⟨ho, ha1, ha2, ha3, ha4, hsb⟩, hd, hsp⟩ := id hw
  have hAB : ∀ q : Nat, (fun q : Nat => s.heap.size ≤ q) q → θ.2.2.2 ≤ q := fun q h => Nat.le_trans hz.2.1 h
  have hz0 := hz
  have hK := sz_K fx.2 hz
  refine lv_iload_n hx hb dX1_met_0 rfl (lv_at hl 1 rfl) ?_
  refine c_N (As := [.int (iI a)]) (rest := []) fx hl (nok_needPlace l S0 _ a (by omega) (by omega)) dX1_met_1 k260 k261 k1 k262 hd_X1_needPlace rfl ⟨by decide, by decide⟩ (Nat.le_of_ble_eq_true rfl) ⟨by dsimp only; omega, by dsimp only; omega⟩ ?_
  refine lv_iload_n hx hb dX1_met_4 rfl (lv_at hl 2 rfl) ?_
  refine q_sip hx hb dX1_met_5 (by decide) ?_
  refine q_sip hx hb dX1_met_8 (by decide) ?_
  refine c_N (As := [.int (iI n), .int (iI (-1200)), .int (iI 1200)]) (rest := []) fx hl (nok_needWithin l S0 _ n (-1200) 1200 (by omega) (by omega) (by omega) (by omega)) dX1_met_11 k172 k173 k1 k174 hd_X1_needWithin rfl ⟨by decide, by decide⟩ (Nat.le_of_ble_eq_true rfl) ⟨by dsimp only; omega, by dsimp only; omega⟩ ?_
  refine lv_iload_n hx hb dX1_met_14 rfl (lv_at hl 3 rfl) ?_
  refine q_con hx hb dX1_met_15 ?_
  refine q_bip hx hb dX1_met_16 (by decide) ?_
  exact e_cT (As := [.int (iI k), .int (iI 0), .int (iI 48)]) (rest := []) fx hl (nno_needWithin θ l hl0 S0 _ hz k 0 48 (by omega) (by omega) (by omega) (by omega)) dX1_met_18 k172 k173 k1 k174 hd_X1_needWithin rfl ⟨by decide, by decide⟩ (Nat.le_of_ble_eq_true rfl) ⟨by decide, by decide⟩ ⟨by decide, by decide⟩ hS (fun _ h => h) hxt hlk (fun H1 h1 h2 => ⟨rfl, h1, h2⟩)
