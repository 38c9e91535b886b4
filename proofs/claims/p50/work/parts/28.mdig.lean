set_option maxHeartbeats 4000000 in
set_option maxRecDepth 100000 in
theorem mok_keeps (θ : TH) (l : Launch) (S0 : State) (H : Heap) (w : Nat → Nat) (r q : Nat → Nat) (dt : Nat → Int) (sv : Nat → Nat → Int) (th dn rf kn : Int) (hw : MWR θ S0 w H r q dt sv th dn rf kn) (hj : SJ θ S0 H) (a n : Int) (h_0 : -2147483648 ≤ a ∧ a < 2147483648) (h_1 : -2147483648 ≤ n ∧ n < 2147483648) (h_2 : 0 ≤ a ∧ a < 6) (h_3 : -1200 ≤ n ∧ n ≤ 1200) : CT l yX3_keeps cX3_keeps 5 (some .int) 8 267 98 4999 [.ref (w 0), .int (iI a), .int (iI n)] S0 H (fun v9 H1 => (∃ z : Int, v9 = some (.int (iI z))) ∧ ∃ r1 q1 : Nat → Nat, MWR θ S0 w H1 r1 q1 dt sv 0 dn rf kn) (fun _ _ => False) (WA w H.size) := by
  refine ct_of (by decide +kernel) (Nat.le_of_ble_eq_true rfl) ?_
  intro pg en s mi args below meth co ls fx hs hr hlk hxt hin hl
  subst hs
  obtain ⟨hx, hb, hml, hown, hts⟩ := id fx.1
  have hS : va_S (fun x : Nat => (x = w 0 ∨ x = w 1 ∨ x = w 2) ∨ s.heap.size ≤ x) s.heap s.heap [] := va_S.rf
  obtain ⟨hz, hu, hm, hd, hsv⟩ := id hw
  have hAB : ∀ x : Nat, (fun x : Nat => (x = w 0 ∨ x = w 1 ∨ x = w 2) ∨ s.heap.size ≤ x) x → θ.2.2.2 ≤ x := wa_b hu hz.2.1
  have hz0 := hz
  have hK := sz_K fx.2 hz
  have hlt0 := hm.lt
  have hu1 := hu.1
  have hAn : ∀ x : Nat, s.heap.size ≤ x → (fun x : Nat => (x = w 0 ∨ x = w 1 ∨ x = w 2) ∨ s.heap.size ≤ x) x := fun _ h => Or.inr h
  have hj0 := hj
  have hz2 := hz.2.1
  refine lv_aload_n hx hb dX3_keeps_0 rfl (lv_at hl 0 rfl) ?_
  refine lv_iload_n hx hb dX3_keeps_1 rfl (lv_at hl 1 rfl) ?_
  refine lv_iload_n hx hb dX3_keeps_2 rfl (lv_at hl 2 rfl) ?_
  refine q_con hx hb dX3_keeps_3 ?_
  obtain ⟨t1, f2, hq1t1, hq2t1⟩ := fw_ex (0 ≤ a ∧ a < 6) ((-1200 ≤ n ∧ n ≤ 1200) ∧ 0 ≤ (0 : Int) ∧ (0 : Int) ≤ 48)
  have hmw : MWR θ S0 w s.heap r q dt sv th dn rf kn := ⟨hz, hu, hm, hd, hsv⟩
  refine c_M (w := w) (As := [.int (iI a), .int (iI n), .int (iI 0)]) (rest := []) (b := w 0) (C := RX3) fx hl (mw_failsWay θ l S0 _ w _ _ _ _ _ _ _ _ hmw a n 0 t1 f2 (by omega) (by omega) (by omega) hq1t1 hq2t1) (ob_recv hK hm.1 rfl) dX3_keeps_4 k1296 k1298 ks20 k6 k1299 hd_X3_failsWay rfl ⟨by decide, by decide⟩ (Nat.le_of_ble_eq_true rfl) ⟨by dsimp only; omega, by dsimp only; omega⟩ hS (fun x hx => hx ▸ Or.inl (Or.inl rfl)) (fun H3 locs hmH3 hszH3 hk0H3 hS => ?_)
  have hkH3 : ∀ x : Nat, x < (s.heap).size → ¬ x = w 0 → H3[x]? = (s.heap)[x]? := hk0H3
  have hzH3 := hz0.at hAB hS
  have hltH3 := hmH3.lt
  have hjH3 := hj0.at hAB hS
  refine q_ieq (tgt := 12) hx hb dX3_keeps_7 (by decide) (by omega) (fun c4 => ?_) (fun c4 => ?_)
  · refine lv_aload_n hx hb dX3_keeps_12 rfl (lv_at hl 0 rfl) ?_
    refine lv_iload_n hx hb dX3_keeps_13 rfl (lv_at hl 1 rfl) ?_
    refine lv_iload_n hx hb dX3_keeps_14 rfl (lv_at hl 2 rfl) ?_
    refine q_bip hx hb dX3_keeps_15 (by decide) ?_
    have hmw : MWR θ S0 w H3 r q dt sv t1 dn rf kn := ⟨hzH3, hu, hmH3, hd, hsv⟩
    refine c_ME (As := [.int (iI a), .int (iI n), .int (iI 48)]) (rest := []) (b := w 0) (C := RX3) fx hl (jp_way θ l S0 _ w _ _ _ _ _ _ _ _ hmw hjH3 a n 48 (by omega) (by omega) (by omega)) (ob_recv hK hmH3.1 rfl) dX3_keeps_17 k1300 k1302 ks21 k6 k1303 hd_X3_way rfl ⟨by decide, by decide⟩ (Nat.le_of_ble_eq_true rfl) ⟨by (try dsimp only); omega, by (try dsimp only); omega⟩ hS (fun x hx => hAn x (Nat.le_trans hS.1 hx)) (fun x6 H5 locs hpH5 hszH5 hk0H5 hS => ?_)
    obtain ⟨hx7, d8, cap9, hc10, hq11⟩ := hpH5
    have hkH5 : ∀ q : Nat, q < (H3).size → H5[q]? = (H3)[q]? := fun q hq => hk0H5 q hq (Nat.not_le.mpr hq)
    have hzH5 := hz0.at hAB hS
    have hjH5 := hj0.at hAB hS
    have hkmH5 : ∀ x : Nat, x < (H3).size → H5[x]? = (H3)[x]? := fun x hx => (hkH5 x (by omega)).trans ((fun x (_ : x < (H3).size) => (rfl : (H3)[x]? = (H3)[x]?)) x hx)
    have hmH5 := hmH3.kept hkmH5
    have hltH5 := hmH5.lt
    have hlix6 : LI θ H5 x6 d8 cap9 (Int.toNat 48 + 1) (fun i : Nat => dI (wyI (dt a.toNat) n i)) := hq11
    have llix6 := hlix6.lt
    refine lv_astore_n (lv' := [(3, .ref x6), (0, .ref (w 0)), (1, .int (iI a)), (2, .int (iI n))]) hx hb dX3_keeps_20 rfl hl (by decide) rfl (fun ls hl => ?_)
    refine q_con hx hb dX3_keeps_21 ?_
    refine lv_istore (lv' := [(4, .int (iI 1)), (3, .ref x6), (0, .ref (w 0)), (1, .int (iI a)), (2, .int (iI n))]) hx hb dX3_keeps_22 hl (by decide) rfl (fun ls hl => ?_)
    obtain ⟨go12, hoo12, h0o12, ha0o12, hkco12, hc1o12, helo12⟩ := hlix6
    have hao12 := ha0o12 (by omega)
    have loo12 := hoo12.lt
    have lao12 := hao12.lt
    refine w_loopH (nL := 5) (σ := Int) (fun x => (49 - x).toNat) (fun x H1 locs1 c9 s9 => ((1 ≤ x ∧ x ≤ 49)) ∧ OB θ H1 x6 6 [.int (iI (((Int.toNat 48 + 1) : Nat) : Int)), .ref d8, .int (iI (((Int.toNat 48 + 1) : Nat) : Int))] ∧ AO θ H1 d8 cap9 go12 ∧ (∀ x : Nat, x < (H3).size → H1[x]? = (H3)[x]?) ∧ (H3).size ≤ H1.size ∧ va_S (fun x : Nat => (x = w 0 ∨ x = w 1 ∨ x = w 2) ∨ s.heap.size ≤ x) s.heap H1 locs1 ∧ c9 ≤ 98 ∧ s9 ≤ 4999) (fun x => [(4, .int (iI x)), (3, .ref x6), (0, .ref (w 0)), (1, .int (iI a)), (2, .int (iI n))]) ?_ (1 : Int) ⟨(by first | ((try dsimp only); omega) | (dsimp only; done)), hoo12, hao12, hkmH5, (by omega), hS, by (try dsimp only); omega, by (try dsimp only); omega⟩ (lv_sub hl [0, 1, 2, 3, 4] rfl)
    intro x H13 locs cells slots hJ24 ih24 ls hl
    obtain ⟨j, rfl⟩ : ∃ z, z = x := ⟨_, rfl⟩
    obtain ⟨hI24, hf0H13, hf1H13, hf2H13, hf3H13, hS, hcH13, hsH13⟩ := hJ24
    (try dsimp only at hI24 hcH13 hsH13 ih24 hl ⊢)
    (try dsimp only at hf0H13)
    (try dsimp only at hf1H13)
    (try dsimp only at hf2H13)
    (try dsimp only at hf3H13)
    have hsgeH13 := hS.1
    have tw0 := dI_b (wyI (dt a.toNat) n j.toNat)
    have tw1 := dI_b (wyI (dt a.toNat) n (j - 1).toNat)
    have hzH13 := hz0.at hAB hS
    have hjH13 := hj0.at hAB hS
    have hkmH13 := hf2H13
    have hmH13 := hmH3.kept hkmH13
    have hltH13 := hmH13.lt
    have lhf0H13 := hf0H13.lt
    have lhf1H13 := hf1H13.lt
    refine lv_iload hx hb dX3_keeps_24 (lv_at hl 0 rfl) ?_
    refine q_bip hx hb dX3_keeps_26 (by decide) ?_
    refine q_cgt (tgt := 69) hx hb dX3_keeps_28 (by decide) (by omega) (by omega) (fun c14 => ?_) (fun c14 => ?_)
    · refine q_con hx hb dX3_keeps_69 ?_
      obtain rfl : t1 = 0 := by omega
      have hmw : MWR θ S0 w H13 r q dt sv 0 dn rf kn := ⟨hzH13, hu, hmH13, hd, hsv⟩
      exact e_i hx hb hr hlk hS dX3_keeps_70 (by first | exact Nat.le_of_ble_eq_true rfl | ((try dsimp only); omega)) (by first | exact Nat.le_of_ble_eq_true rfl | ((try dsimp only); omega)) ⟨⟨_, rfl⟩, _, _, by first | exact hmw | (subst_vars; exact hmw) | (simp only [inI_self, inI_1, inI_31] at hmw; subst_vars; exact hmw)⟩
    · refine lv_aload_n hx hb dX3_keeps_31 rfl (lv_at hl 1 rfl) ?_
      refine lv_iload hx hb dX3_keeps_32 (lv_at hl 0 rfl) ?_
      refine c_Vr (C := "java/util/ArrayList") (As := [.int (iI j)]) (rest := []) (r := some (.ref (bx θ (dI (wyI (dt a.toNat) n (j).toNat))))) (st1 := [.ref (bx θ (dI (wyI (dt a.toNat) n (j).toNat)))]) fx hl (jm_get θ l S0 _ hzH13 hjH13 x6 j d8 cap9 (((Int.toNat 48 + 1) : Nat) : Int) (((Int.toNat 48 + 1) : Nat) : Int) go12 (bx θ (dI (wyI (dt a.toNat) n (j).toNat))) hf0H13 hf1H13 (by omega) (by omega) (by exact (helo12 _ (by omega)).1)) (ob_recv hK hf0H13 rfl) dX3_keeps_34 k1398 k1399 k1400 k18 k1401 hd_Jx4a65c_get_915e3 rfl rfl ⟨by decide, by decide⟩ (Nat.le_of_ble_eq_true rfl) ⟨by (try dsimp only); omega, by (try dsimp only); omega⟩ hS (fun x hx => by first | exact hx.elim | ((try dsimp only at hx ⊢); omega)) (fun H15 locs hpH15 hsz0H15 hk0H15 hS => ?_)
      obtain rfl := hpH15.symm
      refine va_castE hx hb hown (hts _ k1410) (o_recv fx.2 (hjH13.box (by omega)).1) dX3_keeps_37 ?_
      refine c_Vr (C := "java/lang/Integer") (As := []) (rest := []) (r := some (.int (iI (dI (wyI (dt a.toNat) n (j).toNat))))) (st1 := [.int (iI (dI (wyI (dt a.toNat) n (j).toNat)))]) fx hl (jm_intValue θ l S0 _ hzH13 hjH13 (bx θ (dI (wyI (dt a.toNat) n (j).toNat))) (dI (wyI (dt a.toNat) n (j).toNat)) (by rfl) (by omega)) (o_recv fx.2 (hjH13.box (by omega)).1) dX3_keeps_40 k1411 k1412 k1413 k20 k1414 hd_J6_intValue_8abf5 rfl rfl ⟨by decide, by decide⟩ (Nat.le_of_ble_eq_true rfl) ⟨by (try dsimp only); omega, by (try dsimp only); omega⟩ hS (fun x hx => by first | exact hx.elim | ((try dsimp only at hx ⊢); omega)) (fun H16 locs hpH16 hsz0H16 hk0H16 hS => ?_)
      obtain rfl := hpH16.symm
      refine lv_aload_n hx hb dX3_keeps_43 rfl (lv_at hl 1 rfl) ?_
      refine lv_iload hx hb dX3_keeps_44 (lv_at hl 0 rfl) ?_
      refine q_con hx hb dX3_keeps_46 ?_
      refine q_sub hx hb dX3_keeps_47 ?_
      refine c_Vr (C := "java/util/ArrayList") (As := [.int (iI (j - 1))]) (rest := [.int (iI (dI (wyI (dt a.toNat) n (j).toNat)))]) (r := some (.ref (bx θ (dI (wyI (dt a.toNat) n (j - 1).toNat))))) (st1 := [.ref (bx θ (dI (wyI (dt a.toNat) n (j - 1).toNat))), .int (iI (dI (wyI (dt a.toNat) n (j).toNat)))]) fx hl (jm_get θ l S0 _ hzH13 hjH13 x6 (j - 1) d8 cap9 (((Int.toNat 48 + 1) : Nat) : Int) (((Int.toNat 48 + 1) : Nat) : Int) go12 (bx θ (dI (wyI (dt a.toNat) n (j - 1).toNat))) hf0H13 hf1H13 (by omega) (by omega) (by exact (helo12 _ (by omega)).1)) (ob_recv hK hf0H13 rfl) dX3_keeps_48 k1398 k1399 k1400 k18 k1401 hd_Jx4a65c_get_915e3 rfl rfl ⟨by decide, by decide⟩ (Nat.le_of_ble_eq_true rfl) ⟨by (try dsimp only); omega, by (try dsimp only); omega⟩ hS (fun x hx => by first | exact hx.elim | ((try dsimp only at hx ⊢); omega)) (fun H17 locs hpH17 hsz0H17 hk0H17 hS => ?_)
      obtain rfl := hpH17.symm
      refine va_castE hx hb hown (hts _ k1410) (o_recv fx.2 (hjH13.box (by omega)).1) dX3_keeps_51 ?_
      refine c_Vr (C := "java/lang/Integer") (As := []) (rest := [.int (iI (dI (wyI (dt a.toNat) n (j).toNat)))]) (r := some (.int (iI (dI (wyI (dt a.toNat) n (j - 1).toNat))))) (st1 := [.int (iI (dI (wyI (dt a.toNat) n (j - 1).toNat))), .int (iI (dI (wyI (dt a.toNat) n (j).toNat)))]) fx hl (jm_intValue θ l S0 _ hzH13 hjH13 (bx θ (dI (wyI (dt a.toNat) n (j - 1).toNat))) (dI (wyI (dt a.toNat) n (j - 1).toNat)) (by rfl) (by omega)) (o_recv fx.2 (hjH13.box (by omega)).1) dX3_keeps_54 k1411 k1412 k1413 k20 k1414 hd_J6_intValue_8abf5 rfl rfl ⟨by decide, by decide⟩ (Nat.le_of_ble_eq_true rfl) ⟨by (try dsimp only); omega, by (try dsimp only); omega⟩ hS (fun x hx => by first | exact hx.elim | ((try dsimp only at hx ⊢); omega)) (fun H18 locs hpH18 hsz0H18 hk0H18 hS => ?_)
      obtain rfl := hpH18.symm
      refine q_cge (tgt := 63) hx hb dX3_keeps_57 (by decide) (by omega) (by omega) (fun c19 => ?_) (fun c19 => ?_)
      · refine lv_iinc (v := iI (j + 1)) (lv' := [(4, .int (iI (j + 1))), (3, .ref x6), (0, .ref (w 0)), (1, .int (iI a)), (2, .int (iI n))]) hx hb dX3_keeps_63 hl (k := 0) rfl (iI_add _ _) (by decide) rfl (fun ls hl => ?_)
        refine lv_goto (tgt := 24) hx hb dX3_keeps_66 (by decide) ?_
        exact ih24 (j + 1 : Int) _ _ _ _ _ ⟨(by first | ((try dsimp only); omega) | (dsimp only; done)), hf0H13, hf1H13, hkmH13, (by omega), hS, by (try dsimp only); omega, by (try dsimp only); omega⟩ (by (try dsimp only); omega) (lv_sub hl [0, 1, 2, 3, 4] rfl)
      · refine lv_iload hx hb dX3_keeps_60 (lv_at hl 0 rfl) ?_
        obtain rfl : t1 = 0 := by omega
        have hmw : MWR θ S0 w H13 r q dt sv 0 dn rf kn := ⟨hzH13, hu, hmH13, hd, hsv⟩
        exact e_i hx hb hr hlk hS dX3_keeps_62 (by first | exact Nat.le_of_ble_eq_true rfl | ((try dsimp only); omega)) (by first | exact Nat.le_of_ble_eq_true rfl | ((try dsimp only); omega)) ⟨⟨_, rfl⟩, _, _, by first | exact hmw | (subst_vars; exact hmw) | (simp only [inI_self, inI_1, inI_31] at hmw; subst_vars; exact hmw)⟩
  · exact (show False by omega).elim

set_option maxHeartbeats 4000000 in
set_option maxRecDepth 100000 in
theorem mno1_keeps (θ : TH) (l : Launch) (S0 : State) (H : Heap) (w : Nat → Nat) (r q : Nat → Nat) (dt : Nat → Int) (sv : Nat → Nat → Int) (th dn rf kn : Int) (hw : MWR θ S0 w H r q dt sv th dn rf kn) (hj : SJ θ S0 H) (a n : Int) (h_0 : -2147483648 ≤ a ∧ a < 2147483648) (h_1 : -2147483648 ≤ n ∧ n < 2147483648) (h_2 : ¬ (0 ≤ a ∧ a < 6)) : CT l yX3_keeps cX3_keeps 5 (some .int) 3 65 0 0 [.ref (w 0), .int (iI a), .int (iI n)] S0 H (fun v9 H1 => v9 = some (.int (iI 0)) ∧ ∃ r1 q1 : Nat → Nat, MWR θ S0 w H1 r1 q1 dt sv 1 dn rf kn) (fun _ _ => False) (WA w H.size) := by
  refine ct_of (by decide +kernel) (Nat.le_of_ble_eq_true rfl) ?_
  intro pg en s mi args below meth co ls fx hs hr hlk hxt hin hl
  subst hs
  obtain ⟨hx, hb, hml, hown, hts⟩ := id fx.1
  have hS : va_S (fun x : Nat => (x = w 0 ∨ x = w 1 ∨ x = w 2) ∨ s.heap.size ≤ x) s.heap s.heap [] := va_S.rf
  obtain ⟨hz, hu, hm, hd, hsv⟩ := id hw
  have hAB : ∀ x : Nat, (fun x : Nat => (x = w 0 ∨ x = w 1 ∨ x = w 2) ∨ s.heap.size ≤ x) x → θ.2.2.2 ≤ x := wa_b hu hz.2.1
  have hz0 := hz
  have hK := sz_K fx.2 hz
  have hlt0 := hm.lt
  have hu1 := hu.1
  have hAn : ∀ x : Nat, s.heap.size ≤ x → (fun x : Nat => (x = w 0 ∨ x = w 1 ∨ x = w 2) ∨ s.heap.size ≤ x) x := fun _ h => Or.inr h
  have hj0 := hj
  have hz2 := hz.2.1
  refine lv_aload_n hx hb dX3_keeps_0 rfl (lv_at hl 0 rfl) ?_
  refine lv_iload_n hx hb dX3_keeps_1 rfl (lv_at hl 1 rfl) ?_
  refine lv_iload_n hx hb dX3_keeps_2 rfl (lv_at hl 2 rfl) ?_
  refine q_con hx hb dX3_keeps_3 ?_
  obtain ⟨t1, f2, hq1t1, hq2t1⟩ := fw_ex (0 ≤ a ∧ a < 6) ((-1200 ≤ n ∧ n ≤ 1200) ∧ 0 ≤ (0 : Int) ∧ (0 : Int) ≤ 48)
  have hmw : MWR θ S0 w s.heap r q dt sv th dn rf kn := ⟨hz, hu, hm, hd, hsv⟩
  refine c_M (w := w) (As := [.int (iI a), .int (iI n), .int (iI 0)]) (rest := []) (b := w 0) (C := RX3) fx hl (mw_failsWay θ l S0 _ w _ _ _ _ _ _ _ _ hmw a n 0 t1 f2 (by omega) (by omega) (by omega) hq1t1 hq2t1) (ob_recv hK hm.1 rfl) dX3_keeps_4 k1296 k1298 ks20 k6 k1299 hd_X3_failsWay rfl ⟨by decide, by decide⟩ (Nat.le_of_ble_eq_true rfl) ⟨by dsimp only; omega, by dsimp only; omega⟩ hS (fun x hx => hx ▸ Or.inl (Or.inl rfl)) (fun H3 locs hmH3 hszH3 hk0H3 hS => ?_)
  have hkH3 : ∀ x : Nat, x < (s.heap).size → ¬ x = w 0 → H3[x]? = (s.heap)[x]? := hk0H3
  have hzH3 := hz0.at hAB hS
  have hltH3 := hmH3.lt
  have hjH3 := hj0.at hAB hS
  refine q_ieq (tgt := 12) hx hb dX3_keeps_7 (by decide) (by omega) (fun c4 => ?_) (fun c4 => ?_)
  · exact (show False by omega).elim
  · refine q_con hx hb dX3_keeps_10 ?_
    obtain rfl : t1 = 1 := by omega
    have hmw : MWR θ S0 w H3 r q dt sv 1 dn rf kn := ⟨hzH3, hu, hmH3, hd, hsv⟩
    exact e_i hx hb hr hlk hS dX3_keeps_11 (Nat.le_of_ble_eq_true rfl) (Nat.le_of_ble_eq_true rfl) ⟨ex_i (by omega), _, _, by first | exact hmw | (subst_vars; exact hmw) | (simp only [inI_self, inI_1, inI_31] at hmw; subst_vars; exact hmw)⟩

set_option maxHeartbeats 4000000 in
set_option maxRecDepth 100000 in
theorem mno2_keeps (θ : TH) (l : Launch) (S0 : State) (H : Heap) (w : Nat → Nat) (r q : Nat → Nat) (dt : Nat → Int) (sv : Nat → Nat → Int) (th dn rf kn : Int) (hw : MWR θ S0 w H r q dt sv th dn rf kn) (hj : SJ θ S0 H) (a n : Int) (h_0 : -2147483648 ≤ a ∧ a < 2147483648) (h_1 : -2147483648 ≤ n ∧ n < 2147483648) (h_2 : 0 ≤ a ∧ a < 6) (h_3 : ¬ (-1200 ≤ n ∧ n ≤ 1200)) : CT l yX3_keeps cX3_keeps 5 (some .int) 3 65 0 0 [.ref (w 0), .int (iI a), .int (iI n)] S0 H (fun v9 H1 => v9 = some (.int (iI 0)) ∧ ∃ r1 q1 : Nat → Nat, MWR θ S0 w H1 r1 q1 dt sv 2 dn rf kn) (fun _ _ => False) (WA w H.size) := by
  refine ct_of (by decide +kernel) (Nat.le_of_ble_eq_true rfl) ?_
  intro pg en s mi args below meth co ls fx hs hr hlk hxt hin hl
  subst hs
  obtain ⟨hx, hb, hml, hown, hts⟩ := id fx.1
  have hS : va_S (fun x : Nat => (x = w 0 ∨ x = w 1 ∨ x = w 2) ∨ s.heap.size ≤ x) s.heap s.heap [] := va_S.rf
  obtain ⟨hz, hu, hm, hd, hsv⟩ := id hw
  have hAB : ∀ x : Nat, (fun x : Nat => (x = w 0 ∨ x = w 1 ∨ x = w 2) ∨ s.heap.size ≤ x) x → θ.2.2.2 ≤ x := wa_b hu hz.2.1
  have hz0 := hz
  have hK := sz_K fx.2 hz
  have hlt0 := hm.lt
  have hu1 := hu.1
  have hAn : ∀ x : Nat, s.heap.size ≤ x → (fun x : Nat => (x = w 0 ∨ x = w 1 ∨ x = w 2) ∨ s.heap.size ≤ x) x := fun _ h => Or.inr h
  have hj0 := hj
  have hz2 := hz.2.1
  refine lv_aload_n hx hb dX3_keeps_0 rfl (lv_at hl 0 rfl) ?_
  refine lv_iload_n hx hb dX3_keeps_1 rfl (lv_at hl 1 rfl) ?_
  refine lv_iload_n hx hb dX3_keeps_2 rfl (lv_at hl 2 rfl) ?_
  refine q_con hx hb dX3_keeps_3 ?_
  obtain ⟨t1, f2, hq1t1, hq2t1⟩ := fw_ex (0 ≤ a ∧ a < 6) ((-1200 ≤ n ∧ n ≤ 1200) ∧ 0 ≤ (0 : Int) ∧ (0 : Int) ≤ 48)
  have hmw : MWR θ S0 w s.heap r q dt sv th dn rf kn := ⟨hz, hu, hm, hd, hsv⟩
  refine c_M (w := w) (As := [.int (iI a), .int (iI n), .int (iI 0)]) (rest := []) (b := w 0) (C := RX3) fx hl (mw_failsWay θ l S0 _ w _ _ _ _ _ _ _ _ hmw a n 0 t1 f2 (by omega) (by omega) (by omega) hq1t1 hq2t1) (ob_recv hK hm.1 rfl) dX3_keeps_4 k1296 k1298 ks20 k6 k1299 hd_X3_failsWay rfl ⟨by decide, by decide⟩ (Nat.le_of_ble_eq_true rfl) ⟨by dsimp only; omega, by dsimp only; omega⟩ hS (fun x hx => hx ▸ Or.inl (Or.inl rfl)) (fun H3 locs hmH3 hszH3 hk0H3 hS => ?_)
  have hkH3 : ∀ x : Nat, x < (s.heap).size → ¬ x = w 0 → H3[x]? = (s.heap)[x]? := hk0H3
  have hzH3 := hz0.at hAB hS
  have hltH3 := hmH3.lt
  have hjH3 := hj0.at hAB hS
  refine q_ieq (tgt := 12) hx hb dX3_keeps_7 (by decide) (by omega) (fun c4 => ?_) (fun c4 => ?_)
  · exact (show False by omega).elim
  · refine q_con hx hb dX3_keeps_10 ?_
    obtain rfl : t1 = 2 := by omega
    have hmw : MWR θ S0 w H3 r q dt sv 2 dn rf kn := ⟨hzH3, hu, hmH3, hd, hsv⟩
    exact e_i hx hb hr hlk hS dX3_keeps_11 (Nat.le_of_ble_eq_true rfl) (Nat.le_of_ble_eq_true rfl) ⟨ex_i (by omega), _, _, by first | exact hmw | (subst_vars; exact hmw) | (simp only [inI_self, inI_1, inI_31] at hmw; subst_vars; exact hmw)⟩

set_option maxHeartbeats 4000000 in
set_option maxRecDepth 100000 in
theorem mok_met (θ : TH) (l : Launch) (S0 : State) (H : Heap) (w : Nat → Nat) (r q : Nat → Nat) (dt : Nat → Int) (sv : Nat → Nat → Int) (th dn rf kn : Int) (hw : MWR θ S0 w H r q dt sv th dn rf kn) (hj : SJ θ S0 H) (a n k : Int) (h_0 : -2147483648 ≤ a ∧ a < 2147483648) (h_1 : -2147483648 ≤ n ∧ n < 2147483648) (h_2 : -2147483648 ≤ k ∧ k < 2147483648) (h_3 : 0 ≤ a ∧ a < 6) (h_4 : -1200 ≤ n ∧ n ≤ 1200) (h_5 : 0 ≤ k ∧ k ≤ 48) : CT l yX3_met cX3_met 8 (some (.object "java/lang/String")) 8 267 295 6963 [.ref (w 0), .int (iI a), .int (iI n), .int (iI k)] S0 H (fun v9 H1 => (∃ x y ln : Nat, v9 = some (.ref x) ∧ STg S0 H1 x y ln) ∧ ∃ r1 q1 : Nat → Nat, MWR θ S0 w H1 r1 q1 dt sv 0 dn rf kn) (fun _ _ => False) (WA w H.size) := by
  refine ct_of (by decide +kernel) (Nat.le_of_ble_eq_true rfl) ?_
  intro pg en s mi args below meth co ls fx hs hr hlk hxt hin hl
  subst hs
  obtain ⟨hx, hb, hml, hown, hts⟩ := id fx.1
  have hS : va_S (fun x : Nat => (x = w 0 ∨ x = w 1 ∨ x = w 2) ∨ s.heap.size ≤ x) s.heap s.heap [] := va_S.rf
  obtain ⟨hz, hu, hm, hd, hsv⟩ := id hw
  have hAB : ∀ x : Nat, (fun x : Nat => (x = w 0 ∨ x = w 1 ∨ x = w 2) ∨ s.heap.size ≤ x) x → θ.2.2.2 ≤ x := wa_b hu hz.2.1
  have hz0 := hz
  have hK := sz_K fx.2 hz
  have hlt0 := hm.lt
  have hu1 := hu.1
  have hAn : ∀ x : Nat, s.heap.size ≤ x → (fun x : Nat => (x = w 0 ∨ x = w 1 ∨ x = w 2) ∨ s.heap.size ≤ x) x := fun _ h => Or.inr h
  have hj0 := hj
  have hz2 := hz.2.1
  refine lv_aload_n hx hb dX3_met_0 rfl (lv_at hl 0 rfl) ?_
  refine lv_iload_n hx hb dX3_met_1 rfl (lv_at hl 1 rfl) ?_
  refine lv_iload_n hx hb dX3_met_2 rfl (lv_at hl 2 rfl) ?_
  refine lv_iload_n hx hb dX3_met_3 rfl (lv_at hl 3 rfl) ?_
  obtain ⟨t1, f2, hq1t1, hq2t1⟩ := fw_ex (0 ≤ a ∧ a < 6) ((-1200 ≤ n ∧ n ≤ 1200) ∧ 0 ≤ k ∧ k ≤ 48)
  have hmw : MWR θ S0 w s.heap r q dt sv th dn rf kn := ⟨hz, hu, hm, hd, hsv⟩
  refine c_M (w := w) (As := [.int (iI a), .int (iI n), .int (iI k)]) (rest := []) (b := w 0) (C := RX3) fx hl (mw_failsWay θ l S0 _ w _ _ _ _ _ _ _ _ hmw a n k t1 f2 (by omega) (by omega) (by omega) hq1t1 hq2t1) (ob_recv hK hm.1 rfl) dX3_met_4 k1296 k1298 ks20 k6 k1299 hd_X3_failsWay rfl ⟨by decide, by decide⟩ (Nat.le_of_ble_eq_true rfl) ⟨by dsimp only; omega, by dsimp only; omega⟩ hS (fun x hx => hx ▸ Or.inl (Or.inl rfl)) (fun H3 locs hmH3 hszH3 hk0H3 hS => ?_)
  have hkH3 : ∀ x : Nat, x < (s.heap).size → ¬ x = w 0 → H3[x]? = (s.heap)[x]? := hk0H3
  have hzH3 := hz0.at hAB hS
  have hltH3 := hmH3.lt
  have hjH3 := hj0.at hAB hS
  refine q_ieq (tgt := 13) hx hb dX3_met_7 (by decide) (by omega) (fun c4 => ?_) (fun c4 => ?_)
  · refine va_ldcS hx hb hown (vk_R.warm fx.2 hj0.1.2.2.2.2.2.2.1) dX3_met_13 ?_
    have c5 := (hjH3.2.2.2.2.2.2.2.1).g
    have lc5 := c5.lt
    have mc5 := (hj0.2.2.2.2.2.2.2.1).g.lt
    refine lv_astore (lv' := [(4, .ref (θ.2.2.1 24)), (0, .ref (w 0)), (1, .int (iI a)), (2, .int (iI n)), (3, .int (iI k))]) hx hb dX3_met_15 hl (by decide) rfl (fun ls hl => ?_)
    refine q_con hx hb dX3_met_17 ?_
    refine lv_istore (lv' := [(5, .int (iI (-1))), (4, .ref (θ.2.2.1 24)), (0, .ref (w 0)), (1, .int (iI a)), (2, .int (iI n)), (3, .int (iI k))]) hx hb dX3_met_18 hl (by decide) rfl (fun ls hl => ?_)
    refine lv_aload_n hx hb dX3_met_20 rfl (lv_at hl 2 rfl) ?_
    refine lv_iload_n hx hb dX3_met_21 rfl (lv_at hl 3 rfl) ?_
    refine lv_iload_n hx hb dX3_met_22 rfl (lv_at hl 4 rfl) ?_
    refine lv_iload_n hx hb dX3_met_23 rfl (lv_at hl 5 rfl) ?_
    have hmw : MWR θ S0 w H3 r q dt sv t1 dn rf kn := ⟨hzH3, hu, hmH3, hd, hsv⟩
    refine c_ME (As := [.int (iI a), .int (iI n), .int (iI k)]) (rest := []) (b := w 0) (C := RX3) fx hl (jp_way θ l S0 _ w _ _ _ _ _ _ _ _ hmw hjH3 a n k (by omega) (by omega) (by omega)) (ob_recv hK hmH3.1 rfl) dX3_met_24 k1300 k1302 ks21 k6 k1303 hd_X3_way rfl ⟨by decide, by decide⟩ (Nat.le_of_ble_eq_true rfl) ⟨by (try dsimp only); omega, by (try dsimp only); omega⟩ hS (fun x hx => hAn x (Nat.le_trans hS.1 hx)) (fun x7 H6 locs hpH6 hszH6 hk0H6 hS => ?_)
    obtain ⟨hx8, d9, cap10, hc11, hq12⟩ := hpH6
    have hkH6 : ∀ q : Nat, q < (H3).size → H6[q]? = (H3)[q]? := fun q hq => hk0H6 q hq (Nat.not_le.mpr hq)
    have c5_H6 := c5.kept (hkH6 _ c5.lt.1) (hkH6 _ c5.lt.2)
    have hzH6 := hz0.at hAB hS
    have hjH6 := hj0.at hAB hS
    have hkmH6 : ∀ x : Nat, x < (H3).size → H6[x]? = (H3)[x]? := fun x hx => (hkH6 x (by omega)).trans ((fun x (_ : x < (H3).size) => (rfl : (H3)[x]? = (H3)[x]?)) x hx)
    have hmH6 := hmH3.kept hkmH6
    have hltH6 := hmH6.lt
    have hlix7 : LI θ H6 x7 d9 cap10 (Int.toNat k + 1) (fun i : Nat => dI (wyI (dt a.toNat) n i)) := hq12
    have llix7 := hlix7.lt
    obtain ⟨go13, hoo13, h0o13, ha0o13, hkco13, hc1o13, helo13⟩ := hlix7
    have hao13 := ha0o13 (by omega)
    have loo13 := hoo13.lt
    have lao13 := hao13.lt
    refine c_Vr (C := "java/util/ArrayList") (As := []) (rest := []) (r := some (.ref H6.size)) (st1 := [.ref H6.size]) fx hl (jm_iterator θ l S0 _ hzH6 hjH6 x7 (((Int.toNat k + 1) : Nat) : Int) d9 (((Int.toNat k + 1) : Nat) : Int) hoo13) (ob_recv hK hoo13 rfl) dX3_met_27 k1420 k1421 k1422 k18 k1423 hd_Jx4a65c_iterator_32c93 rfl rfl ⟨by decide, by decide⟩ (Nat.le_of_ble_eq_true rfl) ⟨by (try dsimp only); omega, by (try dsimp only); omega⟩ hS (fun x hx => by first | exact hx.elim | ((try dsimp only at hx ⊢); omega)) (fun H14 locs hpH14 hsz0H14 hk0H14 hS => ?_)
    obtain ⟨hszH14, hoH14_0⟩ := hpH14
    have hkH14 : ∀ q : Nat, q < (H6).size → H14[q]? = (H6)[q]? := fun q hq => hk0H14 q hq (Nat.not_le.mpr hq)
    have hoo13_H14 := hoo13.kept (hkH14 _ hoo13.lt)
    have hao13_H14 := hao13.kept (hkH14 _ hao13.lt)
    have c5_H14 := c5_H6.kept (hkH14 _ c5_H6.lt.1) (hkH14 _ c5_H6.lt.2)
    have lhoH14_0 := hoH14_0.lt
    have hzH14 := hz0.at hAB hS
    have hjH14 := hj0.at hAB hS
    have hkmH14 : ∀ x : Nat, x < (H3).size → H14[x]? = (H3)[x]? := fun x hx => (hkH14 x (by omega)).trans (hkmH6 x hx)
    have hmH14 := hmH3.kept hkmH14
    have hltH14 := hmH14.lt
    refine lv_astore (lv' := [(6, .ref H6.size), (5, .int (iI (-1))), (4, .ref (θ.2.2.1 24)), (0, .ref (w 0)), (1, .int (iI a)), (2, .int (iI n)), (3, .int (iI k))]) hx hb dX3_met_30 hl (by decide) rfl (fun ls hl => ?_)
    refine w_loopH (nL := 8) (σ := Nat × Int × Nat × Nat × Int × Int) (fun x => (k + 1 - x.2.2.2.2.1).toNat) (fun x H1 locs1 c9 s9 => ((0 ≤ x.2.2.2.2.1 ∧ x.2.2.2.2.1 ≤ k + 1) ∧ (-1 ≤ x.2.1 ∧ x.2.1 ≤ 31) ∧ ((x.2.2.2.2.1 = 0 ∧ x.2.2.2.1 = 0 ∧ x.2.1 = -1) ∨ (1 ≤ x.2.2.2.2.1 ∧ x.2.1 = dI (wyI (dt a.toNat) n (x.2.2.2.2.1 - 1).toNat) ∧ 1 ≤ x.2.2.2.1 ∧ (x.2.2.2.1 ≤ 2 ∨ (28 ≤ x.2.1 ∧ (x.2.2.2.1 : Int) ≤ 2 + 3 * (31 - x.2.1))))) ∧ (x.1 ≠ H6.size ∧ x.2.2.1 ≠ H6.size)) ∧ STg S0 H1 x.1 x.2.2.1 x.2.2.2.1 ∧ OB θ H1 H6.size 5 [.int (iI x.2.2.2.2.1), .int (iI x.2.2.2.2.2), .int (iI (((Int.toNat k + 1) : Nat) : Int)), .ref x7] ∧ OB θ H1 x7 6 [.int (iI (((Int.toNat k + 1) : Nat) : Int)), .ref d9, .int (iI (((Int.toNat k + 1) : Nat) : Int))] ∧ AO θ H1 d9 cap10 go13 ∧ (∀ x : Nat, x < (H3).size → H1[x]? = (H3)[x]?) ∧ (H3).size ≤ H1.size ∧ va_S (fun x : Nat => (x = w 0 ∨ x = w 1 ∨ x = w 2) ∨ s.heap.size ≤ x) s.heap H1 locs1 ∧ c9 ≤ 99 + 4 * Int.toNat x.2.2.2.2.1 ∧ s9 ≤ 5003 + 40 * Int.toNat x.2.2.2.2.1) (fun x => [(4, .ref x.1), (5, .int (iI x.2.1)), (6, .ref H6.size), (0, .ref (w 0)), (1, .int (iI a)), (2, .int (iI n)), (3, .int (iI k))]) ?_ (((θ.2.2.1 24) : Nat), ((-1) : Int), ((θ.2.2.1 28) : Nat), (0 : Nat), (0 : Int), ((-1) : Int)) ⟨⟨by first | ((try dsimp only); omega) | (dsimp only; done), by first | ((try dsimp only); omega) | (dsimp only; done), by first | ((try dsimp only); omega) | (dsimp only; done), by first | ((try dsimp only); omega) | (dsimp only; done)⟩, (by exact c5_H14), hoH14_0, hoo13_H14, hao13_H14, hkmH14, (by omega), hS, by (try dsimp only); omega, by (try dsimp only); omega⟩ (lv_sub hl [2, 1, 0, 3, 4, 5, 6] rfl)
    intro x H15 locs cells slots hJ32 ih32 ls hl
    obtain ⟨md, bf, bb, ln, c1, lr⟩ := x
    obtain ⟨hI32, hf0H15, hf1H15, hf2H15, hf3H15, hf4H15, hf5H15, hS, hcH15, hsH15⟩ := hJ32
    (try dsimp only at hI32 hcH15 hsH15 ih32 hl ⊢)
    (try dsimp only at hf0H15)
    (try dsimp only at hf1H15)
    (try dsimp only at hf2H15)
    (try dsimp only at hf3H15)
    (try dsimp only at hf4H15)
    (try dsimp only at hf5H15)
    have hsgeH15 := hS.1
    have tw0 := dI_b (wyI (dt a.toNat) n c1.toNat)
    have tws := sgI_b (dI (wyI (dt a.toNat) n c1.toNat))
    have twp := wy_step (wyI (dt a.toNat) n (c1 - 1).toNat) n
    have twz : 1 ≤ c1 → dI (wyI (dt a.toNat) n c1.toNat) = dI (shI (wyI (dt a.toNat) n (c1 - 1).toNat) n) := fun h => by rw [show c1.toNat = (c1 - 1).toNat + 1 by omega]; rfl
    have hzH15 := hz0.at hAB hS
    have hjH15 := hj0.at hAB hS
    have hkmH15 := hf4H15
    have hmH15 := hmH3.kept hkmH15
    have hltH15 := hmH15.lt
    have lhf0H15 := hf0H15.lt
    have lhf1H15 := hf1H15.lt
    have lhf2H15 := hf2H15.lt
    have lhf3H15 := hf3H15.lt
    refine lv_aload hx hb dX3_met_32 (lv_at hl 2 rfl) ?_
    refine c_Fr (As := []) (rest := []) (r := some (.int (iI (if c1 = (((Int.toNat k + 1) : Nat) : Int) then 0 else 1)))) (st1 := [.int (iI (if c1 = (((Int.toNat k + 1) : Nat) : Int) then 0 else 1))]) fx hl (jm_hasNext θ l S0 _ hzH15 hjH15 H6.size c1 lr (((Int.toNat k + 1) : Nat) : Int) x7 d9 (((Int.toNat k + 1) : Nat) : Int) hf1H15 hf2H15 (by omega)) hK hf1H15 rfl hj0.1.2.2.2.2.1 dX3_met_34 k1444 k1450 k1448 k30 k1452 ⟨by decide, by decide, by decide +kernel⟩ rfl rfl ⟨by decide, by decide⟩ (Nat.le_of_ble_eq_true rfl) ⟨by (try dsimp only); omega, by (try dsimp only); omega⟩ hS (fun x hx => by first | exact hx.elim | ((try dsimp only at hx ⊢); omega)) (fun H16 locs hpH16 hsz0H16 hk0H16 hS => ?_)
    obtain rfl := hpH16.symm
    refine q_nm (fun z17 ez17 => ?_)
    have hqz17 : (c1 = (((Int.toNat k + 1) : Nat) : Int) ∧ z17 = 0) ∨ (¬ c1 = (((Int.toNat k + 1) : Nat) : Int) ∧ z17 = 1) := by rw [ez17]; split <;> omega
    refine q_ieq (tgt := 111) hx hb dX3_met_39 (by decide) (by omega) (fun c18 => ?_) (fun c18 => ?_)
    · refine lv_aload hx hb dX3_met_111 (lv_at hl 0 rfl) ?_
      obtain rfl : t1 = 0 := by omega
      have hmw : MWR θ S0 w H15 r q dt sv 0 dn rf kn := ⟨hzH15, hu, hmH15, hd, hsv⟩
      first | exact e_a hx hb hr (by first | exact Or.inl ⟨_, rfl⟩ | exact Or.inr ⟨_, rfl⟩) hlk hS dX3_met_113 (by first | exact Nat.le_of_ble_eq_true rfl | ((try dsimp only); omega)) (by first | exact Nat.le_of_ble_eq_true rfl | ((try dsimp only); omega)) ⟨⟨_, _, _, rfl, hf0H15⟩, _, _, by first | exact hmw | (subst_vars; exact hmw)⟩ | exact (show False by omega).elim
    · refine lv_aload hx hb dX3_met_42 (lv_at hl 2 rfl) ?_
      refine c_Fr (As := []) (rest := []) (r := some (.ref (bx θ (dI (wyI (dt a.toNat) n c1.toNat))))) (st1 := [.ref (bx θ (dI (wyI (dt a.toNat) n c1.toNat)))]) fx hl (jm_next θ l S0 _ hzH15 hjH15 H6.size c1 lr (((Int.toNat k + 1) : Nat) : Int) x7 d9 (((Int.toNat k + 1) : Nat) : Int) cap10 go13 (bx θ (dI (wyI (dt a.toNat) n c1.toNat))) hf1H15 hf2H15 hf3H15 (by omega) (by omega) (by exact (helo13 _ (by omega)).1) (by omega) (by omega)) hK hf1H15 rfl hj0.1.2.2.2.2.2.1 dX3_met_44 k1454 k1459 k1457 k30 k1461 ⟨by decide, by decide, by decide +kernel⟩ rfl rfl ⟨by decide, by decide⟩ (Nat.le_of_ble_eq_true rfl) ⟨by (try dsimp only); omega, by (try dsimp only); omega⟩ hS (fun x hx => by first | exact hx.elim | ((try dsimp only at hx ⊢); omega)) (fun H19 locs hpH19 hsz0H19 hk0H19 hS => ?_)
      obtain ⟨hszH19, hoH19_0⟩ := hpH19
      have hkH19 : ∀ q : Nat, q < (H15).size → ¬ (q = H6.size) → H19[q]? = (H15)[q]? := fun q hq hn => hk0H19 q hq (by (try dsimp only); omega)
      have hf2H15_H19 := hf2H15.kept (hkH19 _ hf2H15.lt (by omega))
      have hf3H15_H19 := hf3H15.kept (hkH19 _ hf3H15.lt (by omega))
      have hf0H15_H19 := hf0H15.kept (hkH19 _ hf0H15.lt.1 (by omega)) (hkH19 _ hf0H15.lt.2 (by omega))
      have lhoH19_0 := hoH19_0.lt
      have hzH19 := hz0.at hAB hS
      have hjH19 := hj0.at hAB hS
      have hkmH19 : ∀ x : Nat, x < (H3).size → H19[x]? = (H3)[x]? := fun x hx => (hkH19 x (by omega) (by omega)).trans (hkmH15 x hx)
      have hmH19 := hmH3.kept hkmH19
      have hltH19 := hmH19.lt
      refine va_castE hx hb hown (hts _ k1410) (o_recv fx.2 (hjH19.box (by omega)).1) dX3_met_49 ?_
      refine c_Vr (C := "java/lang/Integer") (As := []) (rest := []) (r := some (.int (iI (dI (wyI (dt a.toNat) n c1.toNat))))) (st1 := [.int (iI (dI (wyI (dt a.toNat) n c1.toNat)))]) fx hl (jm_intValue θ l S0 _ hzH19 hjH19 (bx θ (dI (wyI (dt a.toNat) n c1.toNat))) (dI (wyI (dt a.toNat) n c1.toNat)) (by rfl) (by omega)) (o_recv fx.2 (hjH19.box (by omega)).1) dX3_met_52 k1411 k1412 k1413 k20 k1414 hd_J6_intValue_8abf5 rfl rfl ⟨by decide, by decide⟩ (Nat.le_of_ble_eq_true rfl) ⟨by (try dsimp only); omega, by (try dsimp only); omega⟩ hS (fun x hx => by first | exact hx.elim | ((try dsimp only at hx ⊢); omega)) (fun H20 locs hpH20 hsz0H20 hk0H20 hS => ?_)
      obtain rfl := hpH20.symm
      refine lv_istore (lv' := [(7, .int (iI (dI (wyI (dt a.toNat) n c1.toNat)))), (4, .ref md), (5, .int (iI bf)), (6, .ref H6.size), (0, .ref (w 0)), (1, .int (iI a)), (2, .int (iI n)), (3, .int (iI k))]) hx hb dX3_met_55 hl (by decide) rfl (fun ls hl => ?_)
      refine lv_iload hx hb dX3_met_57 (lv_at hl 0 rfl) ?_
      refine lv_iload hx hb dX3_met_59 (lv_at hl 2 rfl) ?_
      refine q_ceq (tgt := 104) hx hb dX3_met_61 (by decide) (by omega) (by omega) (fun c21 => ?_) (fun c21 => ?_)
      · refine lv_iload hx hb dX3_met_104 (lv_at hl 0 rfl) ?_
        refine lv_istore (lv' := [(5, .int (iI (dI (wyI (dt a.toNat) n c1.toNat)))), (7, .int (iI (dI (wyI (dt a.toNat) n c1.toNat)))), (4, .ref md), (6, .ref H6.size), (0, .ref (w 0)), (1, .int (iI a)), (2, .int (iI n)), (3, .int (iI k))]) hx hb dX3_met_106 hl (by decide) rfl (fun ls hl => ?_)
        refine lv_goto (tgt := 32) hx hb dX3_met_108 (by decide) ?_
        have twy : dI (wyI (dt a.toNat) n ((c1 + 1) - 1).toNat) = dI (wyI (dt a.toNat) n c1.toNat) := by rw [show Int.toNat ((c1 + 1) - 1) = c1.toNat by omega]
        exact ih32 ((md : Nat), ((dI (wyI (dt a.toNat) n c1.toNat)) : Int), (bb : Nat), (ln : Nat), (c1 + 1 : Int), (c1 : Int)) _ _ _ _ _ ⟨⟨by first | ((try dsimp only); omega) | (dsimp only; done), by first | ((try dsimp only); omega) | (dsimp only; done), by first | ((try dsimp only); omega) | (dsimp only; done), by first | ((try dsimp only); omega) | (dsimp only; done)⟩, (by exact hf0H15_H19), hoH19_0, hf2H15_H19, hf3H15_H19, hkmH19, (by omega), hS, by (try dsimp only); omega, by (try dsimp only); omega⟩ (by (try dsimp only); omega) (lv_sub hl [2, 0, 3, 4, 5, 6, 7] rfl)
      · refine r_new (θ := θ) (ci := 1) (fs := [.null, .int (iI 0), .int (iI 0), .int (iI 0)]) (C := RJ4) (T := TJ4) (N := 4) hx hb hts gwJ4 tyJ4 tyJ4_ok hown k1466 k40 k3 hK hS rfl (fun j hj => by rcases (show j = 0 ∨ j = 1 ∨ j = 2 ∨ j = 3 by omega) with rfl | rfl | rfl | rfl <;> rfl) (by (try dsimp only); omega) (by (try dsimp only); omega) dX3_met_64 (fun H22 hnH22 hszH22 hkH22 hS => ?_)
        have hf2H15_H22 := hf2H15_H19.kept (hkH22 _ hf2H15_H19.lt)
        have hoH19_0_H22 := hoH19_0.kept (hkH22 _ hoH19_0.lt)
        have hf3H15_H22 := hf3H15_H19.kept (hkH22 _ hf3H15_H19.lt)
        have hf0H15_H22 := hf0H15_H19.kept (hkH22 _ hf0H15_H19.lt.1) (hkH22 _ hf0H15_H19.lt.2)
        have hzH22 := hz0.at hAB hS
        have hjH22 := hj0.at hAB hS
        have hkmH22 : ∀ x : Nat, x < (H3).size → H22[x]? = (H3)[x]? := fun x hx => (hkH22 x (by omega)).trans (hkmH19 x hx)
        have hmH22 := hmH3.kept hkmH22
        have hltH22 := hmH22.lt
        have lnH22 := hnH22.lt
        refine lv_dup hx hb dX3_met_67 rfl ?_
        refine c_Ir (As := []) (rest := [.ref H19.size]) (r := none) (st1 := [.ref H19.size]) fx hl (jm_sbInit θ l S0 _ hzH22 hjH22 H19.size hnH22 (by omega)) dX3_met_68 k1467 k42 k3 k43 rfl hd_J4_init_da8c8 rfl rfl ⟨by decide, by decide⟩ (Nat.le_of_ble_eq_true rfl) ⟨by (try dsimp only); omega, by (try dsimp only); omega⟩ hS (fun x hx => by first | exact hx.elim | ((try dsimp only at hx ⊢); omega)) (fun H23 locs hpH23 hsz0H23 hk0H23 hS => ?_)
        obtain ⟨hszH23, hoH23_0⟩ := hpH23
        have hkH23 : ∀ q : Nat, q < (H22).size → ¬ (q = H19.size) → H23[q]? = (H22)[q]? := fun q hq hn => hk0H23 q hq (by (try dsimp only); omega)
        have hf2H15_H23 := hf2H15_H22.kept (hkH23 _ hf2H15_H22.lt (by omega))
        have hoH19_0_H23 := hoH19_0_H22.kept (hkH23 _ hoH19_0_H22.lt (by omega))
        have hf3H15_H23 := hf3H15_H22.kept (hkH23 _ hf3H15_H22.lt (by omega))
        have hf0H15_H23 := hf0H15_H22.kept (hkH23 _ hf0H15_H22.lt.1 (by omega)) (hkH23 _ hf0H15_H22.lt.2 (by omega))
        have lhoH23_0 := hoH23_0.lt
        have hzH23 := hz0.at hAB hS
        have hjH23 := hj0.at hAB hS
        have hkmH23 : ∀ x : Nat, x < (H3).size → H23[x]? = (H3)[x]? := fun x hx => (hkH23 x (by omega) (by omega)).trans (hkmH22 x hx)
        have hmH23 := hmH3.kept hkmH23
        have hltH23 := hmH23.lt
        refine lv_aload hx hb dX3_met_71 (lv_at hl 1 rfl) ?_
        refine c_Vr (C := "java/lang/StringBuilder") (As := [.ref md]) (rest := []) (r := some (.ref H19.size)) (st1 := [.ref H19.size]) fx hl (jm_appendS θ l S0 _ hzH23 hjH23 H19.size md H22.size 16 0 bb ln hoH23_0 hf0H15_H23 (by omega) (by omega) (by omega) (by omega) (by omega) (by omega) (by omega)) (ob_recv hK hoH23_0.split.choose_spec.1 rfl) dX3_met_73 k1468 k340 k341 k3 k342 hd_J4_append_15ec4 rfl rfl ⟨by decide, by decide⟩ (Nat.le_of_ble_eq_true rfl) ⟨by (try dsimp only); omega, by (try dsimp only); omega⟩ hS (fun x hx => by first | exact hx.elim | ((try dsimp only at hx ⊢); omega)) (fun H24 locs hpH24 hsz0H24 hk0H24 hS => ?_)
        obtain ⟨hszH24, hoH24_0⟩ := hpH24
        have hkH24 : ∀ q : Nat, q < (H23).size → ¬ (q = H19.size ∨ q = H22.size) → H24[q]? = (H23)[q]? := fun q hq hn => hk0H24 q hq (by (try dsimp only); omega)
        have hf2H15_H24 := hf2H15_H23.kept (hkH24 _ hf2H15_H23.lt (by omega))
        have hoH19_0_H24 := hoH19_0_H23.kept (hkH24 _ hoH19_0_H23.lt (by omega))
        have hf3H15_H24 := hf3H15_H23.kept (hkH24 _ hf3H15_H23.lt (by omega))
        have hf0H15_H24 := hf0H15_H23.kept (hkH24 _ hf0H15_H23.lt.1 (by omega)) (hkH24 _ hf0H15_H23.lt.2 (by omega))
        have lhoH24_0 := hoH24_0.lt
        have hzH24 := hz0.at hAB hS
        have hjH24 := hj0.at hAB hS
        have hkmH24 : ∀ x : Nat, x < (H3).size → H24[x]? = (H3)[x]? := fun x hx => (hkH24 x (by omega) (by omega)).trans (hkmH23 x hx)
        have hmH24 := hmH3.kept hkmH24
        have hltH24 := hmH24.lt
        refine lv_aload hx hb dX3_met_76 (lv_at hl 1 rfl) ?_
        refine c_Vr (C := "java/lang/String") (As := []) (rest := [.ref H19.size]) (r := some (.int (iI (if (ln : Int) = 0 then 1 else 0)))) (st1 := [.int (iI (if (ln : Int) = 0 then 1 else 0)), .ref H19.size]) fx hl (jm_isEmpty θ l S0 _ hzH24 hjH24 md bb ln hf0H15_H24 (by omega)) (o_recv fx.2 hf0H15_H24.1) dX3_met_78 k1469 k1470 k1471 k4 k1472 hd_J0_isEmpty_aae02 rfl rfl ⟨by decide, by decide⟩ (Nat.le_of_ble_eq_true rfl) ⟨by (try dsimp only); omega, by (try dsimp only); omega⟩ hS (fun x hx => by first | exact hx.elim | ((try dsimp only at hx ⊢); omega)) (fun H25 locs hpH25 hsz0H25 hk0H25 hS => ?_)
        obtain rfl := hpH25.symm
        refine q_nm (fun z26 ez26 => ?_)
        have hqz26 : ((ln : Int) = 0 ∧ z26 = 1) ∨ (¬ (ln : Int) = 0 ∧ z26 = 0) := by rw [ez26]; split <;> omega
        refine q_ieq (tgt := 89) hx hb dX3_met_81 (by decide) (by omega) (fun c27 => ?_) (fun c27 => ?_)
        · refine va_ldcS hx hb hown (vk_R.warm fx.2 hj0.1.2.2.2.2.2.2.2.1) dX3_met_89 ?_
          have c28 := (hjH24.2.2.2.2.2.2.2.2.1).g
          have lc28 := c28.lt
          have mc28 := (hj0.2.2.2.2.2.2.2.2.1).g.lt
          refine c_Vr (C := "java/lang/StringBuilder") (As := [.ref (θ.2.2.1 25)]) (rest := []) (r := some (.ref H19.size)) (st1 := [.ref H19.size]) fx hl (jm_appendS θ l S0 _ hzH24 hjH24 H19.size (θ.2.2.1 25) H22.size 16 (0 + ln) (θ.2.2.1 29) 1 hoH24_0 c28 (by omega) (by omega) (by omega) (by omega) (by omega) (by omega) (by omega)) (ob_recv hK hoH24_0.split.choose_spec.1 rfl) dX3_met_91 k1468 k340 k341 k3 k342 hd_J4_append_15ec4 rfl rfl ⟨by decide, by decide⟩ (Nat.le_of_ble_eq_true rfl) ⟨by (try dsimp only); omega, by (try dsimp only); omega⟩ hS (fun x hx => by first | exact hx.elim | ((try dsimp only at hx ⊢); omega)) (fun H29 locs hpH29 hsz0H29 hk0H29 hS => ?_)
          obtain ⟨hszH29, hoH29_0⟩ := hpH29
          have hkH29 : ∀ q : Nat, q < (H24).size → ¬ (q = H19.size ∨ q = H22.size) → H29[q]? = (H24)[q]? := fun q hq hn => hk0H29 q hq (by (try dsimp only); omega)
          have hf2H15_H29 := hf2H15_H24.kept (hkH29 _ hf2H15_H24.lt (by omega))
          have hoH19_0_H29 := hoH19_0_H24.kept (hkH29 _ hoH19_0_H24.lt (by omega))
          have hf3H15_H29 := hf3H15_H24.kept (hkH29 _ hf3H15_H24.lt (by omega))
          have hf0H15_H29 := hf0H15_H24.kept (hkH29 _ hf0H15_H24.lt.1 (by omega)) (hkH29 _ hf0H15_H24.lt.2 (by omega))
          have c28_H29 := c28.kept (hkH29 _ c28.lt.1 (by omega)) (hkH29 _ c28.lt.2 (by omega))
          have lhoH29_0 := hoH29_0.lt
          have hzH29 := hz0.at hAB hS
          have hjH29 := hj0.at hAB hS
          have hkmH29 : ∀ x : Nat, x < (H3).size → H29[x]? = (H3)[x]? := fun x hx => (hkH29 x (by omega) (by omega)).trans (hkmH24 x hx)
          have hmH29 := hmH3.kept hkmH29
          have hltH29 := hmH29.lt
          refine lv_iload hx hb dX3_met_94 (lv_at hl 0 rfl) ?_
          refine c_Vr (C := "java/lang/StringBuilder") (As := [.int (iI (dI (wyI (dt a.toNat) n c1.toNat)))]) (rest := []) (r := some (.ref H19.size)) (st1 := [.ref H19.size]) fx hl (jm_appendI θ l S0 _ hzH29 hjH29 H19.size (dI (wyI (dt a.toNat) n c1.toNat)) H22.size 16 ((0 + ln) + 1) hoH29_0 (by omega) (by omega) (by omega) (by omega) (by omega) (by omega)) (ob_recv hK hoH29_0.split.choose_spec.1 rfl) dX3_met_96 k1474 k458 k459 k3 k460 hd_J4_append_bf812 rfl rfl ⟨by decide, by decide⟩ (Nat.le_of_ble_eq_true rfl) ⟨by (try dsimp only); omega, by (try dsimp only); omega⟩ hS (fun x hx => by first | exact hx.elim | ((try dsimp only at hx ⊢); omega)) (fun H30 locs hpH30 hsz0H30 hk0H30 hS => ?_)
          obtain ⟨hszH30, hoH30_0⟩ := hpH30
          have hkH30 : ∀ q : Nat, q < (H29).size → ¬ (q = H19.size ∨ q = H22.size) → H30[q]? = (H29)[q]? := fun q hq hn => hk0H30 q hq (by (try dsimp only); omega)
          have hf2H15_H30 := hf2H15_H29.kept (hkH30 _ hf2H15_H29.lt (by omega))
          have hoH19_0_H30 := hoH19_0_H29.kept (hkH30 _ hoH19_0_H29.lt (by omega))
          have hf3H15_H30 := hf3H15_H29.kept (hkH30 _ hf3H15_H29.lt (by omega))
          have hf0H15_H30 := hf0H15_H29.kept (hkH30 _ hf0H15_H29.lt.1 (by omega)) (hkH30 _ hf0H15_H29.lt.2 (by omega))
          have c28_H30 := c28_H29.kept (hkH30 _ c28_H29.lt.1 (by omega)) (hkH30 _ c28_H29.lt.2 (by omega))
          have lhoH30_0 := hoH30_0.lt
          have hzH30 := hz0.at hAB hS
          have hjH30 := hj0.at hAB hS
          have hkmH30 : ∀ x : Nat, x < (H3).size → H30[x]? = (H3)[x]? := fun x hx => (hkH30 x (by omega) (by omega)).trans (hkmH29 x hx)
          have hmH30 := hmH3.kept hkmH30
          have hltH30 := hmH30.lt
          refine c_Vr (C := "java/lang/StringBuilder") (As := []) (rest := []) (r := some (.ref H30.size)) (st1 := [.ref H30.size]) fx hl (jm_toString θ l S0 _ hzH30 hjH30 H19.size H22.size 16 (((0 + ln) + 1) + sgI (dI (wyI (dt a.toNat) n c1.toNat))) hoH30_0 (by omega) (by omega) (by omega)) (ob_recv hK hoH30_0.split.choose_spec.1 rfl) dX3_met_99 k1475 k483 k484 k3 k485 hd_J4_toString_0e30d rfl rfl ⟨by decide, by decide⟩ (Nat.le_of_ble_eq_true rfl) ⟨by (try dsimp only); omega, by (try dsimp only); omega⟩ hS (fun x hx => by first | exact hx.elim | ((try dsimp only at hx ⊢); omega)) (fun H31 locs hpH31 hsz0H31 hk0H31 hS => ?_)
          obtain ⟨hszH31, hoH31_0, hoH31_1⟩ := hpH31
          have hkH31 : ∀ q : Nat, q < (H30).size → H31[q]? = (H30)[q]? := fun q hq => hk0H31 q hq (Nat.not_le.mpr hq)
          have hf2H15_H31 := hf2H15_H30.kept (hkH31 _ hf2H15_H30.lt)
          have hoH19_0_H31 := hoH19_0_H30.kept (hkH31 _ hoH19_0_H30.lt)
          have hf3H15_H31 := hf3H15_H30.kept (hkH31 _ hf3H15_H30.lt)
          have hoH30_0_H31 := hoH30_0.kept (hkH31 _ hoH30_0.lt.1) (hkH31 _ hoH30_0.lt.2)
          have hf0H15_H31 := hf0H15_H30.kept (hkH31 _ hf0H15_H30.lt.1) (hkH31 _ hf0H15_H30.lt.2)
          have c28_H31 := c28_H30.kept (hkH31 _ c28_H30.lt.1) (hkH31 _ c28_H30.lt.2)
          have lhoH31_0 := hoH31_0.lt
          have lhoH31_1 := hoH31_1.lt
          have hzH31 := hz0.at hAB hS
          have hjH31 := hj0.at hAB hS
          have hkmH31 : ∀ x : Nat, x < (H3).size → H31[x]? = (H3)[x]? := fun x hx => (hkH31 x (by omega)).trans (hkmH30 x hx)
          have hmH31 := hmH3.kept hkmH31
          have hltH31 := hmH31.lt
          refine lv_astore (lv' := [(4, .ref H30.size), (7, .int (iI (dI (wyI (dt a.toNat) n c1.toNat)))), (5, .int (iI bf)), (6, .ref H6.size), (0, .ref (w 0)), (1, .int (iI a)), (2, .int (iI n)), (3, .int (iI k))]) hx hb dX3_met_102 hl (by decide) rfl (fun ls hl => ?_)
          refine lv_iload hx hb dX3_met_104 (lv_at hl 1 rfl) ?_
          refine lv_istore (lv' := [(5, .int (iI (dI (wyI (dt a.toNat) n c1.toNat)))), (4, .ref H30.size), (7, .int (iI (dI (wyI (dt a.toNat) n c1.toNat)))), (6, .ref H6.size), (0, .ref (w 0)), (1, .int (iI a)), (2, .int (iI n)), (3, .int (iI k))]) hx hb dX3_met_106 hl (by decide) rfl (fun ls hl => ?_)
          refine lv_goto (tgt := 32) hx hb dX3_met_108 (by decide) ?_
          have twy : dI (wyI (dt a.toNat) n ((c1 + 1) - 1).toNat) = dI (wyI (dt a.toNat) n c1.toNat) := by rw [show Int.toNat ((c1 + 1) - 1) = c1.toNat by omega]
          exact ih32 ((H30.size : Nat), ((dI (wyI (dt a.toNat) n c1.toNat)) : Int), ((H30.size + 1) : Nat), (Int.toNat ((((0 + ln) + 1) + sgI (dI (wyI (dt a.toNat) n c1.toNat)))) : Nat), (c1 + 1 : Int), (c1 : Int)) _ _ _ _ _ ⟨⟨by first | ((try dsimp only); omega) | (dsimp only; done), by first | ((try dsimp only); omega) | (dsimp only; done), by first | ((try dsimp only); omega) | (dsimp only; done), by first | ((try dsimp only); omega) | (dsimp only; done)⟩, (by exact hoH31_0), hoH19_0_H31, hf2H15_H31, hf3H15_H31, hkmH31, (by omega), hS, by (try dsimp only); omega, by (try dsimp only); omega⟩ (by (try dsimp only); omega) (lv_sub hl [1, 0, 3, 4, 5, 6, 7] rfl)
        · refine va_ldcS hx hb hown (vk_R.warm fx.2 hj0.1.2.2.2.2.2.2.1) dX3_met_84 ?_
          have c32 := (hjH24.2.2.2.2.2.2.2.1).g
          have lc32 := c32.lt
          have mc32 := (hj0.2.2.2.2.2.2.2.1).g.lt
          refine lv_goto (tgt := 91) hx hb dX3_met_86 (by decide) ?_
          refine c_Vr (C := "java/lang/StringBuilder") (As := [.ref (θ.2.2.1 24)]) (rest := []) (r := some (.ref H19.size)) (st1 := [.ref H19.size]) fx hl (jm_appendS θ l S0 _ hzH24 hjH24 H19.size (θ.2.2.1 24) H22.size 16 (0 + ln) (θ.2.2.1 28) 0 hoH24_0 c32 (by omega) (by omega) (by omega) (by omega) (by omega) (by omega) (by omega)) (ob_recv hK hoH24_0.split.choose_spec.1 rfl) dX3_met_91 k1468 k340 k341 k3 k342 hd_J4_append_15ec4 rfl rfl ⟨by decide, by decide⟩ (Nat.le_of_ble_eq_true rfl) ⟨by (try dsimp only); omega, by (try dsimp only); omega⟩ hS (fun x hx => by first | exact hx.elim | ((try dsimp only at hx ⊢); omega)) (fun H33 locs hpH33 hsz0H33 hk0H33 hS => ?_)
          obtain ⟨hszH33, hoH33_0⟩ := hpH33
          have hkH33 : ∀ q : Nat, q < (H24).size → ¬ (q = H19.size ∨ q = H22.size) → H33[q]? = (H24)[q]? := fun q hq hn => hk0H33 q hq (by (try dsimp only); omega)
          have hf2H15_H33 := hf2H15_H24.kept (hkH33 _ hf2H15_H24.lt (by omega))
          have hoH19_0_H33 := hoH19_0_H24.kept (hkH33 _ hoH19_0_H24.lt (by omega))
          have hf3H15_H33 := hf3H15_H24.kept (hkH33 _ hf3H15_H24.lt (by omega))
          have hf0H15_H33 := hf0H15_H24.kept (hkH33 _ hf0H15_H24.lt.1 (by omega)) (hkH33 _ hf0H15_H24.lt.2 (by omega))
          have c32_H33 := c32.kept (hkH33 _ c32.lt.1 (by omega)) (hkH33 _ c32.lt.2 (by omega))
          have lhoH33_0 := hoH33_0.lt
          have hzH33 := hz0.at hAB hS
          have hjH33 := hj0.at hAB hS
          have hkmH33 : ∀ x : Nat, x < (H3).size → H33[x]? = (H3)[x]? := fun x hx => (hkH33 x (by omega) (by omega)).trans (hkmH24 x hx)
          have hmH33 := hmH3.kept hkmH33
          have hltH33 := hmH33.lt
          refine lv_iload hx hb dX3_met_94 (lv_at hl 0 rfl) ?_
          refine c_Vr (C := "java/lang/StringBuilder") (As := [.int (iI (dI (wyI (dt a.toNat) n c1.toNat)))]) (rest := []) (r := some (.ref H19.size)) (st1 := [.ref H19.size]) fx hl (jm_appendI θ l S0 _ hzH33 hjH33 H19.size (dI (wyI (dt a.toNat) n c1.toNat)) H22.size 16 ((0 + ln) + 0) hoH33_0 (by omega) (by omega) (by omega) (by omega) (by omega) (by omega)) (ob_recv hK hoH33_0.split.choose_spec.1 rfl) dX3_met_96 k1474 k458 k459 k3 k460 hd_J4_append_bf812 rfl rfl ⟨by decide, by decide⟩ (Nat.le_of_ble_eq_true rfl) ⟨by (try dsimp only); omega, by (try dsimp only); omega⟩ hS (fun x hx => by first | exact hx.elim | ((try dsimp only at hx ⊢); omega)) (fun H34 locs hpH34 hsz0H34 hk0H34 hS => ?_)
          obtain ⟨hszH34, hoH34_0⟩ := hpH34
          have hkH34 : ∀ q : Nat, q < (H33).size → ¬ (q = H19.size ∨ q = H22.size) → H34[q]? = (H33)[q]? := fun q hq hn => hk0H34 q hq (by (try dsimp only); omega)
          have hf2H15_H34 := hf2H15_H33.kept (hkH34 _ hf2H15_H33.lt (by omega))
          have hoH19_0_H34 := hoH19_0_H33.kept (hkH34 _ hoH19_0_H33.lt (by omega))
          have hf3H15_H34 := hf3H15_H33.kept (hkH34 _ hf3H15_H33.lt (by omega))
          have hf0H15_H34 := hf0H15_H33.kept (hkH34 _ hf0H15_H33.lt.1 (by omega)) (hkH34 _ hf0H15_H33.lt.2 (by omega))
          have c32_H34 := c32_H33.kept (hkH34 _ c32_H33.lt.1 (by omega)) (hkH34 _ c32_H33.lt.2 (by omega))
          have lhoH34_0 := hoH34_0.lt
          have hzH34 := hz0.at hAB hS
          have hjH34 := hj0.at hAB hS
          have hkmH34 : ∀ x : Nat, x < (H3).size → H34[x]? = (H3)[x]? := fun x hx => (hkH34 x (by omega) (by omega)).trans (hkmH33 x hx)
          have hmH34 := hmH3.kept hkmH34
          have hltH34 := hmH34.lt
          refine c_Vr (C := "java/lang/StringBuilder") (As := []) (rest := []) (r := some (.ref H34.size)) (st1 := [.ref H34.size]) fx hl (jm_toString θ l S0 _ hzH34 hjH34 H19.size H22.size 16 (((0 + ln) + 0) + sgI (dI (wyI (dt a.toNat) n c1.toNat))) hoH34_0 (by omega) (by omega) (by omega)) (ob_recv hK hoH34_0.split.choose_spec.1 rfl) dX3_met_99 k1475 k483 k484 k3 k485 hd_J4_toString_0e30d rfl rfl ⟨by decide, by decide⟩ (Nat.le_of_ble_eq_true rfl) ⟨by (try dsimp only); omega, by (try dsimp only); omega⟩ hS (fun x hx => by first | exact hx.elim | ((try dsimp only at hx ⊢); omega)) (fun H35 locs hpH35 hsz0H35 hk0H35 hS => ?_)
          obtain ⟨hszH35, hoH35_0, hoH35_1⟩ := hpH35
          have hkH35 : ∀ q : Nat, q < (H34).size → H35[q]? = (H34)[q]? := fun q hq => hk0H35 q hq (Nat.not_le.mpr hq)
          have hf2H15_H35 := hf2H15_H34.kept (hkH35 _ hf2H15_H34.lt)
          have hoH19_0_H35 := hoH19_0_H34.kept (hkH35 _ hoH19_0_H34.lt)
          have hf3H15_H35 := hf3H15_H34.kept (hkH35 _ hf3H15_H34.lt)
          have hoH34_0_H35 := hoH34_0.kept (hkH35 _ hoH34_0.lt.1) (hkH35 _ hoH34_0.lt.2)
          have hf0H15_H35 := hf0H15_H34.kept (hkH35 _ hf0H15_H34.lt.1) (hkH35 _ hf0H15_H34.lt.2)
          have c32_H35 := c32_H34.kept (hkH35 _ c32_H34.lt.1) (hkH35 _ c32_H34.lt.2)
          have lhoH35_0 := hoH35_0.lt
          have lhoH35_1 := hoH35_1.lt
          have hzH35 := hz0.at hAB hS
          have hjH35 := hj0.at hAB hS
          have hkmH35 : ∀ x : Nat, x < (H3).size → H35[x]? = (H3)[x]? := fun x hx => (hkH35 x (by omega)).trans (hkmH34 x hx)
          have hmH35 := hmH3.kept hkmH35
          have hltH35 := hmH35.lt
          refine lv_astore (lv' := [(4, .ref H34.size), (7, .int (iI (dI (wyI (dt a.toNat) n c1.toNat)))), (5, .int (iI bf)), (6, .ref H6.size), (0, .ref (w 0)), (1, .int (iI a)), (2, .int (iI n)), (3, .int (iI k))]) hx hb dX3_met_102 hl (by decide) rfl (fun ls hl => ?_)
          refine lv_iload hx hb dX3_met_104 (lv_at hl 1 rfl) ?_
          refine lv_istore (lv' := [(5, .int (iI (dI (wyI (dt a.toNat) n c1.toNat)))), (4, .ref H34.size), (7, .int (iI (dI (wyI (dt a.toNat) n c1.toNat)))), (6, .ref H6.size), (0, .ref (w 0)), (1, .int (iI a)), (2, .int (iI n)), (3, .int (iI k))]) hx hb dX3_met_106 hl (by decide) rfl (fun ls hl => ?_)
          refine lv_goto (tgt := 32) hx hb dX3_met_108 (by decide) ?_
          have twy : dI (wyI (dt a.toNat) n ((c1 + 1) - 1).toNat) = dI (wyI (dt a.toNat) n c1.toNat) := by rw [show Int.toNat ((c1 + 1) - 1) = c1.toNat by omega]
          exact ih32 ((H34.size : Nat), ((dI (wyI (dt a.toNat) n c1.toNat)) : Int), ((H34.size + 1) : Nat), (Int.toNat ((((0 + ln) + 0) + sgI (dI (wyI (dt a.toNat) n c1.toNat)))) : Nat), (c1 + 1 : Int), (c1 : Int)) _ _ _ _ _ ⟨⟨by first | ((try dsimp only); omega) | (dsimp only; done), by first | ((try dsimp only); omega) | (dsimp only; done), by first | ((try dsimp only); omega) | (dsimp only; done), by first | ((try dsimp only); omega) | (dsimp only; done)⟩, (by exact hoH35_0), hoH19_0_H35, hf2H15_H35, hf3H15_H35, hkmH35, (by omega), hS, by (try dsimp only); omega, by (try dsimp only); omega⟩ (by (try dsimp only); omega) (lv_sub hl [1, 0, 3, 4, 5, 6, 7] rfl)
  · exact (show False by omega).elim

set_option maxHeartbeats 4000000 in
set_option maxRecDepth 100000 in
theorem mno1_met (θ : TH) (l : Launch) (S0 : State) (H : Heap) (w : Nat → Nat) (r q : Nat → Nat) (dt : Nat → Int) (sv : Nat → Nat → Int) (th dn rf kn : Int) (hw : MWR θ S0 w H r q dt sv th dn rf kn) (hj : SJ θ S0 H) (a n k : Int) (h_0 : -2147483648 ≤ a ∧ a < 2147483648) (h_1 : -2147483648 ≤ n ∧ n < 2147483648) (h_2 : -2147483648 ≤ k ∧ k < 2147483648) (h_3 : ¬ (0 ≤ a ∧ a < 6)) : CT l yX3_met cX3_met 8 (some (.object "java/lang/String")) 3 65 0 0 [.ref (w 0), .int (iI a), .int (iI n), .int (iI k)] S0 H (fun v9 H1 => (∃ x y ln : Nat, v9 = some (.ref x) ∧ STg S0 H1 x y ln) ∧ ∃ r1 q1 : Nat → Nat, MWR θ S0 w H1 r1 q1 dt sv 1 dn rf kn) (fun _ _ => False) (WA w H.size) := by
  refine ct_of (by decide +kernel) (Nat.le_of_ble_eq_true rfl) ?_
  intro pg en s mi args below meth co ls fx hs hr hlk hxt hin hl
  subst hs
  obtain ⟨hx, hb, hml, hown, hts⟩ := id fx.1
  have hS : va_S (fun x : Nat => (x = w 0 ∨ x = w 1 ∨ x = w 2) ∨ s.heap.size ≤ x) s.heap s.heap [] := va_S.rf
  obtain ⟨hz, hu, hm, hd, hsv⟩ := id hw
  have hAB : ∀ x : Nat, (fun x : Nat => (x = w 0 ∨ x = w 1 ∨ x = w 2) ∨ s.heap.size ≤ x) x → θ.2.2.2 ≤ x := wa_b hu hz.2.1
  have hz0 := hz
  have hK := sz_K fx.2 hz
  have hlt0 := hm.lt
  have hu1 := hu.1
  have hAn : ∀ x : Nat, s.heap.size ≤ x → (fun x : Nat => (x = w 0 ∨ x = w 1 ∨ x = w 2) ∨ s.heap.size ≤ x) x := fun _ h => Or.inr h
  have hj0 := hj
  have hz2 := hz.2.1
  refine lv_aload_n hx hb dX3_met_0 rfl (lv_at hl 0 rfl) ?_
  refine lv_iload_n hx hb dX3_met_1 rfl (lv_at hl 1 rfl) ?_
  refine lv_iload_n hx hb dX3_met_2 rfl (lv_at hl 2 rfl) ?_
  refine lv_iload_n hx hb dX3_met_3 rfl (lv_at hl 3 rfl) ?_
  obtain ⟨t1, f2, hq1t1, hq2t1⟩ := fw_ex (0 ≤ a ∧ a < 6) ((-1200 ≤ n ∧ n ≤ 1200) ∧ 0 ≤ k ∧ k ≤ 48)
  have hmw : MWR θ S0 w s.heap r q dt sv th dn rf kn := ⟨hz, hu, hm, hd, hsv⟩
  refine c_M (w := w) (As := [.int (iI a), .int (iI n), .int (iI k)]) (rest := []) (b := w 0) (C := RX3) fx hl (mw_failsWay θ l S0 _ w _ _ _ _ _ _ _ _ hmw a n k t1 f2 (by omega) (by omega) (by omega) hq1t1 hq2t1) (ob_recv hK hm.1 rfl) dX3_met_4 k1296 k1298 ks20 k6 k1299 hd_X3_failsWay rfl ⟨by decide, by decide⟩ (Nat.le_of_ble_eq_true rfl) ⟨by dsimp only; omega, by dsimp only; omega⟩ hS (fun x hx => hx ▸ Or.inl (Or.inl rfl)) (fun H3 locs hmH3 hszH3 hk0H3 hS => ?_)
  have hkH3 : ∀ x : Nat, x < (s.heap).size → ¬ x = w 0 → H3[x]? = (s.heap)[x]? := hk0H3
  have hzH3 := hz0.at hAB hS
  have hltH3 := hmH3.lt
  have hjH3 := hj0.at hAB hS
  refine q_ieq (tgt := 13) hx hb dX3_met_7 (by decide) (by omega) (fun c4 => ?_) (fun c4 => ?_)
  · exact (show False by omega).elim
  · refine va_ldcS hx hb hown (vk_R.warm fx.2 hj0.1.2.2.2.2.2.2.1) dX3_met_10 ?_
    have c5 := (hjH3.2.2.2.2.2.2.2.1).g
    have lc5 := c5.lt
    have mc5 := (hj0.2.2.2.2.2.2.2.1).g.lt
    obtain rfl : t1 = 1 := by omega
    have hmw : MWR θ S0 w H3 r q dt sv 1 dn rf kn := ⟨hzH3, hu, hmH3, hd, hsv⟩
    first | exact e_a hx hb hr (by first | exact Or.inl ⟨_, rfl⟩ | exact Or.inr ⟨_, rfl⟩) hlk hS dX3_met_12 (by first | exact Nat.le_of_ble_eq_true rfl | ((try dsimp only); omega)) (by first | exact Nat.le_of_ble_eq_true rfl | ((try dsimp only); omega)) ⟨⟨_, _, _, rfl, c5⟩, _, _, by first | exact hmw | (subst_vars; exact hmw)⟩ | exact (show False by omega).elim

set_option maxHeartbeats 4000000 in
set_option maxRecDepth 100000 in
theorem mno2_met (θ : TH) (l : Launch) (S0 : State) (H : Heap) (w : Nat → Nat) (r q : Nat → Nat) (dt : Nat → Int) (sv : Nat → Nat → Int) (th dn rf kn : Int) (hw : MWR θ S0 w H r q dt sv th dn rf kn) (hj : SJ θ S0 H) (a n k : Int) (h_0 : -2147483648 ≤ a ∧ a < 2147483648) (h_1 : -2147483648 ≤ n ∧ n < 2147483648) (h_2 : -2147483648 ≤ k ∧ k < 2147483648) (h_3 : 0 ≤ a ∧ a < 6) (h_4 : ¬ (-1200 ≤ n ∧ n ≤ 1200)) : CT l yX3_met cX3_met 8 (some (.object "java/lang/String")) 3 65 0 0 [.ref (w 0), .int (iI a), .int (iI n), .int (iI k)] S0 H (fun v9 H1 => (∃ x y ln : Nat, v9 = some (.ref x) ∧ STg S0 H1 x y ln) ∧ ∃ r1 q1 : Nat → Nat, MWR θ S0 w H1 r1 q1 dt sv 2 dn rf kn) (fun _ _ => False) (WA w H.size) := by
  refine ct_of (by decide +kernel) (Nat.le_of_ble_eq_true rfl) ?_
  intro pg en s mi args below meth co ls fx hs hr hlk hxt hin hl
  subst hs
  obtain ⟨hx, hb, hml, hown, hts⟩ := id fx.1
  have hS : va_S (fun x : Nat => (x = w 0 ∨ x = w 1 ∨ x = w 2) ∨ s.heap.size ≤ x) s.heap s.heap [] := va_S.rf
  obtain ⟨hz, hu, hm, hd, hsv⟩ := id hw
  have hAB : ∀ x : Nat, (fun x : Nat => (x = w 0 ∨ x = w 1 ∨ x = w 2) ∨ s.heap.size ≤ x) x → θ.2.2.2 ≤ x := wa_b hu hz.2.1
  have hz0 := hz
  have hK := sz_K fx.2 hz
  have hlt0 := hm.lt
  have hu1 := hu.1
  have hAn : ∀ x : Nat, s.heap.size ≤ x → (fun x : Nat => (x = w 0 ∨ x = w 1 ∨ x = w 2) ∨ s.heap.size ≤ x) x := fun _ h => Or.inr h
  have hj0 := hj
  have hz2 := hz.2.1
  refine lv_aload_n hx hb dX3_met_0 rfl (lv_at hl 0 rfl) ?_
  refine lv_iload_n hx hb dX3_met_1 rfl (lv_at hl 1 rfl) ?_
  refine lv_iload_n hx hb dX3_met_2 rfl (lv_at hl 2 rfl) ?_
  refine lv_iload_n hx hb dX3_met_3 rfl (lv_at hl 3 rfl) ?_
  obtain ⟨t1, f2, hq1t1, hq2t1⟩ := fw_ex (0 ≤ a ∧ a < 6) ((-1200 ≤ n ∧ n ≤ 1200) ∧ 0 ≤ k ∧ k ≤ 48)
  have hmw : MWR θ S0 w s.heap r q dt sv th dn rf kn := ⟨hz, hu, hm, hd, hsv⟩
  refine c_M (w := w) (As := [.int (iI a), .int (iI n), .int (iI k)]) (rest := []) (b := w 0) (C := RX3) fx hl (mw_failsWay θ l S0 _ w _ _ _ _ _ _ _ _ hmw a n k t1 f2 (by omega) (by omega) (by omega) hq1t1 hq2t1) (ob_recv hK hm.1 rfl) dX3_met_4 k1296 k1298 ks20 k6 k1299 hd_X3_failsWay rfl ⟨by decide, by decide⟩ (Nat.le_of_ble_eq_true rfl) ⟨by dsimp only; omega, by dsimp only; omega⟩ hS (fun x hx => hx ▸ Or.inl (Or.inl rfl)) (fun H3 locs hmH3 hszH3 hk0H3 hS => ?_)
  have hkH3 : ∀ x : Nat, x < (s.heap).size → ¬ x = w 0 → H3[x]? = (s.heap)[x]? := hk0H3
  have hzH3 := hz0.at hAB hS
  have hltH3 := hmH3.lt
  have hjH3 := hj0.at hAB hS
  refine q_ieq (tgt := 13) hx hb dX3_met_7 (by decide) (by omega) (fun c4 => ?_) (fun c4 => ?_)
  · exact (show False by omega).elim
  · refine va_ldcS hx hb hown (vk_R.warm fx.2 hj0.1.2.2.2.2.2.2.1) dX3_met_10 ?_
    have c5 := (hjH3.2.2.2.2.2.2.2.1).g
    have lc5 := c5.lt
    have mc5 := (hj0.2.2.2.2.2.2.2.1).g.lt
    obtain rfl : t1 = 2 := by omega
    have hmw : MWR θ S0 w H3 r q dt sv 2 dn rf kn := ⟨hzH3, hu, hmH3, hd, hsv⟩
    first | exact e_a hx hb hr (by first | exact Or.inl ⟨_, rfl⟩ | exact Or.inr ⟨_, rfl⟩) hlk hS dX3_met_12 (by first | exact Nat.le_of_ble_eq_true rfl | ((try dsimp only); omega)) (by first | exact Nat.le_of_ble_eq_true rfl | ((try dsimp only); omega)) ⟨⟨_, _, _, rfl, c5⟩, _, _, by first | exact hmw | (subst_vars; exact hmw)⟩ | exact (show False by omega).elim

set_option maxHeartbeats 4000000 in
set_option maxRecDepth 100000 in
theorem mno3_met (θ : TH) (l : Launch) (S0 : State) (H : Heap) (w : Nat → Nat) (r q : Nat → Nat) (dt : Nat → Int) (sv : Nat → Nat → Int) (th dn rf kn : Int) (hw : MWR θ S0 w H r q dt sv th dn rf kn) (hj : SJ θ S0 H) (a n k : Int) (h_0 : -2147483648 ≤ a ∧ a < 2147483648) (h_1 : -2147483648 ≤ n ∧ n < 2147483648) (h_2 : -2147483648 ≤ k ∧ k < 2147483648) (h_3 : 0 ≤ a ∧ a < 6) (h_4 : -1200 ≤ n ∧ n ≤ 1200) (h_5 : ¬ (0 ≤ k ∧ k ≤ 48)) : CT l yX3_met cX3_met 8 (some (.object "java/lang/String")) 3 65 0 0 [.ref (w 0), .int (iI a), .int (iI n), .int (iI k)] S0 H (fun v9 H1 => (∃ x y ln : Nat, v9 = some (.ref x) ∧ STg S0 H1 x y ln) ∧ ∃ r1 q1 : Nat → Nat, MWR θ S0 w H1 r1 q1 dt sv 2 dn rf kn) (fun _ _ => False) (WA w H.size) := by
  refine ct_of (by decide +kernel) (Nat.le_of_ble_eq_true rfl) ?_
  intro pg en s mi args below meth co ls fx hs hr hlk hxt hin hl
  subst hs
  obtain ⟨hx, hb, hml, hown, hts⟩ := id fx.1
  have hS : va_S (fun x : Nat => (x = w 0 ∨ x = w 1 ∨ x = w 2) ∨ s.heap.size ≤ x) s.heap s.heap [] := va_S.rf
  obtain ⟨hz, hu, hm, hd, hsv⟩ := id hw
  have hAB : ∀ x : Nat, (fun x : Nat => (x = w 0 ∨ x = w 1 ∨ x = w 2) ∨ s.heap.size ≤ x) x → θ.2.2.2 ≤ x := wa_b hu hz.2.1
  have hz0 := hz
  have hK := sz_K fx.2 hz
  have hlt0 := hm.lt
  have hu1 := hu.1
  have hAn : ∀ x : Nat, s.heap.size ≤ x → (fun x : Nat => (x = w 0 ∨ x = w 1 ∨ x = w 2) ∨ s.heap.size ≤ x) x := fun _ h => Or.inr h
  have hj0 := hj
  have hz2 := hz.2.1
  refine lv_aload_n hx hb dX3_met_0 rfl (lv_at hl 0 rfl) ?_
  refine lv_iload_n hx hb dX3_met_1 rfl (lv_at hl 1 rfl) ?_
  refine lv_iload_n hx hb dX3_met_2 rfl (lv_at hl 2 rfl) ?_
  refine lv_iload_n hx hb dX3_met_3 rfl (lv_at hl 3 rfl) ?_
  obtain ⟨t1, f2, hq1t1, hq2t1⟩ := fw_ex (0 ≤ a ∧ a < 6) ((-1200 ≤ n ∧ n ≤ 1200) ∧ 0 ≤ k ∧ k ≤ 48)
  have hmw : MWR θ S0 w s.heap r q dt sv th dn rf kn := ⟨hz, hu, hm, hd, hsv⟩
  refine c_M (w := w) (As := [.int (iI a), .int (iI n), .int (iI k)]) (rest := []) (b := w 0) (C := RX3) fx hl (mw_failsWay θ l S0 _ w _ _ _ _ _ _ _ _ hmw a n k t1 f2 (by omega) (by omega) (by omega) hq1t1 hq2t1) (ob_recv hK hm.1 rfl) dX3_met_4 k1296 k1298 ks20 k6 k1299 hd_X3_failsWay rfl ⟨by decide, by decide⟩ (Nat.le_of_ble_eq_true rfl) ⟨by dsimp only; omega, by dsimp only; omega⟩ hS (fun x hx => hx ▸ Or.inl (Or.inl rfl)) (fun H3 locs hmH3 hszH3 hk0H3 hS => ?_)
  have hkH3 : ∀ x : Nat, x < (s.heap).size → ¬ x = w 0 → H3[x]? = (s.heap)[x]? := hk0H3
  have hzH3 := hz0.at hAB hS
  have hltH3 := hmH3.lt
  have hjH3 := hj0.at hAB hS
  refine q_ieq (tgt := 13) hx hb dX3_met_7 (by decide) (by omega) (fun c4 => ?_) (fun c4 => ?_)
  · exact (show False by omega).elim
  · refine va_ldcS hx hb hown (vk_R.warm fx.2 hj0.1.2.2.2.2.2.2.1) dX3_met_10 ?_
    have c5 := (hjH3.2.2.2.2.2.2.2.1).g
    have lc5 := c5.lt
    have mc5 := (hj0.2.2.2.2.2.2.2.1).g.lt
    obtain rfl : t1 = 2 := by omega
    have hmw : MWR θ S0 w H3 r q dt sv 2 dn rf kn := ⟨hzH3, hu, hmH3, hd, hsv⟩
    first | exact e_a hx hb hr (by first | exact Or.inl ⟨_, rfl⟩ | exact Or.inr ⟨_, rfl⟩) hlk hS dX3_met_12 (by first | exact Nat.le_of_ble_eq_true rfl | ((try dsimp only); omega)) (by first | exact Nat.le_of_ble_eq_true rfl | ((try dsimp only); omega)) ⟨⟨_, _, _, rfl, c5⟩, _, _, by first | exact hmw | (subst_vars; exact hmw)⟩ | exact (show False by omega).elim

set_option maxHeartbeats 4000000 in
set_option maxRecDepth 100000 in
theorem mok_digest (θ : TH) (l : Launch) (S0 : State) (H : Heap) (w : Nat → Nat) (r q : Nat → Nat) (dt : Nat → Int) (sv : Nat → Nat → Int) (th dn rf kn : Int) (hw : MWR θ S0 w H r q dt sv th dn rf kn) (hj : SJ θ S0 H) : CT l yX3_digest cX3_digest 10 (some .long) 9 215 358 3286 [.ref (w 0)] S0 H (fun v9 H1 => (∃ z : Int, v9 = some (.long (lL z))) ∧ ∃ r1 q1 : Nat → Nat, MWR θ S0 w H1 r1 q1 dt sv 0 dn rf kn) (fun _ _ => False) (WA w H.size) := by
  refine ct_of (by decide +kernel) (Nat.le_of_ble_eq_true rfl) ?_
  intro pg en s mi args below meth co ls fx hs hr hlk hxt hin hl
  subst hs
  obtain ⟨hx, hb, hml, hown, hts⟩ := id fx.1
  have hS : va_S (fun x : Nat => (x = w 0 ∨ x = w 1 ∨ x = w 2) ∨ s.heap.size ≤ x) s.heap s.heap [] := va_S.rf
  obtain ⟨hz, hu, hm, hd, hsv⟩ := id hw
  have hAB : ∀ x : Nat, (fun x : Nat => (x = w 0 ∨ x = w 1 ∨ x = w 2) ∨ s.heap.size ≤ x) x → θ.2.2.2 ≤ x := wa_b hu hz.2.1
  have hz0 := hz
  have hK := sz_K fx.2 hz
  have hlt0 := hm.lt
  have hu1 := hu.1
  have hAn : ∀ x : Nat, s.heap.size ≤ x → (fun x : Nat => (x = w 0 ∨ x = w 1 ∨ x = w 2) ∨ s.heap.size ≤ x) x := fun _ h => Or.inr h
  have hj0 := hj
  have hz2 := hz.2.1
  refine lv_aload_n hx hb dX3_digest_0 rfl (lv_at hl 0 rfl) ?_
  refine q_con hx hb dX3_digest_1 ?_
  refine r_put (θ := θ) (A := (fun x : Nat => (x = w 0 ∨ x = w 1 ∨ x = w 2) ∨ s.heap.size ≤ x)) (C := RX3) (T := TX3) (N := 6) (ci := 9) (v := .int (iI 0)) (ty := .int) hx hb hts gwX3 tyX3 tyX3_ok nmX3 hown hK hm.1 (Or.inl (Or.inl rfl)) hS rfl 0 (by decide) k1090 (fun _ h => h) rfl (by decide +kernel) rfl rfl (Nat.le_of_ble_eq_true rfl) dX3_digest_2 (fun H1 locs hoH1 hszH1 hkH1 hS => ?_)
  have hmH1 : MW θ w H1 r q dt sv 0 dn rf kn := hm.obj hu hoH1 hkH1
  have hzH1 := hz0.at hAB hS
  have hjH1 := hj0.at hAB hS
  refine q_ldc2 (n := 7843) hx hb hown (hts _ k1626) (by decide) dX3_digest_5 ?_
  refine lv_lstore_n (lv' := [(1, .long (lL 7843)), (0, .ref (w 0))]) hx hb dX3_digest_8 rfl hl (by decide) rfl (fun ls hl => ?_)
  refine q_con hx hb dX3_digest_9 ?_
  refine lv_istore_n (lv' := [(3, .int (iI 0)), (1, .long (lL 7843)), (0, .ref (w 0))]) hx hb dX3_digest_10 rfl hl (by decide) rfl (fun ls hl => ?_)
  refine w_loopH (nL := 10) (σ := Int × Int) (fun x => (4 - x.2).toNat) (fun x H1 locs1 c9 s9 => ((0 ≤ x.2 ∧ x.2 ≤ 4)) ∧ (∀ x : Nat, x < (H1).size → H1[x]? = (H1)[x]?) ∧ (H1).size ≤ H1.size ∧ va_S (fun x : Nat => (x = w 0 ∨ x = w 1 ∨ x = w 2) ∨ s.heap.size ≤ x) s.heap H1 locs1 ∧ c9 ≤ 1 * Int.toNat x.2 ∧ s9 ≤ 4 * Int.toNat x.2) (fun x => [(1, .long (lL x.1)), (3, .int (iI x.2)), (0, .ref (w 0))]) ?_ ((7843 : Int), (0 : Int)) ⟨(by first | ((try dsimp only); omega) | (dsimp only; done)), (fun x (_ : x < (H1).size) => (rfl : (H1)[x]? = (H1)[x]?)), (by omega), hS, by (try dsimp only); omega, by (try dsimp only); omega⟩ (lv_sub hl [1, 0, 2] rfl)
  intro x H2 locs cells slots hJ11 ih11 ls hl
  obtain ⟨d1, wh⟩ := x
  obtain ⟨hI11, hf0H2, hf1H2, hS, hcH2, hsH2⟩ := hJ11
  (try dsimp only at hI11 hcH2 hsH2 ih11 hl ⊢)
  (try dsimp only at hf0H2)
  (try dsimp only at hf1H2)
  have hsgeH2 := hS.1
  have hzH2 := hz0.at hAB hS
  have hjH2 := hj0.at hAB hS
  have hkmH2 := hf0H2
  have hmH2 := hmH1.kept hkmH2
  have hltH2 := hmH2.lt
  refine lv_iload_n hx hb dX3_digest_11 rfl (lv_at hl 1 rfl) ?_
  refine q_con hx hb dX3_digest_12 ?_
  refine q_cge (tgt := 35) hx hb dX3_digest_13 (by decide) (by omega) (by omega) (fun c3 => ?_) (fun c3 => ?_)
  · refine q_con hx hb dX3_digest_35 ?_
    refine lv_istore_n (lv' := [(3, .int (iI 0)), (1, .long (lL d1)), (0, .ref (w 0))]) hx hb dX3_digest_36 rfl hl (by decide) rfl (fun ls hl => ?_)
    refine w_loopH (nL := 10) (σ := Int × Int) (fun x => (6 - x.2).toNat) (fun x H1 locs1 c9 s9 => ((0 ≤ x.2 ∧ x.2 ≤ 6)) ∧ (∀ x : Nat, x < (H1).size → H1[x]? = (H1)[x]?) ∧ (H1).size ≤ H1.size ∧ va_S (fun x : Nat => (x = w 0 ∨ x = w 1 ∨ x = w 2) ∨ s.heap.size ≤ x) s.heap H1 locs1 ∧ c9 ≤ 4 + 59 * Int.toNat x.2 ∧ s9 ≤ 16 + 545 * Int.toNat x.2) (fun x => [(1, .long (lL x.1)), (3, .int (iI x.2)), (0, .ref (w 0))]) ?_ ((d1 : Int), (0 : Int)) ⟨(by first | ((try dsimp only); omega) | (dsimp only; done)), hkmH2, (by omega), hS, by (try dsimp only); omega, by (try dsimp only); omega⟩ (lv_sub hl [1, 0, 2] rfl)
    intro x H4 locs cells slots hJ37 ih37 ls hl
    obtain ⟨d2, pl⟩ := x
    obtain ⟨hI37, hf0H4, hf1H4, hS, hcH4, hsH4⟩ := hJ37
    (try dsimp only at hI37 hcH4 hsH4 ih37 hl ⊢)
    (try dsimp only at hf0H4)
    (try dsimp only at hf1H4)
    have hsgeH4 := hS.1
    have hzH4 := hz0.at hAB hS
    have hjH4 := hj0.at hAB hS
    have hkmH4 := hf0H4
    have hmH4 := hmH1.kept hkmH4
    have hltH4 := hmH4.lt
    refine lv_iload_n hx hb dX3_digest_37 rfl (lv_at hl 1 rfl) ?_
    refine q_bip hx hb dX3_digest_38 (by decide) ?_
    refine q_cge (tgt := 257) hx hb dX3_digest_40 (by decide) (by omega) (by omega) (fun c5 => ?_) (fun c5 => ?_)
    · refine q_con hx hb dX3_digest_257 ?_
      refine lv_istore_n (lv' := [(3, .int (iI 0)), (1, .long (lL d2)), (0, .ref (w 0))]) hx hb dX3_digest_258 rfl hl (by decide) rfl (fun ls hl => ?_)
      refine w_loopH (nL := 10) (σ := Int × Int) (fun x => (3 - x.2).toNat) (fun x H1 locs1 c9 s9 => ((0 ≤ x.2 ∧ x.2 ≤ 3)) ∧ (∀ x : Nat, x < (H1).size → H1[x]? = (H1)[x]?) ∧ (H1).size ≤ H1.size ∧ va_S (fun x : Nat => (x = w 0 ∨ x = w 1 ∨ x = w 2) ∨ s.heap.size ≤ x) s.heap H1 locs1 ∧ c9 ≤ 358 ∧ s9 ≤ 3286) (fun x => [(1, .long (lL x.1)), (3, .int (iI x.2)), (0, .ref (w 0))]) ?_ ((d2 : Int), (0 : Int)) ⟨(by first | ((try dsimp only); omega) | (dsimp only; done)), hkmH4, (by omega), hS, by (try dsimp only); omega, by (try dsimp only); omega⟩ (lv_sub hl [1, 0, 2] rfl)
      intro x H6 locs cells slots hJ259 ih259 ls hl
      obtain ⟨d4, sp⟩ := x
      obtain ⟨hI259, hf0H6, hf1H6, hS, hcH6, hsH6⟩ := hJ259
      (try dsimp only at hI259 hcH6 hsH6 ih259 hl ⊢)
      (try dsimp only at hf0H6)
      (try dsimp only at hf1H6)
      have hsgeH6 := hS.1
      have hzH6 := hz0.at hAB hS
      have hjH6 := hj0.at hAB hS
      have hkmH6 := hf0H6
      have hmH6 := hmH1.kept hkmH6
      have hltH6 := hmH6.lt
      refine lv_iload_n hx hb dX3_digest_259 rfl (lv_at hl 1 rfl) ?_
      refine q_con hx hb dX3_digest_260 ?_
      refine q_cge (tgt := 300) hx hb dX3_digest_261 (by decide) (by omega) (by omega) (fun c7 => ?_) (fun c7 => ?_)
      · refine lv_lload_n hx hb dX3_digest_300 rfl (lv_at hl 0 rfl) ?_
        refine q_ldc2 (n := 31) hx hb hown (hts _ k1627) (by decide) dX3_digest_301 ?_
        refine q_lmul hx hb dX3_digest_304 ?_
        refine q_lcon (z := 1) hx hb (by decide) dX3_digest_305 ?_
        refine q_ladd hx hb dX3_digest_306 ?_
        have hmw : MWR θ S0 w H6 r q dt sv 0 dn rf kn := ⟨hzH6, hu, hmH6, hd, hsv⟩
        exact e_l hx hb hr hlk hS dX3_digest_307 (by first | exact Nat.le_of_ble_eq_true rfl | ((try dsimp only); omega)) (by first | exact Nat.le_of_ble_eq_true rfl | ((try dsimp only); omega)) ⟨⟨_, rfl⟩, _, _, hmw⟩
      · refine q_con hx hb dX3_digest_264 ?_
        refine lv_istore (lv' := [(4, .int (iI 0)), (1, .long (lL d4)), (3, .int (iI sp)), (0, .ref (w 0))]) hx hb dX3_digest_265 hl (by decide) rfl (fun ls hl => ?_)
        refine w_loopH (nL := 10) (σ := Int × Int) (fun x => (4 - x.2).toNat) (fun x H1 locs1 c9 s9 => ((0 ≤ x.2 ∧ x.2 ≤ 4)) ∧ (∀ x : Nat, x < (H1).size → H1[x]? = (H1)[x]?) ∧ (H1).size ≤ H1.size ∧ va_S (fun x : Nat => (x = w 0 ∨ x = w 1 ∨ x = w 2) ∨ s.heap.size ≤ x) s.heap H1 locs1 ∧ c9 ≤ 358 ∧ s9 ≤ 3286) (fun x => [(1, .long (lL x.1)), (4, .int (iI x.2)), (3, .int (iI sp)), (0, .ref (w 0))]) ?_ ((d4 : Int), (0 : Int)) ⟨(by first | ((try dsimp only); omega) | (dsimp only; done)), hkmH6, (by omega), hS, by (try dsimp only); omega, by (try dsimp only); omega⟩ (lv_sub hl [1, 0, 2, 3] rfl)
        intro x H8 locs cells slots hJ267 ih267 ls hl
        obtain ⟨d5, wh⟩ := x
        obtain ⟨hI267, hf0H8, hf1H8, hS, hcH8, hsH8⟩ := hJ267
        (try dsimp only at hI267 hcH8 hsH8 ih267 hl ⊢)
        (try dsimp only at hf0H8)
        (try dsimp only at hf1H8)
        have hsgeH8 := hS.1
        have hzH8 := hz0.at hAB hS
        have hjH8 := hj0.at hAB hS
        have hkmH8 := hf0H8
        have hmH8 := hmH1.kept hkmH8
        have hltH8 := hmH8.lt
        refine lv_iload hx hb dX3_digest_267 (lv_at hl 1 rfl) ?_
        refine q_con hx hb dX3_digest_269 ?_
        refine q_cge (tgt := 294) hx hb dX3_digest_270 (by decide) (by omega) (by omega) (fun c9 => ?_) (fun c9 => ?_)
        · refine lv_iinc (v := iI (sp + 1)) (lv' := [(3, .int (iI (sp + 1))), (1, .long (lL d5)), (4, .int (iI wh)), (0, .ref (w 0))]) hx hb dX3_digest_294 hl (k := 2) rfl (iI_add _ _) (by decide) rfl (fun ls hl => ?_)
          refine lv_goto (tgt := 259) hx hb dX3_digest_297 (by decide) ?_
          exact ih259 ((d5 : Int), (sp + 1 : Int)) _ _ _ _ _ ⟨(by first | ((try dsimp only); omega) | (dsimp only; done)), hkmH8, (by omega), hS, by (try dsimp only); omega, by (try dsimp only); omega⟩ (by (try dsimp only); omega) (lv_sub hl [1, 0, 3] rfl)
        · refine lv_lload_n hx hb dX3_digest_273 rfl (lv_at hl 0 rfl) ?_
          refine q_ldc2 (n := 31) hx hb hown (hts _ k1627) (by decide) dX3_digest_274 ?_
          refine q_lmul hx hb dX3_digest_277 ?_
          refine lv_aload_n hx hb dX3_digest_278 rfl (lv_at hl 3 rfl) ?_
          refine lv_iload_n hx hb dX3_digest_279 rfl (lv_at hl 2 rfl) ?_
          refine lv_iload hx hb dX3_digest_280 (lv_at hl 1 rfl) ?_
          have hmw : MWR θ S0 w H8 r q dt sv 0 dn rf kn := ⟨hzH8, hu, hmH8, hd, hsv⟩
          refine c_HV (As := [.int (iI sp), .int (iI wh)]) (rest := [.long (lL (d5 * 31))]) (b := w 0) (C := RX3) fx hl (mr_spanNow θ l S0 _ w _ _ _ _ _ _ _ _ hmw sp wh (by omega) (by omega)) (ob_recv hK hmH8.1 rfl) dX3_digest_282 k1254 k1256 ks16 k6 k1257 hd_X3_spanNow rfl ⟨by decide, by decide⟩ (Nat.le_of_ble_eq_true rfl) ⟨by dsimp only; omega, by dsimp only; omega⟩ ?_
          refine q_nm (fun z10 ez10 => ?_)
          refine q_any (fun z11 bz11 => ?_)
          refine q_i2l hx hb dX3_digest_285 (by omega) ?_
          refine q_ladd hx hb dX3_digest_286 ?_
          refine q_nml (fun z12 ez12 => ?_)
          refine lv_lstore_n (lv' := [(1, .long (lL z12)), (4, .int (iI wh)), (3, .int (iI sp)), (0, .ref (w 0))]) hx hb dX3_digest_287 rfl hl (by decide) rfl (fun ls hl => ?_)
          refine lv_iinc (v := iI (wh + 1)) (lv' := [(4, .int (iI (wh + 1))), (1, .long (lL z12)), (3, .int (iI sp)), (0, .ref (w 0))]) hx hb dX3_digest_288 hl (k := 1) rfl (iI_add _ _) (by decide) rfl (fun ls hl => ?_)
          refine lv_goto (tgt := 267) hx hb dX3_digest_291 (by decide) ?_
          exact ih267 ((z12 : Int), (wh + 1 : Int)) _ _ _ _ _ ⟨(by first | ((try dsimp only); omega) | (dsimp only; done)), hkmH8, (by omega), hS, by (try dsimp only); omega, by (try dsimp only); omega⟩ (by (try dsimp only); omega) (lv_sub hl [1, 0, 2, 3] rfl)
    · refine lv_iload_n hx hb dX3_digest_43 rfl (lv_at hl 1 rfl) ?_
      refine q_con hx hb dX3_digest_44 ?_
      refine q_add hx hb dX3_digest_45 ?_
      refine q_bip hx hb dX3_digest_46 (by decide) ?_
      refine q_rem hx hb dX3_digest_48 (by omega) (by omega) ?_
      refine q_nm (fun z13 ez13 => ?_)
      have fz13 : 0 ≤ (pl + 1) → z13 = (pl + 1) % 6 := fun h => by rw [ez13, tdiv_pos h (by omega)]; omega
      have gz13 : (pl + 1) < 0 → z13 = -((-(pl + 1)) % 6) := fun h => by rw [ez13, tdiv_neg' h]; omega
      clear ez13
      refine lv_istore (lv' := [(4, .int (iI z13)), (1, .long (lL d2)), (3, .int (iI pl)), (0, .ref (w 0))]) hx hb dX3_digest_49 hl (by decide) rfl (fun ls hl => ?_)
      refine q_bip hx hb dX3_digest_51 (by decide) ?_
      refine r_newI (θ := θ) hx hb hts hK k71 hS (by omega) (by (try dsimp only); omega) (by (try dsimp only); omega) dX3_digest_53 (fun H14 haH14 hszH14 hkH14 hS => ?_)
      have hzH14 := hz0.at hAB hS
      have hjH14 := hj0.at hAB hS
      have hkmH14 : ∀ x : Nat, x < (H1).size → H14[x]? = (H1)[x]? := fun x hx => (hkH14 x (by omega)).trans (hkmH4 x hx)
      have hmH14 := hmH1.kept hkmH14
      have hltH14 := hmH14.lt
      have lnH14 := haH14.lt
      refine lv_dup hx hb dX3_digest_55 rfl ?_
      refine q_con hx hb dX3_digest_56 ?_
      refine lv_aload_n hx hb dX3_digest_57 rfl (lv_at hl 3 rfl) ?_
      refine lv_iload_n hx hb dX3_digest_58 rfl (lv_at hl 2 rfl) ?_
      have hmw : MWR θ S0 w H14 r q dt sv 0 dn rf kn := ⟨hzH14, hu, hmH14, hd, hsv⟩
      refine c_HV (As := [.int (iI pl)]) (rest := [.int (iI 0), .ref H4.size, .ref H4.size]) (b := w 0) (C := RX3) fx hl (mr_became θ l S0 _ w _ _ _ _ _ _ _ _ hmw pl (by omega)) (ob_recv hK hmH14.1 rfl) dX3_digest_59 k1141 k1143 ks12 k6 k1144 hd_X3_became rfl ⟨by decide, by decide⟩ (Nat.le_of_ble_eq_true rfl) ⟨by dsimp only; omega, by dsimp only; omega⟩ ?_
      have t0z15 := hd pl.toNat (by omega)
      refine r_iast (θ := θ) (a := H4.size) hx hb hK haH14 (hAn _ (by omega)) hS (i := 0) (x := dt pl.toNat) (by omega) (by decide) dX3_digest_62 (fun H16 locs haH16 hszH16 hkH16 hS => ?_)
      obtain ⟨gH16, hrH16⟩ : ∃ g : Nat → Int, AI θ H16 H4.size 13 g := ⟨_, haH16⟩
      have hzH16 := hz0.at hAB hS
      have hjH16 := hj0.at hAB hS
      have hkmH16 : ∀ x : Nat, x < (H1).size → H16[x]? = (H1)[x]? := fun x hx => (hkH16 x (by omega)).trans (hkmH14 x hx)
      have hmH16 := hmH1.kept hkmH16
      have hltH16 := hmH16.lt
      have lnH16 := hrH16.lt
      refine lv_dup hx hb dX3_digest_63 rfl ?_
      refine q_con hx hb dX3_digest_64 ?_
      refine lv_aload_n hx hb dX3_digest_65 rfl (lv_at hl 3 rfl) ?_
      refine r_get (θ := θ) (C := RX3) (T := TX3) (N := 6) (ci := 9) hx hb hts gwX3 hown hK hmH16.1 rfl 4 (by decide) k1094 (fun _ h => h) (v := .ref (w 1)) rfl dX3_digest_66 ?_
      refine lv_iload_n hx hb dX3_digest_69 rfl (lv_at hl 2 rfl) ?_
      refine r_aald (θ := θ) hx hb hK hmH16.2.1 (i := pl) (by omega) (by decide) dX3_digest_70 ?_
      have rw17 := (hmH16.2.2.2.1 (pl.toNat) (by omega)).1
      have rw17n := (hmH16.2.2.2.1 (pl.toNat) (by omega)).2
      have rw17t := hd (pl.toNat) (by omega)
      have rw17l := rw17.lt
      have rw17i := inR rw17t
      have rw17m := inM rw17i
      have rw17d := dI_b (dt pl.toNat)
      refine q_con hx hb dX3_digest_71 ?_
      refine r_iald (θ := θ) hx hb hK rw17 (i := 0) (by omega) (by decide) dX3_digest_72 ?_
      refine q_as (mI (dt pl.toNat)) rfl ?_
      refine r_iast (θ := θ) (a := H4.size) hx hb hK hrH16 (hAn _ (by omega)) hS (i := 1) (x := mI (dt pl.toNat)) (by omega) (by decide) dX3_digest_73 (fun H18 locs haH18 hszH18 hkH18 hS => ?_)
      obtain ⟨gH18, hrH18⟩ : ∃ g : Nat → Int, AI θ H18 H4.size 13 g := ⟨_, haH18⟩
      have hzH18 := hz0.at hAB hS
      have hjH18 := hj0.at hAB hS
      have hkmH18 : ∀ x : Nat, x < (H1).size → H18[x]? = (H1)[x]? := fun x hx => (hkH18 x (by omega)).trans (hkmH16 x hx)
      have hmH18 := hmH1.kept hkmH18
      have hltH18 := hmH18.lt
      have lnH18 := hrH18.lt
      refine lv_dup hx hb dX3_digest_74 rfl ?_
      refine q_con hx hb dX3_digest_75 ?_
      refine lv_aload_n hx hb dX3_digest_76 rfl (lv_at hl 3 rfl) ?_
      refine r_get (θ := θ) (C := RX3) (T := TX3) (N := 6) (ci := 9) hx hb hts gwX3 hown hK hmH18.1 rfl 4 (by decide) k1094 (fun _ h => h) (v := .ref (w 1)) rfl dX3_digest_77 ?_
      refine lv_iload_n hx hb dX3_digest_80 rfl (lv_at hl 2 rfl) ?_
      refine r_aald (θ := θ) hx hb hK hmH18.2.1 (i := pl) (by omega) (by decide) dX3_digest_81 ?_
      have rw19 := (hmH18.2.2.2.1 (pl.toNat) (by omega)).1
      have rw19n := (hmH18.2.2.2.1 (pl.toNat) (by omega)).2
      have rw19t := hd (pl.toNat) (by omega)
      have rw19l := rw19.lt
      have rw19i := inR rw19t
      have rw19m := inM rw19i
      have rw19d := dI_b (dt pl.toNat)
      refine q_con hx hb dX3_digest_82 ?_
      refine r_iald (θ := θ) hx hb hK rw19 (i := 1) (by omega) (by decide) dX3_digest_83 ?_
      refine q_as (dI (dt pl.toNat)) rfl ?_
      refine r_iast (θ := θ) (a := H4.size) hx hb hK hrH18 (hAn _ (by omega)) hS (i := 2) (x := dI (dt pl.toNat)) (by omega) (by decide) dX3_digest_84 (fun H20 locs haH20 hszH20 hkH20 hS => ?_)
      obtain ⟨gH20, hrH20⟩ : ∃ g : Nat → Int, AI θ H20 H4.size 13 g := ⟨_, haH20⟩
      have hzH20 := hz0.at hAB hS
      have hjH20 := hj0.at hAB hS
      have hkmH20 : ∀ x : Nat, x < (H1).size → H20[x]? = (H1)[x]? := fun x hx => (hkH20 x (by omega)).trans (hkmH18 x hx)
      have hmH20 := hmH1.kept hkmH20
      have hltH20 := hmH20.lt
      have lnH20 := hrH20.lt
      refine lv_dup hx hb dX3_digest_85 rfl ?_
      refine q_con hx hb dX3_digest_86 ?_
      refine lv_aload_n hx hb dX3_digest_87 rfl (lv_at hl 3 rfl) ?_
      refine lv_iload_n hx hb dX3_digest_88 rfl (lv_at hl 2 rfl) ?_
      have hmw : MWR θ S0 w H20 r q dt sv 0 dn rf kn := ⟨hzH20, hu, hmH20, hd, hsv⟩
      refine c_HV (As := [.int (iI pl)]) (rest := [.int (iI 3), .ref H4.size, .ref H4.size]) (b := w 0) (C := RX3) fx hl (mr_became θ l S0 _ w _ _ _ _ _ _ _ _ hmw pl (by omega)) (ob_recv hK hmH20.1 rfl) dX3_digest_89 k1141 k1143 ks12 k6 k1144 hd_X3_became rfl ⟨by decide, by decide⟩ (Nat.le_of_ble_eq_true rfl) ⟨by dsimp only; omega, by dsimp only; omega⟩ ?_
      have t0z21 := hd pl.toNat (by omega)
      refine c_P (As := [.int (iI (dt pl.toNat))]) (rest := [.int (iI 3), .ref H4.size, .ref H4.size]) fx hl (pm_X3_weekdayOf l (dt pl.toNat) (by omega)) dX3_digest_92 k1149 k1150 k6 k1151 hd_X3_weekdayOf rfl ⟨by decide, by decide⟩ (Nat.le_of_ble_eq_true rfl) ⟨by (try dsimp only); omega, by (try dsimp only); omega⟩ ?_
      have t0z22 := wI_b (dt pl.toNat)
      refine r_iast (θ := θ) (a := H4.size) hx hb hK hrH20 (hAn _ (by omega)) hS (i := 3) (x := wI (dt pl.toNat)) (by omega) (by decide) dX3_digest_95 (fun H23 locs haH23 hszH23 hkH23 hS => ?_)
      obtain ⟨gH23, hrH23⟩ : ∃ g : Nat → Int, AI θ H23 H4.size 13 g := ⟨_, haH23⟩
      have hzH23 := hz0.at hAB hS
      have hjH23 := hj0.at hAB hS
      have hkmH23 : ∀ x : Nat, x < (H1).size → H23[x]? = (H1)[x]? := fun x hx => (hkH23 x (by omega)).trans (hkmH20 x hx)
      have hmH23 := hmH1.kept hkmH23
      have hltH23 := hmH23.lt
      have lnH23 := hrH23.lt
      refine lv_dup hx hb dX3_digest_96 rfl ?_
      refine q_con hx hb dX3_digest_97 ?_
      refine lv_aload_n hx hb dX3_digest_98 rfl (lv_at hl 3 rfl) ?_
      refine lv_iload_n hx hb dX3_digest_99 rfl (lv_at hl 2 rfl) ?_
      have hmw : MWR θ S0 w H23 r q dt sv 0 dn rf kn := ⟨hzH23, hu, hmH23, hd, hsv⟩
      refine c_HV (As := [.int (iI pl)]) (rest := [.int (iI 4), .ref H4.size, .ref H4.size]) (b := w 0) (C := RX3) fx hl (mr_dayOfYearNow θ l S0 _ w _ _ _ _ _ _ _ _ hmw pl (by omega)) (ob_recv hK hmH23.1 rfl) dX3_digest_100 k1564 k1566 ks30 k6 k1567 hd_X3_dayOfYearNow rfl ⟨by decide, by decide⟩ (Nat.le_of_ble_eq_true rfl) ⟨by dsimp only; omega, by dsimp only; omega⟩ ?_
      refine q_nm (fun z24 ez24 => ?_)
      refine r_iast (θ := θ) (a := H4.size) hx hb hK hrH23 (hAn _ (by omega)) hS (i := 4) (x := z24) (by omega) (by decide) dX3_digest_103 (fun H25 locs haH25 hszH25 hkH25 hS => ?_)
      obtain ⟨gH25, hrH25⟩ : ∃ g : Nat → Int, AI θ H25 H4.size 13 g := ⟨_, haH25⟩
      have hzH25 := hz0.at hAB hS
      have hjH25 := hj0.at hAB hS
      have hkmH25 : ∀ x : Nat, x < (H1).size → H25[x]? = (H1)[x]? := fun x hx => (hkH25 x (by omega)).trans (hkmH23 x hx)
      have hmH25 := hmH1.kept hkmH25
      have hltH25 := hmH25.lt
      have lnH25 := hrH25.lt
      refine lv_dup hx hb dX3_digest_104 rfl ?_
      refine q_con hx hb dX3_digest_105 ?_
      refine lv_aload_n hx hb dX3_digest_106 rfl (lv_at hl 3 rfl) ?_
      refine r_get (θ := θ) (C := RX3) (T := TX3) (N := 6) (ci := 9) hx hb hts gwX3 hown hK hmH25.1 rfl 4 (by decide) k1094 (fun _ h => h) (v := .ref (w 1)) rfl dX3_digest_107 ?_
      refine lv_iload_n hx hb dX3_digest_110 rfl (lv_at hl 2 rfl) ?_
      refine r_aald (θ := θ) hx hb hK hmH25.2.1 (i := pl) (by omega) (by decide) dX3_digest_111 ?_
      have rw26 := (hmH25.2.2.2.1 (pl.toNat) (by omega)).1
      have rw26n := (hmH25.2.2.2.1 (pl.toNat) (by omega)).2
      have rw26t := hd (pl.toNat) (by omega)
      have rw26l := rw26.lt
      have rw26i := inR rw26t
      have rw26m := inM rw26i
      have rw26d := dI_b (dt pl.toNat)
      refine q_con hx hb dX3_digest_112 ?_
      refine r_iald (θ := θ) hx hb hK rw26 (i := 0) (by omega) (by decide) dX3_digest_113 ?_
      refine q_as (mI (dt pl.toNat)) rfl ?_
      refine c_H (As := [.int (iI (mI (dt pl.toNat)))]) (rest := [.int (iI 5), .ref H4.size, .ref H4.size]) fx hl (pm_X3_length θ l S0 _ hzH25 (mI (dt pl.toNat)) (by omega)) dX3_digest_114 k1085 k1086 k6 k1087 hd_X3_length rfl ⟨by decide, by decide⟩ (Nat.le_of_ble_eq_true rfl) ⟨by dsimp only; omega, by dsimp only; omega⟩ ?_
      refine q_nm (fun z27 ez27 => ?_)
      have t0z27 := len_b (mI (dt pl.toNat))
      refine r_iast (θ := θ) (a := H4.size) hx hb hK hrH25 (hAn _ (by omega)) hS (i := 5) (x := z27) (by omega) (by decide) dX3_digest_117 (fun H28 locs haH28 hszH28 hkH28 hS => ?_)
      obtain ⟨gH28, hrH28⟩ : ∃ g : Nat → Int, AI θ H28 H4.size 13 g := ⟨_, haH28⟩
      have hzH28 := hz0.at hAB hS
      have hjH28 := hj0.at hAB hS
      have hkmH28 : ∀ x : Nat, x < (H1).size → H28[x]? = (H1)[x]? := fun x hx => (hkH28 x (by omega)).trans (hkmH25 x hx)
      have hmH28 := hmH1.kept hkmH28
      have hltH28 := hmH28.lt
      have lnH28 := hrH28.lt
      refine lv_dup hx hb dX3_digest_118 rfl ?_
      refine q_bip hx hb dX3_digest_119 (by decide) ?_
      refine lv_aload_n hx hb dX3_digest_121 rfl (lv_at hl 3 rfl) ?_
      refine r_get (θ := θ) (C := RX3) (T := TX3) (N := 6) (ci := 9) hx hb hts gwX3 hown hK hmH28.1 rfl 4 (by decide) k1094 (fun _ h => h) (v := .ref (w 1)) rfl dX3_digest_122 ?_
      refine lv_iload_n hx hb dX3_digest_125 rfl (lv_at hl 2 rfl) ?_
      refine r_aald (θ := θ) hx hb hK hmH28.2.1 (i := pl) (by omega) (by decide) dX3_digest_126 ?_
      have rw29 := (hmH28.2.2.2.1 (pl.toNat) (by omega)).1
      have rw29n := (hmH28.2.2.2.1 (pl.toNat) (by omega)).2
      have rw29t := hd (pl.toNat) (by omega)
      have rw29l := rw29.lt
      have rw29i := inR rw29t
      have rw29m := inM rw29i
      have rw29d := dI_b (dt pl.toNat)
      refine q_con hx hb dX3_digest_127 ?_
      refine r_iald (θ := θ) hx hb hK rw29 (i := 0) (by omega) (by decide) dX3_digest_128 ?_
      refine q_as (mI (dt pl.toNat)) rfl ?_
      refine q_bip hx hb dX3_digest_129 (by decide) ?_
      refine c_P (As := [.int (iI (mI (dt pl.toNat))), .int (iI 12)]) (rest := [.int (iI 6), .ref H4.size, .ref H4.size]) fx hl (pm_X3_down l (mI (dt pl.toNat)) 12 (by omega) (by omega)) dX3_digest_131 k1073 k1074 k6 k1075 hd_X3_down rfl ⟨by decide, by decide⟩ (Nat.le_of_ble_eq_true rfl) ⟨by (try dsimp only); omega, by (try dsimp only); omega⟩ ?_
      refine q_nm (fun z30 ez30 => ?_)
      obtain ⟨r31, hr31⟩ := bex (lpI z30)
      refine c_P (As := [.int (iI z30)]) (rest := [.int (iI 6), .ref H4.size, .ref H4.size]) fx hl (pm_X3_isLeap l z30 r31 hr31 (by omega)) dX3_digest_134 k1079 k1080 k6 k1081 hd_X3_isLeap rfl ⟨by decide, by decide⟩ (Nat.le_of_ble_eq_true rfl) ⟨by (try dsimp only); omega, by (try dsimp only); omega⟩ ?_
      have br31 : r31 = 0 ∨ r31 = 1 := hr31.elim (fun h => Or.inr h.1) (fun h => Or.inl h.1)
      refine c_P (As := [.int (iI r31)]) (rest := [.int (iI 6), .ref H4.size, .ref H4.size]) fx hl (pm_X3_one l r31 (by omega)) dX3_digest_137 k1239 k1240 k6 k1241 hd_X3_one rfl ⟨by decide, by decide⟩ (Nat.le_of_ble_eq_true rfl) ⟨by (try dsimp only); omega, by (try dsimp only); omega⟩ ?_
      refine r_iast (θ := θ) (a := H4.size) hx hb hK hrH28 (hAn _ (by omega)) hS (i := 6) (x := r31) (by omega) (by decide) dX3_digest_140 (fun H33 locs haH33 hszH33 hkH33 hS => ?_)
      obtain ⟨gH33, hrH33⟩ : ∃ g : Nat → Int, AI θ H33 H4.size 13 g := ⟨_, haH33⟩
      have hzH33 := hz0.at hAB hS
      have hjH33 := hj0.at hAB hS
      have hkmH33 : ∀ x : Nat, x < (H1).size → H33[x]? = (H1)[x]? := fun x hx => (hkH33 x (by omega)).trans (hkmH28 x hx)
      have hmH33 := hmH1.kept hkmH33
      have hltH33 := hmH33.lt
      have lnH33 := hrH33.lt
      refine lv_dup hx hb dX3_digest_141 rfl ?_
      refine q_bip hx hb dX3_digest_142 (by decide) ?_
      refine lv_aload_n hx hb dX3_digest_144 rfl (lv_at hl 3 rfl) ?_
      refine lv_iload_n hx hb dX3_digest_145 rfl (lv_at hl 2 rfl) ?_
      have hmw : MWR θ S0 w H33 r q dt sv 0 dn rf kn := ⟨hzH33, hu, hmH33, hd, hsv⟩
      refine c_ME (As := [.int (iI pl)]) (rest := [.int (iI 7), .ref H4.size, .ref H4.size]) (b := w 0) (C := RX3) fx hl (jp_textNow θ l S0 _ w _ _ _ _ _ _ _ _ hmw hjH33 pl (by omega)) (ob_recv hK hmH33.1 rfl) dX3_digest_146 k1584 k1586 ks31 k6 k1587 hd_X3_textNow rfl ⟨by decide, by decide⟩ (Nat.le_of_ble_eq_true rfl) ⟨by (try dsimp only); omega, by (try dsimp only); omega⟩ hS (fun x hx => hAn x (Nat.le_trans hS.1 hx)) (fun x35 H34 locs hpH34 hszH34 hk0H34 hS => ?_)
      obtain ⟨hx36, y37, hy38, hq39⟩ := hpH34
      have hkH34 : ∀ q : Nat, q < (H33).size → H34[q]? = (H33)[q]? := fun q hq => hk0H34 q hq (Nat.not_le.mpr hq)
      have hrH33_H34 := hrH33.kept (hkH34 _ hrH33.lt)
      have hzH34 := hz0.at hAB hS
      have hjH34 := hj0.at hAB hS
      have hkmH34 : ∀ x : Nat, x < (H1).size → H34[x]? = (H1)[x]? := fun x hx => (hkH34 x (by omega)).trans (hkmH33 x hx)
      have hmH34 := hmH1.kept hkmH34
      have hltH34 := hmH34.lt
      obtain ⟨tnx35, etnx35⟩ : ∃ z : Nat, z = (if mI (dt pl.toNat) / 12 < 0 then 11 else 10) := ⟨_, rfl⟩
      have btnx35 : tnx35 ≤ 11 := by rw [etnx35]; split <;> omega
      have hstx35 : STg S0 H34 x35 y37 tnx35 := by rw [etnx35]; exact hq39
      have lstx35 := hstx35.lt
      refine c_Vr (C := "java/lang/String") (As := []) (rest := [.int (iI 7), .ref H4.size, .ref H4.size]) (r := some (.int (iI (tnx35 : Int)))) (st1 := [.int (iI (tnx35 : Int)), .int (iI 7), .ref H4.size, .ref H4.size]) fx hl (jm_length θ l S0 _ hzH34 hjH34 x35 y37 tnx35 hstx35 (by omega)) (o_recv fx.2 hstx35.1) dX3_digest_149 k1592 k415 k416 k4 k417 hd_J0_length_8abf5 rfl rfl ⟨by decide, by decide⟩ (Nat.le_of_ble_eq_true rfl) ⟨by (try dsimp only); omega, by (try dsimp only); omega⟩ hS (fun x hx => by first | exact hx.elim | ((try dsimp only at hx ⊢); omega)) (fun H40 locs hpH40 hsz0H40 hk0H40 hS => ?_)
      obtain rfl := hpH40.symm
      refine q_nm (fun z41 ez41 => ?_)
      refine r_iast (θ := θ) (a := H4.size) hx hb hK hrH33_H34 (hAn _ (by omega)) hS (i := 7) (x := z41) (by omega) (by decide) dX3_digest_152 (fun H42 locs haH42 hszH42 hkH42 hS => ?_)
      obtain ⟨gH42, hrH42⟩ : ∃ g : Nat → Int, AI θ H42 H4.size 13 g := ⟨_, haH42⟩
      have hstx35_H42 := hstx35.kept (hkH42 _ (by omega)) (hkH42 _ (by omega))
      have hzH42 := hz0.at hAB hS
      have hjH42 := hj0.at hAB hS
      have hkmH42 : ∀ x : Nat, x < (H1).size → H42[x]? = (H1)[x]? := fun x hx => (hkH42 x (by omega)).trans (hkmH34 x hx)
      have hmH42 := hmH1.kept hkmH42
      have hltH42 := hmH42.lt
      have lnH42 := hrH42.lt
      refine lv_dup hx hb dX3_digest_153 rfl ?_
      refine q_bip hx hb dX3_digest_154 (by decide) ?_
      refine lv_aload_n hx hb dX3_digest_156 rfl (lv_at hl 3 rfl) ?_
      refine lv_iload_n hx hb dX3_digest_157 rfl (lv_at hl 2 rfl) ?_
      refine q_con hx hb dX3_digest_158 ?_
      have hmw : MWR θ S0 w H42 r q dt sv 0 dn rf kn := ⟨hzH42, hu, hmH42, hd, hsv⟩
      refine c_M (w := w) (As := [.int (iI pl), .int (iI 1)]) (rest := [.int (iI 8), .ref H4.size, .ref H4.size]) (b := w 0) (C := RX3) fx hl (ma_lossNow θ l S0 _ w _ _ _ _ _ _ _ _ hmw pl 1 (by omega) (by omega)) (ob_recv hK hmH42.1 rfl) dX3_digest_159 k1266 k1268 ks18 k6 k1269 hd_X3_lossNow rfl ⟨by decide, by decide⟩ (Nat.le_of_ble_eq_true rfl) ⟨by dsimp only; omega, by dsimp only; omega⟩ hS (fun x hx => hAn x (Nat.le_trans hS.1 hx)) (fun H43 locs _ hszH43 hk0H43 hS => ?_)
      have hkH43 : ∀ x : Nat, x < (H42).size → H43[x]? = (H42)[x]? := fun x hx => hk0H43 x hx (Nat.not_le.mpr hx)
      have hstx35_H43 := hstx35_H42.kept (hkH43 _ hstx35_H42.lt.1) (hkH43 _ hstx35_H42.lt.2)
      have hrH42_H43 := hrH42.kept (hkH43 _ hrH42.lt)
      have hzH43 := hz0.at hAB hS
      have hjH43 := hj0.at hAB hS
      have hkmH43 : ∀ x : Nat, x < (H1).size → H43[x]? = (H1)[x]? := fun x hx => (hkH43 x (by omega)).trans (hkmH42 x hx)
      have hmH43 := hmH1.kept hkmH43
      have hltH43 := hmH43.lt
      have hltH43 := hmH43.lt
      refine q_nm (fun z44 ez44 => ?_)
      have t0z44 := dI_b (dt pl.toNat)
      have t1z44 := dI_b (shI (dt pl.toNat) 1)
      refine r_iast (θ := θ) (a := H4.size) hx hb hK hrH42_H43 (hAn _ (by omega)) hS (i := 8) (x := z44) (by omega) (by decide) dX3_digest_162 (fun H45 locs haH45 hszH45 hkH45 hS => ?_)
      obtain ⟨gH45, hrH45⟩ : ∃ g : Nat → Int, AI θ H45 H4.size 13 g := ⟨_, haH45⟩
      have hstx35_H45 := hstx35_H43.kept (hkH45 _ (by omega)) (hkH45 _ (by omega))
      have hzH45 := hz0.at hAB hS
      have hjH45 := hj0.at hAB hS
      have hkmH45 : ∀ x : Nat, x < (H1).size → H45[x]? = (H1)[x]? := fun x hx => (hkH45 x (by omega)).trans (hkmH43 x hx)
      have hmH45 := hmH1.kept hkmH45
      have hltH45 := hmH45.lt
      have lnH45 := hrH45.lt
      refine lv_dup hx hb dX3_digest_163 rfl ?_
      refine q_bip hx hb dX3_digest_164 (by decide) ?_
      refine lv_aload_n hx hb dX3_digest_166 rfl (lv_at hl 3 rfl) ?_
      refine lv_iload_n hx hb dX3_digest_167 rfl (lv_at hl 2 rfl) ?_
      refine q_con hx hb dX3_digest_168 ?_
      have hmw : MWR θ S0 w H45 r q dt sv 0 dn rf kn := ⟨hzH45, hu, hmH45, hd, hsv⟩
      refine c_M (w := w) (As := [.int (iI pl), .int (iI (-1))]) (rest := [.int (iI 9), .ref H4.size, .ref H4.size]) (b := w 0) (C := RX3) fx hl (ma_lossNow θ l S0 _ w _ _ _ _ _ _ _ _ hmw pl (-1) (by omega) (by omega)) (ob_recv hK hmH45.1 rfl) dX3_digest_169 k1266 k1268 ks18 k6 k1269 hd_X3_lossNow rfl ⟨by decide, by decide⟩ (Nat.le_of_ble_eq_true rfl) ⟨by dsimp only; omega, by dsimp only; omega⟩ hS (fun x hx => hAn x (Nat.le_trans hS.1 hx)) (fun H46 locs _ hszH46 hk0H46 hS => ?_)
      have hkH46 : ∀ x : Nat, x < (H45).size → H46[x]? = (H45)[x]? := fun x hx => hk0H46 x hx (Nat.not_le.mpr hx)
      have hstx35_H46 := hstx35_H45.kept (hkH46 _ hstx35_H45.lt.1) (hkH46 _ hstx35_H45.lt.2)
      have hrH45_H46 := hrH45.kept (hkH46 _ hrH45.lt)
      have hzH46 := hz0.at hAB hS
      have hjH46 := hj0.at hAB hS
      have hkmH46 : ∀ x : Nat, x < (H1).size → H46[x]? = (H1)[x]? := fun x hx => (hkH46 x (by omega)).trans (hkmH45 x hx)
      have hmH46 := hmH1.kept hkmH46
      have hltH46 := hmH46.lt
      have hltH46 := hmH46.lt
      refine q_nm (fun z47 ez47 => ?_)
      have t0z47 := dI_b (dt pl.toNat)
      have t1z47 := dI_b (shI (dt pl.toNat) (-1))
      refine r_iast (θ := θ) (a := H4.size) hx hb hK hrH45_H46 (hAn _ (by omega)) hS (i := 9) (x := z47) (by omega) (by decide) dX3_digest_172 (fun H48 locs haH48 hszH48 hkH48 hS => ?_)
      obtain ⟨gH48, hrH48⟩ : ∃ g : Nat → Int, AI θ H48 H4.size 13 g := ⟨_, haH48⟩
      have hstx35_H48 := hstx35_H46.kept (hkH48 _ (by omega)) (hkH48 _ (by omega))
      have hzH48 := hz0.at hAB hS
      have hjH48 := hj0.at hAB hS
      have hkmH48 : ∀ x : Nat, x < (H1).size → H48[x]? = (H1)[x]? := fun x hx => (hkH48 x (by omega)).trans (hkmH46 x hx)
      have hmH48 := hmH1.kept hkmH48
      have hltH48 := hmH48.lt
      have lnH48 := hrH48.lt
      refine lv_dup hx hb dX3_digest_173 rfl ?_
      refine q_bip hx hb dX3_digest_174 (by decide) ?_
      refine lv_aload_n hx hb dX3_digest_176 rfl (lv_at hl 3 rfl) ?_
      refine lv_iload_n hx hb dX3_digest_177 rfl (lv_at hl 2 rfl) ?_
      refine q_con hx hb dX3_digest_178 ?_
      refine q_bip hx hb dX3_digest_179 (by decide) ?_
      have hmw : MWR θ S0 w H48 r q dt sv 0 dn rf kn := ⟨hzH48, hu, hmH48, hd, hsv⟩
      refine c_M (w := w) (As := [.int (iI pl), .int (iI 1), .int (iI 30)]) (rest := [.int (iI 10), .ref H4.size, .ref H4.size]) (b := w 0) (C := RX3) fx hl (ma_gapNow θ l S0 _ w _ _ _ _ _ _ _ _ hmw pl 1 30 (by omega) (by omega) (by omega)) (ob_recv hK hmH48.1 rfl) dX3_digest_181 k1288 k1290 ks19 k6 k1291 hd_X3_gapNow rfl ⟨by decide, by decide⟩ (Nat.le_of_ble_eq_true rfl) ⟨by dsimp only; omega, by dsimp only; omega⟩ hS (fun x hx => hAn x (Nat.le_trans hS.1 hx)) (fun H49 locs _ hszH49 hk0H49 hS => ?_)
      have hkH49 : ∀ x : Nat, x < (H48).size → H49[x]? = (H48)[x]? := fun x hx => hk0H49 x hx (Nat.not_le.mpr hx)
      have hstx35_H49 := hstx35_H48.kept (hkH49 _ hstx35_H48.lt.1) (hkH49 _ hstx35_H48.lt.2)
      have hrH48_H49 := hrH48.kept (hkH49 _ hrH48.lt)
      have hzH49 := hz0.at hAB hS
      have hjH49 := hj0.at hAB hS
      have hkmH49 : ∀ x : Nat, x < (H1).size → H49[x]? = (H1)[x]? := fun x hx => (hkH49 x (by omega)).trans (hkmH48 x hx)
      have hmH49 := hmH1.kept hkmH49
      have hltH49 := hmH49.lt
      have hltH49 := hmH49.lt
      refine q_nm (fun z50 ez50 => ?_)
      refine r_iast (θ := θ) (a := H4.size) hx hb hK hrH48_H49 (hAn _ (by omega)) hS (i := 10) (x := z50) (by omega) (by decide) dX3_digest_184 (fun H51 locs haH51 hszH51 hkH51 hS => ?_)
      obtain ⟨gH51, hrH51⟩ : ∃ g : Nat → Int, AI θ H51 H4.size 13 g := ⟨_, haH51⟩
      have hstx35_H51 := hstx35_H49.kept (hkH51 _ (by omega)) (hkH51 _ (by omega))
      have hzH51 := hz0.at hAB hS
      have hjH51 := hj0.at hAB hS
      have hkmH51 : ∀ x : Nat, x < (H1).size → H51[x]? = (H1)[x]? := fun x hx => (hkH51 x (by omega)).trans (hkmH49 x hx)
      have hmH51 := hmH1.kept hkmH51
      have hltH51 := hmH51.lt
      have lnH51 := hrH51.lt
      refine lv_dup hx hb dX3_digest_185 rfl ?_
      refine q_bip hx hb dX3_digest_186 (by decide) ?_
      refine lv_aload_n hx hb dX3_digest_188 rfl (lv_at hl 3 rfl) ?_
      refine lv_iload_n hx hb dX3_digest_189 rfl (lv_at hl 2 rfl) ?_
      refine lv_iload hx hb dX3_digest_190 (lv_at hl 0 rfl) ?_
      have hmw : MWR θ S0 w H51 r q dt sv 0 dn rf kn := ⟨hzH51, hu, hmH51, hd, hsv⟩
      refine c_HV (As := [.int (iI pl), .int (iI z13)]) (rest := [.int (iI 11), .ref H4.size, .ref H4.size]) (b := w 0) (C := RX3) fx hl (mr_order θ l S0 _ w _ _ _ _ _ _ _ _ hmw pl z13 (by omega) (by omega)) (ob_recv hK hmH51.1 rfl) dX3_digest_192 k1598 k1600 ks32 k6 k1601 hd_X3_order rfl ⟨by decide, by decide⟩ (Nat.le_of_ble_eq_true rfl) ⟨by dsimp only; omega, by dsimp only; omega⟩ ?_
      refine q_nm (fun z52 ez52 => ?_)
      refine r_iast (θ := θ) (a := H4.size) hx hb hK hrH51 (hAn _ (by omega)) hS (i := 11) (x := z52) (by omega) (by decide) dX3_digest_195 (fun H53 locs haH53 hszH53 hkH53 hS => ?_)
      obtain ⟨gH53, hrH53⟩ : ∃ g : Nat → Int, AI θ H53 H4.size 13 g := ⟨_, haH53⟩
      have hstx35_H53 := hstx35_H51.kept (hkH53 _ (by omega)) (hkH53 _ (by omega))
      have hzH53 := hz0.at hAB hS
      have hjH53 := hj0.at hAB hS
      have hkmH53 : ∀ x : Nat, x < (H1).size → H53[x]? = (H1)[x]? := fun x hx => (hkH53 x (by omega)).trans (hkmH51 x hx)
      have hmH53 := hmH1.kept hkmH53
      have hltH53 := hmH53.lt
      have lnH53 := hrH53.lt
      refine lv_dup hx hb dX3_digest_196 rfl ?_
      refine q_bip hx hb dX3_digest_197 (by decide) ?_
      refine lv_aload_n hx hb dX3_digest_199 rfl (lv_at hl 3 rfl) ?_
      refine lv_iload_n hx hb dX3_digest_200 rfl (lv_at hl 2 rfl) ?_
      refine lv_iload hx hb dX3_digest_201 (lv_at hl 0 rfl) ?_
      have hmw : MWR θ S0 w H53 r q dt sv 0 dn rf kn := ⟨hzH53, hu, hmH53, hd, hsv⟩
      refine c_HV (As := [.int (iI pl), .int (iI z13)]) (rest := [.int (iI 12), .ref H4.size, .ref H4.size]) (b := w 0) (C := RX3) fx hl (mr_monthsNow θ l S0 _ w _ _ _ _ _ _ _ _ hmw pl z13 (by omega) (by omega)) (ob_recv hK hmH53.1 rfl) dX3_digest_203 k1544 k1546 ks29 k6 k1547 hd_X3_monthsNow rfl ⟨by decide, by decide⟩ (Nat.le_of_ble_eq_true rfl) ⟨by dsimp only; omega, by dsimp only; omega⟩ ?_
      refine q_nm (fun z54 ez54 => ?_)
      refine r_iast (θ := θ) (a := H4.size) hx hb hK hrH53 (hAn _ (by omega)) hS (i := 12) (x := z54) (by omega) (by decide) dX3_digest_206 (fun H55 locs haH55 hszH55 hkH55 hS => ?_)
      obtain ⟨gH55, hrH55⟩ : ∃ g : Nat → Int, AI θ H55 H4.size 13 g := ⟨_, haH55⟩
      have hstx35_H55 := hstx35_H53.kept (hkH55 _ (by omega)) (hkH55 _ (by omega))
      have hzH55 := hz0.at hAB hS
      have hjH55 := hj0.at hAB hS
      have hkmH55 : ∀ x : Nat, x < (H1).size → H55[x]? = (H1)[x]? := fun x hx => (hkH55 x (by omega)).trans (hkmH53 x hx)
      have hmH55 := hmH1.kept hkmH55
      have hltH55 := hmH55.lt
      have lnH55 := hrH55.lt
      refine lv_astore (lv' := [(5, .ref H4.size), (4, .int (iI z13)), (1, .long (lL d2)), (3, .int (iI pl)), (0, .ref (w 0))]) hx hb dX3_digest_207 hl (by decide) rfl (fun ls hl => ?_)
      refine lv_aload hx hb dX3_digest_209 (lv_at hl 0 rfl) ?_
      refine lv_astore (lv' := [(6, .ref H4.size), (5, .ref H4.size), (4, .int (iI z13)), (1, .long (lL d2)), (3, .int (iI pl)), (0, .ref (w 0))]) hx hb dX3_digest_211 hl (by decide) rfl (fun ls hl => ?_)
      refine lv_aload hx hb dX3_digest_213 (lv_at hl 0 rfl) ?_
      refine r_ialen (θ := θ) hx hb hK hrH55 dX3_digest_215 ?_
      refine lv_istore (lv' := [(7, .int (iI 13)), (6, .ref H4.size), (5, .ref H4.size), (4, .int (iI z13)), (1, .long (lL d2)), (3, .int (iI pl)), (0, .ref (w 0))]) hx hb dX3_digest_216 hl (by decide) rfl (fun ls hl => ?_)
      refine q_con hx hb dX3_digest_218 ?_
      refine lv_istore (lv' := [(8, .int (iI 0)), (7, .int (iI 13)), (6, .ref H4.size), (5, .ref H4.size), (4, .int (iI z13)), (1, .long (lL d2)), (3, .int (iI pl)), (0, .ref (w 0))]) hx hb dX3_digest_219 hl (by decide) rfl (fun ls hl => ?_)
      refine w_loopH (nL := 10) (σ := Int × Int) (fun x => (13 - x.2).toNat) (fun x H1 locs1 c9 s9 => ((0 ≤ x.2 ∧ x.2 ≤ 13)) ∧ AI θ H1 H4.size 13 gH55 ∧ (∀ x : Nat, x < (H1).size → H1[x]? = (H1)[x]?) ∧ (H1).size ≤ H1.size ∧ va_S (fun x : Nat => (x = w 0 ∨ x = w 1 ∨ x = w 2) ∨ s.heap.size ≤ x) s.heap H1 locs1 ∧ c9 ≤ 4 + 59 * Int.toNat pl + 59 ∧ s9 ≤ 16 + 545 * Int.toNat pl + 545) (fun x => [(1, .long (lL x.1)), (8, .int (iI x.2)), (7, .int (iI 13)), (6, .ref H4.size), (5, .ref H4.size), (4, .int (iI z13)), (3, .int (iI pl)), (0, .ref (w 0))]) ?_ ((d2 : Int), (0 : Int)) ⟨(by first | ((try dsimp only); omega) | (dsimp only; done)), hrH55, hkmH55, (by omega), hS, by (try dsimp only); omega, by (try dsimp only); omega⟩ (lv_sub hl [5, 0, 1, 2, 3, 4, 6, 7] rfl)
      intro x H56 locs cells slots hJ221 ih221 ls hl
      obtain ⟨d3, ix⟩ := x
      obtain ⟨hI221, hf0H56, hf1H56, hf2H56, hS, hcH56, hsH56⟩ := hJ221
      (try dsimp only at hI221 hcH56 hsH56 ih221 hl ⊢)
      (try dsimp only at hf0H56)
      (try dsimp only at hf1H56)
      (try dsimp only at hf2H56)
      have hsgeH56 := hS.1
      have hzH56 := hz0.at hAB hS
      have hjH56 := hj0.at hAB hS
      have hkmH56 := hf1H56
      have hmH56 := hmH1.kept hkmH56
      have hltH56 := hmH56.lt
      have lhf0H56 := hf0H56.lt
      refine lv_iload hx hb dX3_digest_221 (lv_at hl 1 rfl) ?_
      refine lv_iload hx hb dX3_digest_223 (lv_at hl 2 rfl) ?_
      refine q_cge (tgt := 251) hx hb dX3_digest_225 (by decide) (by omega) (by omega) (fun c57 => ?_) (fun c57 => ?_)
      · refine lv_iinc (v := iI (pl + 1)) (lv' := [(3, .int (iI (pl + 1))), (1, .long (lL d3)), (8, .int (iI ix)), (7, .int (iI 13)), (6, .ref H4.size), (5, .ref H4.size), (4, .int (iI z13)), (0, .ref (w 0))]) hx hb dX3_digest_251 hl (k := 6) rfl (iI_add _ _) (by decide) rfl (fun ls hl => ?_)
        refine lv_goto (tgt := 37) hx hb dX3_digest_254 (by decide) ?_
        exact ih37 ((d3 : Int), (pl + 1 : Int)) _ _ _ _ _ ⟨(by first | ((try dsimp only); omega) | (dsimp only; done)), hkmH56, (by omega), hS, by (try dsimp only); omega, by (try dsimp only); omega⟩ (by (try dsimp only); omega) (lv_sub hl [1, 0, 7] rfl)
      · refine lv_aload hx hb dX3_digest_228 (lv_at hl 3 rfl) ?_
        refine lv_iload hx hb dX3_digest_230 (lv_at hl 1 rfl) ?_
        refine r_iald (θ := θ) hx hb hK hf0H56 (i := ix) (by omega) (by decide) dX3_digest_232 ?_
        refine q_nm (fun z58 ez58 => ?_)
        refine lv_istore (lv' := [(9, .int (iI z58)), (1, .long (lL d3)), (8, .int (iI ix)), (7, .int (iI 13)), (6, .ref H4.size), (5, .ref H4.size), (4, .int (iI z13)), (3, .int (iI pl)), (0, .ref (w 0))]) hx hb dX3_digest_233 hl (by decide) rfl (fun ls hl => ?_)
        refine lv_lload_n hx hb dX3_digest_235 rfl (lv_at hl 1 rfl) ?_
        refine q_ldc2 (n := 31) hx hb hown (hts _ k1627) (by decide) dX3_digest_236 ?_
        refine q_lmul hx hb dX3_digest_239 ?_
        refine lv_iload hx hb dX3_digest_240 (lv_at hl 0 rfl) ?_
        refine q_any (fun z59 bz59 => ?_)
        refine q_i2l hx hb dX3_digest_242 (by omega) ?_
        refine q_ladd hx hb dX3_digest_243 ?_
        refine q_nml (fun z60 ez60 => ?_)
        refine lv_lstore_n (lv' := [(1, .long (lL z60)), (9, .int (iI z58)), (8, .int (iI ix)), (7, .int (iI 13)), (6, .ref H4.size), (5, .ref H4.size), (4, .int (iI z13)), (3, .int (iI pl)), (0, .ref (w 0))]) hx hb dX3_digest_244 rfl hl (by decide) rfl (fun ls hl => ?_)
        refine lv_iinc (v := iI (ix + 1)) (lv' := [(8, .int (iI (ix + 1))), (1, .long (lL z60)), (9, .int (iI z58)), (7, .int (iI 13)), (6, .ref H4.size), (5, .ref H4.size), (4, .int (iI z13)), (3, .int (iI pl)), (0, .ref (w 0))]) hx hb dX3_digest_245 hl (k := 2) rfl (iI_add _ _) (by decide) rfl (fun ls hl => ?_)
        refine lv_goto (tgt := 221) hx hb dX3_digest_248 (by decide) ?_
        exact ih221 ((z60 : Int), (ix + 1 : Int)) _ _ _ _ _ ⟨(by first | ((try dsimp only); omega) | (dsimp only; done)), hf0H56, hkmH56, (by omega), hS, by (try dsimp only); omega, by (try dsimp only); omega⟩ (by (try dsimp only); omega) (lv_sub hl [1, 0, 3, 4, 5, 6, 7, 8] rfl)
  · refine lv_lload_n hx hb dX3_digest_16 rfl (lv_at hl 0 rfl) ?_
    refine q_ldc2 (n := 31) hx hb hown (hts _ k1627) (by decide) dX3_digest_17 ?_
    refine q_lmul hx hb dX3_digest_20 ?_
    refine lv_aload_n hx hb dX3_digest_21 rfl (lv_at hl 2 rfl) ?_
    refine lv_iload_n hx hb dX3_digest_22 rfl (lv_at hl 1 rfl) ?_
    have hmw : MWR θ S0 w H2 r q dt sv 0 dn rf kn := ⟨hzH2, hu, hmH2, hd, hsv⟩
    refine c_MA (As := [.int (iI wh)]) (rest := [.long (lL (d1 * 31))]) (b := w 0) (C := RX3) fx hl (ma_houseNow θ l S0 _ w _ _ _ _ _ _ _ _ hmw wh (by omega)) (ob_recv hK hmH2.1 rfl) dX3_digest_23 k1610 k1612 ks33 k6 k1613 hd_X3_houseNow rfl ⟨by decide, by decide⟩ (Nat.le_of_ble_eq_true rfl) ⟨by dsimp only; omega, by dsimp only; omega⟩ hS (fun x hx => hAn x (Nat.le_trans hS.1 hx)) (fun z62 H61 locs hszH61 hk0H61 hS => ?_)
    have hkH61 : ∀ x : Nat, x < (H2).size → H61[x]? = (H2)[x]? := fun x hx => hk0H61 x hx (Nat.not_le.mpr hx)
    have hzH61 := hz0.at hAB hS
    have hjH61 := hj0.at hAB hS
    have hkmH61 : ∀ x : Nat, x < (H1).size → H61[x]? = (H1)[x]? := fun x hx => (hkH61 x (by omega)).trans (hkmH2 x hx)
    have hmH61 := hmH1.kept hkmH61
    have hltH61 := hmH61.lt
    have hltH61 := hmH61.lt
    refine q_any (fun z63 bz63 => ?_)
    refine q_i2l hx hb dX3_digest_26 (by omega) ?_
    refine q_ladd hx hb dX3_digest_27 ?_
    refine q_nml (fun z64 ez64 => ?_)
    refine lv_lstore_n (lv' := [(1, .long (lL z64)), (3, .int (iI wh)), (0, .ref (w 0))]) hx hb dX3_digest_28 rfl hl (by decide) rfl (fun ls hl => ?_)
    refine lv_iinc (v := iI (wh + 1)) (lv' := [(3, .int (iI (wh + 1))), (1, .long (lL z64)), (0, .ref (w 0))]) hx hb dX3_digest_29 hl (k := 1) rfl (iI_add _ _) (by decide) rfl (fun ls hl => ?_)
    refine lv_goto (tgt := 11) hx hb dX3_digest_32 (by decide) ?_
    exact ih11 ((z64 : Int), (wh + 1 : Int)) _ _ _ _ _ ⟨(by first | ((try dsimp only); omega) | (dsimp only; done)), hkmH61, (by omega), hS, by (try dsimp only); omega, by (try dsimp only); omega⟩ (by (try dsimp only); omega) (lv_sub hl [1, 0, 2] rfl)
