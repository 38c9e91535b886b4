def NE9 (a b c : Nat) : Prop := a ≠ c ∧ b ≠ c
theorem NE9.mk {a b c : Nat} (h : a ≠ c) (h2 : b ≠ c) : NE9 a b c := ⟨h, h2⟩
theorem NE9.l {a b c : Nat} (h : NE9 a b c) : a ≠ c := h.1
theorem NE9.r {a b c : Nat} (h : NE9 a b c) : b ≠ c := h.2
set_option maxHeartbeats 4000000 in
set_option maxRecDepth 100000 in
theorem mok_keeps (θ : TH) (l : Launch) (S0 : State) (H : Heap) (w : Nat → Nat) (r q : Nat → Nat) (dt : Nat → Int) (sv : Nat → Nat → Int) (th dn rf kn : Int) (hw : MWR θ S0 w H r q dt sv th dn rf kn) (hj : SJ θ S0 H) (a n : Int) (h_0 : -2147483648 ≤ a ∧ a < 2147483648) (h_1 : -2147483648 ≤ n ∧ n < 2147483648) (h_2 : 0 ≤ a ∧ a < 6) (h_3 : -1200 ≤ n ∧ n ≤ 1200) : CT l yX3_keeps cX3_keeps 5 (some .int) 8 267 98 4999 [.ref (w 0), .int (iI a), .int (iI n)] S0 H (fun v9 H1 => (∃ z : Int, v9 = some (.int (iI z))) ∧ ∃ r1 q1 : Nat → Nat, MWR θ S0 w H1 r1 q1 dt sv 0 dn rf kn ∧ NW 6 H.size r r1 ∧ NW 3 H.size q q1) (fun _ _ => False) (WA w H.size) := by
  refine ct_of (by decide +kernel) (Nat.le_of_ble_eq_true rfl) ?_
  intro pg en s mi args below meth co ls fx hs hr hlk hxt hin hl
  subst hs
  obtain ⟨hx, hb, hml, hown, hts⟩ := id fx.1
  have hS : va_S (fun x : Nat => (x = w 0 ∨ x = w 1 ∨ x = w 2) ∨ s.heap.size ≤ x) s.heap s.heap [] := va_S.rf
  obtain ⟨hz, hu, hm, hd, hsv⟩ := id hw
  have hAB : ∀ x : Nat, (fun x : Nat => (x = w 0 ∨ x = w 1 ∨ x = w 2) ∨ s.heap.size ≤ x) x → θ.2.2.2 ≤ x := wa_b hu hz.2.1
  have hz0 := hz
  have hK := sz_K fx.2 hz
  have hlt0 := hm.lt
  have hu1 := hu.1
  have hAn : ∀ x : Nat, s.heap.size ≤ x → (fun x : Nat => (x = w 0 ∨ x = w 1 ∨ x = w 2) ∨ s.heap.size ≤ x) x := fun _ h => Or.inr h
  have hj0 := hj
  have hz2 := hz.2.1
  refine lv_aload_n hx hb dX3_keeps_0 rfl (lv_at hl 0 rfl) ?_
  refine lv_iload_n hx hb dX3_keeps_1 rfl (lv_at hl 1 rfl) ?_
  refine lv_iload_n hx hb dX3_keeps_2 rfl (lv_at hl 2 rfl) ?_
  refine q_con hx hb dX3_keeps_3 ?_
  obtain ⟨t1, f2, hq1t1, hq2t1⟩ := fw_ex (0 ≤ a ∧ a < 6) ((-1200 ≤ n ∧ n ≤ 1200) ∧ 0 ≤ (0 : Int) ∧ (0 : Int) ≤ 48)
  have hmw : MWR θ S0 w s.heap r q dt sv th dn rf kn := ⟨hz, hu, hm, hd, hsv⟩
  refine c_M (w := w) (As := [.int (iI a), .int (iI n), .int (iI 0)]) (rest := []) (b := w 0) (C := RX3) fx hl (mw_failsWay θ l S0 _ w _ _ _ _ _ _ _ _ hmw a n 0 t1 f2 (by omega) (by omega) (by omega) hq1t1 hq2t1) (ob_recv hK hm.1 rfl) dX3_keeps_4 k1296 k1298 ks20 k6 k1299 hd_X3_failsWay rfl ⟨by decide, by decide⟩ (Nat.le_of_ble_eq_true rfl) ⟨by dsimp only; omega, by dsimp only; omega⟩ hS (fun x hx => hx ▸ Or.inl (Or.inl rfl)) (fun H3 locs hmH3 hszH3 hk0H3 hS => ?_)
  have hkH3 : ∀ x : Nat, x < (s.heap).size → ¬ x = w 0 → H3[x]? = (s.heap)[x]? := hk0H3
  have hzH3 := hz0.at hAB hS
  have hltH3 := hmH3.lt
  have hjH3 := hj0.at hAB hS
  refine q_ieq (tgt := 12) hx hb dX3_keeps_7 (by decide) (by omega) (fun c4 => ?_) (fun c4 => ?_)
  · refine lv_aload_n hx hb dX3_keeps_12 rfl (lv_at hl 0 rfl) ?_
    refine lv_iload_n hx hb dX3_keeps_13 rfl (lv_at hl 1 rfl) ?_
    refine lv_iload_n hx hb dX3_keeps_14 rfl (lv_at hl 2 rfl) ?_
    refine q_bip hx hb dX3_keeps_15 (by decide) ?_
    have hmw : MWR θ S0 w H3 r q dt sv t1 dn rf kn := ⟨hzH3, hu, hmH3, hd, hsv⟩
    refine c_ME (As := [.int (iI a), .int (iI n), .int (iI 48)]) (rest := []) (b := w 0) (C := RX3) fx hl (jp_way θ l S0 _ w _ _ _ _ _ _ _ _ hmw hjH3 a n 48 (by omega) (by omega) (by omega)) (ob_recv hK hmH3.1 rfl) dX3_keeps_17 k1300 k1302 ks21 k6 k1303 hd_X3_way rfl ⟨by decide, by decide⟩ (Nat.le_of_ble_eq_true rfl) ⟨by (try dsimp only); omega, by (try dsimp only); omega⟩ hS (fun x hx => hAn x (Nat.le_trans hS.1 hx)) (fun x6 H5 locs hpH5 hszH5 hk0H5 hS => ?_)
    obtain ⟨hx7, d8, cap9, hc10, hq11⟩ := hpH5
    have hkH5 : ∀ q : Nat, q < (H3).size → H5[q]? = (H3)[q]? := fun q hq => hk0H5 q hq (Nat.not_le.mpr hq)
    have hzH5 := hz0.at hAB hS
    have hjH5 := hj0.at hAB hS
    have hkmH5 : ∀ x : Nat, x < (H3).size → H5[x]? = (H3)[x]? := fun x hx => (hkH5 x (by omega)).trans ((fun x (_ : x < (H3).size) => (rfl : (H3)[x]? = (H3)[x]?)) x hx)
    have hmH5 := hmH3.kept hkmH5
    have hltH5 := hmH5.lt
    have hlix6 : LI θ H5 x6 d8 cap9 (Int.toNat 48 + 1) (fun i : Nat => dI (wyI (dt a.toNat) n i)) := hq11
    have llix6 := hlix6.lt
    refine lv_astore_n (lv' := [(3, .ref x6), (0, .ref (w 0)), (1, .int (iI a)), (2, .int (iI n))]) hx hb dX3_keeps_20 rfl hl (by decide) rfl (fun ls hl => ?_)
    refine q_con hx hb dX3_keeps_21 ?_
    refine lv_istore (lv' := [(4, .int (iI 1)), (3, .ref x6), (0, .ref (w 0)), (1, .int (iI a)), (2, .int (iI n))]) hx hb dX3_keeps_22 hl (by decide) rfl (fun ls hl => ?_)
    obtain ⟨go12, hoo12, h0o12, ha0o12, hkco12, hc1o12, helo12⟩ := hlix6
    have hao12 := ha0o12 (by omega)
    have loo12 := hoo12.lt
    have lao12 := hao12.lt
    refine w_loopH (nL := 5) (σ := Int) (fun x => (49 - x).toNat) (fun x H1 locs1 c9 s9 => ((1 ≤ x ∧ x ≤ 49)) ∧ OB θ H1 x6 6 [.int (iI (((Int.toNat 48 + 1) : Nat) : Int)), .ref d8, .int (iI (((Int.toNat 48 + 1) : Nat) : Int))] ∧ AO θ H1 d8 cap9 go12 ∧ (∀ x : Nat, x < (H3).size → H1[x]? = (H3)[x]?) ∧ (H3).size ≤ H1.size ∧ va_S (fun x : Nat => (x = w 0 ∨ x = w 1 ∨ x = w 2) ∨ s.heap.size ≤ x) s.heap H1 locs1 ∧ c9 ≤ 98 ∧ s9 ≤ 4999) (fun x => [(4, .int (iI x)), (3, .ref x6), (0, .ref (w 0)), (1, .int (iI a)), (2, .int (iI n))]) ?_ (1 : Int) ⟨(by first | ((try dsimp only); omega) | (dsimp only; done)), hoo12, hao12, hkmH5, (by omega), hS, by (try dsimp only); omega, by (try dsimp only); omega⟩ (lv_sub hl [0, 1, 2, 3, 4] rfl)
    intro x H13 locs cells slots hJ24 ih24 ls hl
    obtain ⟨j, rfl⟩ : ∃ z, z = x := ⟨_, rfl⟩
    obtain ⟨hI24, hf0H13, hf1H13, hf2H13, hf3H13, hS, hcH13, hsH13⟩ := hJ24
    (try dsimp only at hI24 hcH13 hsH13 ih24 hl ⊢)
    (try dsimp only at hf0H13)
    (try dsimp only at hf1H13)
    (try dsimp only at hf2H13)
    (try dsimp only at hf3H13)
    have hsgeH13 := hS.1
    have tw0 := dI_b (wyI (dt a.toNat) n j.toNat)
    have tw1 := dI_b (wyI (dt a.toNat) n (j - 1).toNat)
    have hzH13 := hz0.at hAB hS
    have hjH13 := hj0.at hAB hS
    have hkmH13 := hf2H13
    have hmH13 := hmH3.kept hkmH13
    have hltH13 := hmH13.lt
    have lhf0H13 := hf0H13.lt
    have lhf1H13 := hf1H13.lt
    refine lv_iload hx hb dX3_keeps_24 (lv_at hl 0 rfl) ?_
    refine q_bip hx hb dX3_keeps_26 (by decide) ?_
    refine q_cgt (tgt := 69) hx hb dX3_keeps_28 (by decide) (by omega) (by omega) (fun c14 => ?_) (fun c14 => ?_)
    · refine q_con hx hb dX3_keeps_69 ?_
      obtain rfl : t1 = 0 := by omega
      have hmw : MWR θ S0 w H13 r q dt sv 0 dn rf kn := ⟨hzH13, hu, hmH13, hd, hsv⟩
      exact e_i hx hb hr hlk hS dX3_keeps_70 (by first | exact Nat.le_of_ble_eq_true rfl | ((try dsimp only); omega)) (by first | exact Nat.le_of_ble_eq_true rfl | ((try dsimp only); omega)) ⟨⟨_, rfl⟩, r, q, by first | exact hmw | (subst_vars; exact hmw) | (simp only [inI_self, inI_1, inI_31] at hmw; subst_vars; exact hmw), by first | exact nw_rf | exact nw_up (by omega) | exact nw_up2 (by omega), by first | exact nw_rf | exact nw_up (by omega) | exact nw_up2 (by omega)⟩
    · refine lv_aload_n hx hb dX3_keeps_31 rfl (lv_at hl 1 rfl) ?_
      refine lv_iload hx hb dX3_keeps_32 (lv_at hl 0 rfl) ?_
      refine c_Vr (C := "java/util/ArrayList") (As := [.int (iI j)]) (rest := []) (r := some (.ref (bx θ (dI (wyI (dt a.toNat) n (j).toNat))))) (st1 := [.ref (bx θ (dI (wyI (dt a.toNat) n (j).toNat)))]) fx hl (jm_get θ l S0 _ hzH13 hjH13 x6 j d8 cap9 (((Int.toNat 48 + 1) : Nat) : Int) (((Int.toNat 48 + 1) : Nat) : Int) go12 (bx θ (dI (wyI (dt a.toNat) n (j).toNat))) hf0H13 hf1H13 (by omega) (by omega) (by exact (helo12 _ (by omega)).1)) (ob_recv hK hf0H13 rfl) dX3_keeps_34 k1398 k1399 k1400 k18 k1401 hd_Jx4a65c_get_915e3 rfl rfl ⟨by decide, by decide⟩ (Nat.le_of_ble_eq_true rfl) ⟨by (try dsimp only); omega, by (try dsimp only); omega⟩ hS (fun x hx => by first | exact hx.elim | ((try dsimp only at hx ⊢); omega)) (fun H15 locs hpH15 hsz0H15 hk0H15 hS => ?_)
      obtain rfl := hpH15.symm
      refine va_castE hx hb hown (hts _ k1410) (o_recv fx.2 (hjH13.box (by omega)).1) dX3_keeps_37 ?_
      refine c_Vr (C := "java/lang/Integer") (As := []) (rest := []) (r := some (.int (iI (dI (wyI (dt a.toNat) n (j).toNat))))) (st1 := [.int (iI (dI (wyI (dt a.toNat) n (j).toNat)))]) fx hl (jm_intValue θ l S0 _ hzH13 hjH13 (bx θ (dI (wyI (dt a.toNat) n (j).toNat))) (dI (wyI (dt a.toNat) n (j).toNat)) (by rfl) (by omega)) (o_recv fx.2 (hjH13.box (by omega)).1) dX3_keeps_40 k1411 k1412 k1413 k20 k1414 hd_J6_intValue_8abf5 rfl rfl ⟨by decide, by decide⟩ (Nat.le_of_ble_eq_true rfl) ⟨by (try dsimp only); omega, by (try dsimp only); omega⟩ hS (fun x hx => by first | exact hx.elim | ((try dsimp only at hx ⊢); omega)) (fun H16 locs hpH16 hsz0H16 hk0H16 hS => ?_)
      obtain rfl := hpH16.symm
      refine lv_aload_n hx hb dX3_keeps_43 rfl (lv_at hl 1 rfl) ?_
      refine lv_iload hx hb dX3_keeps_44 (lv_at hl 0 rfl) ?_
      refine q_con hx hb dX3_keeps_46 ?_
      refine q_sub hx hb dX3_keeps_47 ?_
      refine c_Vr (C := "java/util/ArrayList") (As := [.int (iI (j - 1))]) (rest := [.int (iI (dI (wyI (dt a.toNat) n (j).toNat)))]) (r := some (.ref (bx θ (dI (wyI (dt a.toNat) n (j - 1).toNat))))) (st1 := [.ref (bx θ (dI (wyI (dt a.toNat) n (j - 1).toNat))), .int (iI (dI (wyI (dt a.toNat) n (j).toNat)))]) fx hl (jm_get θ l S0 _ hzH13 hjH13 x6 (j - 1) d8 cap9 (((Int.toNat 48 + 1) : Nat) : Int) (((Int.toNat 48 + 1) : Nat) : Int) go12 (bx θ (dI (wyI (dt a.toNat) n (j - 1).toNat))) hf0H13 hf1H13 (by omega) (by omega) (by exact (helo12 _ (by omega)).1)) (ob_recv hK hf0H13 rfl) dX3_keeps_48 k1398 k1399 k1400 k18 k1401 hd_Jx4a65c_get_915e3 rfl rfl ⟨by decide, by decide⟩ (Nat.le_of_ble_eq_true rfl) ⟨by (try dsimp only); omega, by (try dsimp only); omega⟩ hS (fun x hx => by first | exact hx.elim | ((try dsimp only at hx ⊢); omega)) (fun H17 locs hpH17 hsz0H17 hk0H17 hS => ?_)
      obtain rfl := hpH17.symm
      refine va_castE hx hb hown (hts _ k1410) (o_recv fx.2 (hjH13.box (by omega)).1) dX3_keeps_51 ?_
      refine c_Vr (C := "java/lang/Integer") (As := []) (rest := [.int (iI (dI (wyI (dt a.toNat) n (j).toNat)))]) (r := some (.int (iI (dI (wyI (dt a.toNat) n (j - 1).toNat))))) (st1 := [.int (iI (dI (wyI (dt a.toNat) n (j - 1).toNat))), .int (iI (dI (wyI (dt a.toNat) n (j).toNat)))]) fx hl (jm_intValue θ l S0 _ hzH13 hjH13 (bx θ (dI (wyI (dt a.toNat) n (j - 1).toNat))) (dI (wyI (dt a.toNat) n (j - 1).toNat)) (by rfl) (by omega)) (o_recv fx.2 (hjH13.box (by omega)).1) dX3_keeps_54 k1411 k1412 k1413 k20 k1414 hd_J6_intValue_8abf5 rfl rfl ⟨by decide, by decide⟩ (Nat.le_of_ble_eq_true rfl) ⟨by (try dsimp only); omega, by (try dsimp only); omega⟩ hS (fun x hx => by first | exact hx.elim | ((try dsimp only at hx ⊢); omega)) (fun H18 locs hpH18 hsz0H18 hk0H18 hS => ?_)
      obtain rfl := hpH18.symm
      refine q_cge (tgt := 63) hx hb dX3_keeps_57 (by decide) (by omega) (by omega) (fun c19 => ?_) (fun c19 => ?_)
      · refine lv_iinc (v := iI (j + 1)) (lv' := [(4, .int (iI (j + 1))), (3, .ref x6), (0, .ref (w 0)), (1, .int (iI a)), (2, .int (iI n))]) hx hb dX3_keeps_63 hl (k := 0) rfl (iI_add _ _) (by decide) rfl (fun ls hl => ?_)
        refine lv_goto (tgt := 24) hx hb dX3_keeps_66 (by decide) ?_
        exact ih24 (j + 1 : Int) _ _ _ _ _ ⟨(by first | ((try dsimp only); omega) | (dsimp only; done)), hf0H13, hf1H13, hkmH13, (by omega), hS, by (try dsimp only); omega, by (try dsimp only); omega⟩ (by (try dsimp only); omega) (lv_sub hl [0, 1, 2, 3, 4] rfl)
      · refine lv_iload hx hb dX3_keeps_60 (lv_at hl 0 rfl) ?_
        obtain rfl : t1 = 0 := by omega
        have hmw : MWR θ S0 w H13 r q dt sv 0 dn rf kn := ⟨hzH13, hu, hmH13, hd, hsv⟩
        exact e_i hx hb hr hlk hS dX3_keeps_62 (by first | exact Nat.le_of_ble_eq_true rfl | ((try dsimp only); omega)) (by first | exact Nat.le_of_ble_eq_true rfl | ((try dsimp only); omega)) ⟨⟨_, rfl⟩, r, q, by first | exact hmw | (subst_vars; exact hmw) | (simp only [inI_self, inI_1, inI_31] at hmw; subst_vars; exact hmw), by first | exact nw_rf | exact nw_up (by omega) | exact nw_up2 (by omega), by first | exact nw_rf | exact nw_up (by omega) | exact nw_up2 (by omega)⟩
  · exact (show False by omega).elim

set_option maxHeartbeats 4000000 in
set_option maxRecDepth 100000 in
theorem mno1_keeps (θ : TH) (l : Launch) (S0 : State) (H : Heap) (w : Nat → Nat) (r q : Nat → Nat) (dt : Nat → Int) (sv : Nat → Nat → Int) (th dn rf kn : Int) (hw : MWR θ S0 w H r q dt sv th dn rf kn) (hj : SJ θ S0 H) (a n : Int) (h_0 : -2147483648 ≤ a ∧ a < 2147483648) (h_1 : -2147483648 ≤ n ∧ n < 2147483648) (h_2 : ¬ (0 ≤ a ∧ a < 6)) : CT l yX3_keeps cX3_keeps 5 (some .int) 3 65 0 0 [.ref (w 0), .int (iI a), .int (iI n)] S0 H (fun v9 H1 => v9 = some (.int (iI 0)) ∧ ∃ r1 q1 : Nat → Nat, MWR θ S0 w H1 r1 q1 dt sv 1 dn rf kn ∧ NW 6 H.size r r1 ∧ NW 3 H.size q q1) (fun _ _ => False) (WA w H.size) := by
  refine ct_of (by decide +kernel) (Nat.le_of_ble_eq_true rfl) ?_
  intro pg en s mi args below meth co ls fx hs hr hlk hxt hin hl
  subst hs
  obtain ⟨hx, hb, hml, hown, hts⟩ := id fx.1
  have hS : va_S (fun x : Nat => (x = w 0 ∨ x = w 1 ∨ x = w 2) ∨ s.heap.size ≤ x) s.heap s.heap [] := va_S.rf
  obtain ⟨hz, hu, hm, hd, hsv⟩ := id hw
  have hAB : ∀ x : Nat, (fun x : Nat => (x = w 0 ∨ x = w 1 ∨ x = w 2) ∨ s.heap.size ≤ x) x → θ.2.2.2 ≤ x := wa_b hu hz.2.1
  have hz0 := hz
  have hK := sz_K fx.2 hz
  have hlt0 := hm.lt
  have hu1 := hu.1
  have hAn : ∀ x : Nat, s.heap.size ≤ x → (fun x : Nat => (x = w 0 ∨ x = w 1 ∨ x = w 2) ∨ s.heap.size ≤ x) x := fun _ h => Or.inr h
  have hj0 := hj
  have hz2 := hz.2.1
  refine lv_aload_n hx hb dX3_keeps_0 rfl (lv_at hl 0 rfl) ?_
  refine lv_iload_n hx hb dX3_keeps_1 rfl (lv_at hl 1 rfl) ?_
  refine lv_iload_n hx hb dX3_keeps_2 rfl (lv_at hl 2 rfl) ?_
  refine q_con hx hb dX3_keeps_3 ?_
  obtain ⟨t1, f2, hq1t1, hq2t1⟩ := fw_ex (0 ≤ a ∧ a < 6) ((-1200 ≤ n ∧ n ≤ 1200) ∧ 0 ≤ (0 : Int) ∧ (0 : Int) ≤ 48)
  have hmw : MWR θ S0 w s.heap r q dt sv th dn rf kn := ⟨hz, hu, hm, hd, hsv⟩
  refine c_M (w := w) (As := [.int (iI a), .int (iI n), .int (iI 0)]) (rest := []) (b := w 0) (C := RX3) fx hl (mw_failsWay θ l S0 _ w _ _ _ _ _ _ _ _ hmw a n 0 t1 f2 (by omega) (by omega) (by omega) hq1t1 hq2t1) (ob_recv hK hm.1 rfl) dX3_keeps_4 k1296 k1298 ks20 k6 k1299 hd_X3_failsWay rfl ⟨by decide, by decide⟩ (Nat.le_of_ble_eq_true rfl) ⟨by dsimp only; omega, by dsimp only; omega⟩ hS (fun x hx => hx ▸ Or.inl (Or.inl rfl)) (fun H3 locs hmH3 hszH3 hk0H3 hS => ?_)
  have hkH3 : ∀ x : Nat, x < (s.heap).size → ¬ x = w 0 → H3[x]? = (s.heap)[x]? := hk0H3
  have hzH3 := hz0.at hAB hS
  have hltH3 := hmH3.lt
  have hjH3 := hj0.at hAB hS
  refine q_ieq (tgt := 12) hx hb dX3_keeps_7 (by decide) (by omega) (fun c4 => ?_) (fun c4 => ?_)
  · exact (show False by omega).elim
  · refine q_con hx hb dX3_keeps_10 ?_
    obtain rfl : t1 = 1 := by omega
    have hmw : MWR θ S0 w H3 r q dt sv 1 dn rf kn := ⟨hzH3, hu, hmH3, hd, hsv⟩
    exact e_i hx hb hr hlk hS dX3_keeps_11 (Nat.le_of_ble_eq_true rfl) (Nat.le_of_ble_eq_true rfl) ⟨ex_i (by omega), r, q, by first | exact hmw | (subst_vars; exact hmw) | (simp only [inI_self, inI_1, inI_31] at hmw; subst_vars; exact hmw), by first | exact nw_rf | exact nw_up (by omega) | exact nw_up2 (by omega), by first | exact nw_rf | exact nw_up (by omega) | exact nw_up2 (by omega)⟩

set_option maxHeartbeats 4000000 in
set_option maxRecDepth 100000 in
theorem mno2_keeps (θ : TH) (l : Launch) (S0 : State) (H : Heap) (w : Nat → Nat) (r q : Nat → Nat) (dt : Nat → Int) (sv : Nat → Nat → Int) (th dn rf kn : Int) (hw : MWR θ S0 w H r q dt sv th dn rf kn) (hj : SJ θ S0 H) (a n : Int) (h_0 : -2147483648 ≤ a ∧ a < 2147483648) (h_1 : -2147483648 ≤ n ∧ n < 2147483648) (h_2 : 0 ≤ a ∧ a < 6) (h_3 : ¬ (-1200 ≤ n ∧ n ≤ 1200)) : CT l yX3_keeps cX3_keeps 5 (some .int) 3 65 0 0 [.ref (w 0), .int (iI a), .int (iI n)] S0 H (fun v9 H1 => v9 = some (.int (iI 0)) ∧ ∃ r1 q1 : Nat → Nat, MWR θ S0 w H1 r1 q1 dt sv 2 dn rf kn ∧ NW 6 H.size r r1 ∧ NW 3 H.size q q1) (fun _ _ => False) (WA w H.size) := by
  refine ct_of (by decide +kernel) (Nat.le_of_ble_eq_true rfl) ?_
  intro pg en s mi args below meth co ls fx hs hr hlk hxt hin hl
  subst hs
  obtain ⟨hx, hb, hml, hown, hts⟩ := id fx.1
  have hS : va_S (fun x : Nat => (x = w 0 ∨ x = w 1 ∨ x = w 2) ∨ s.heap.size ≤ x) s.heap s.heap [] := va_S.rf
  obtain ⟨hz, hu, hm, hd, hsv⟩ := id hw
  have hAB : ∀ x : Nat, (fun x : Nat => (x = w 0 ∨ x = w 1 ∨ x = w 2) ∨ s.heap.size ≤ x) x → θ.2.2.2 ≤ x := wa_b hu hz.2.1
  have hz0 := hz
  have hK := sz_K fx.2 hz
  have hlt0 := hm.lt
  have hu1 := hu.1
  have hAn : ∀ x : Nat, s.heap.size ≤ x → (fun x : Nat => (x = w 0 ∨ x = w 1 ∨ x = w 2) ∨ s.heap.size ≤ x) x := fun _ h => Or.inr h
  have hj0 := hj
  have hz2 := hz.2.1
  refine lv_aload_n hx hb dX3_keeps_0 rfl (lv_at hl 0 rfl) ?_
  refine lv_iload_n hx hb dX3_keeps_1 rfl (lv_at hl 1 rfl) ?_
  refine lv_iload_n hx hb dX3_keeps_2 rfl (lv_at hl 2 rfl) ?_
  refine q_con hx hb dX3_keeps_3 ?_
  obtain ⟨t1, f2, hq1t1, hq2t1⟩ := fw_ex (0 ≤ a ∧ a < 6) ((-1200 ≤ n ∧ n ≤ 1200) ∧ 0 ≤ (0 : Int) ∧ (0 : Int) ≤ 48)
  have hmw : MWR θ S0 w s.heap r q dt sv th dn rf kn := ⟨hz, hu, hm, hd, hsv⟩
  refine c_M (w := w) (As := [.int (iI a), .int (iI n), .int (iI 0)]) (rest := []) (b := w 0) (C := RX3) fx hl (mw_failsWay θ l S0 _ w _ _ _ _ _ _ _ _ hmw a n 0 t1 f2 (by omega) (by omega) (by omega) hq1t1 hq2t1) (ob_recv hK hm.1 rfl) dX3_keeps_4 k1296 k1298 ks20 k6 k1299 hd_X3_failsWay rfl ⟨by decide, by decide⟩ (Nat.le_of_ble_eq_true rfl) ⟨by dsimp only; omega, by dsimp only; omega⟩ hS (fun x hx => hx ▸ Or.inl (Or.inl rfl)) (fun H3 locs hmH3 hszH3 hk0H3 hS => ?_)
  have hkH3 : ∀ x : Nat, x < (s.heap).size → ¬ x = w 0 → H3[x]? = (s.heap)[x]? := hk0H3
  have hzH3 := hz0.at hAB hS
  have hltH3 := hmH3.lt
  have hjH3 := hj0.at hAB hS
  refine q_ieq (tgt := 12) hx hb dX3_keeps_7 (by decide) (by omega) (fun c4 => ?_) (fun c4 => ?_)
  · exact (show False by omega).elim
  · refine q_con hx hb dX3_keeps_10 ?_
    obtain rfl : t1 = 2 := by omega
    have hmw : MWR θ S0 w H3 r q dt sv 2 dn rf kn := ⟨hzH3, hu, hmH3, hd, hsv⟩
    exact e_i hx hb hr hlk hS dX3_keeps_11 (Nat.le_of_ble_eq_true rfl) (Nat.le_of_ble_eq_true rfl) ⟨ex_i (by omega), r, q, by first | exact hmw | (subst_vars; exact hmw) | (simp only [inI_self, inI_1, inI_31] at hmw; subst_vars; exact hmw), by first | exact nw_rf | exact nw_up (by omega) | exact nw_up2 (by omega), by first | exact nw_rf | exact nw_up (by omega) | exact nw_up2 (by omega)⟩

set_option maxHeartbeats 4000000 in
set_option maxRecDepth 100000 in
theorem mok_met (θ : TH) (l : Launch) (S0 : State) (H : Heap) (w : Nat → Nat) (r q : Nat → Nat) (dt : Nat → Int) (sv : Nat → Nat → Int) (th dn rf kn : Int) (hw : MWR θ S0 w H r q dt sv th dn rf kn) (hj : SJ θ S0 H) (a n k : Int) (h_0 : -2147483648 ≤ a ∧ a < 2147483648) (h_1 : -2147483648 ≤ n ∧ n < 2147483648) (h_2 : -2147483648 ≤ k ∧ k < 2147483648) (h_3 : 0 ≤ a ∧ a < 6) (h_4 : -1200 ≤ n ∧ n ≤ 1200) (h_5 : 0 ≤ k ∧ k ≤ 48) : CT l yX3_met cX3_met 8 (some (.object "java/lang/String")) 8 267 295 6963 [.ref (w 0), .int (iI a), .int (iI n), .int (iI k)] S0 H (fun v9 H1 => (∃ x y ln : Nat, v9 = some (.ref x) ∧ STg S0 H1 x y ln) ∧ ∃ r1 q1 : Nat → Nat, MWR θ S0 w H1 r1 q1 dt sv 0 dn rf kn ∧ NW 6 H.size r r1 ∧ NW 3 H.size q q1) (fun _ _ => False) (WA w H.size) := by
  refine ct_of (by decide +kernel) (Nat.le_of_ble_eq_true rfl) ?_
  intro pg en s mi args below meth co ls fx hs hr hlk hxt hin hl
  subst hs
  obtain ⟨hx, hb, hml, hown, hts⟩ := id fx.1
  have hS : va_S (fun x : Nat => (x = w 0 ∨ x = w 1 ∨ x = w 2) ∨ s.heap.size ≤ x) s.heap s.heap [] := va_S.rf
  obtain ⟨hz, hu, hm, hd, hsv⟩ := id hw
  have hAB : ∀ x : Nat, (fun x : Nat => (x = w 0 ∨ x = w 1 ∨ x = w 2) ∨ s.heap.size ≤ x) x → θ.2.2.2 ≤ x := wa_b hu hz.2.1
  have hz0 := hz
  have hK := sz_K fx.2 hz
  have hlt0 := hm.lt
  have hu1 := hu.1
  have hAn : ∀ x : Nat, s.heap.size ≤ x → (fun x : Nat => (x = w 0 ∨ x = w 1 ∨ x = w 2) ∨ s.heap.size ≤ x) x := fun _ h => Or.inr h
  clear hu1
  have hj0 := hj
  have hz2 := hz.2.1
  refine lv_aload_n hx hb dX3_met_0 rfl (lv_at hl 0 rfl) ?_
  refine lv_iload_n hx hb dX3_met_1 rfl (lv_at hl 1 rfl) ?_
  refine lv_iload_n hx hb dX3_met_2 rfl (lv_at hl 2 rfl) ?_
  refine lv_iload_n hx hb dX3_met_3 rfl (lv_at hl 3 rfl) ?_
  obtain ⟨t1, f2, hq1t1, hq2t1⟩ := fw_ex (0 ≤ a ∧ a < 6) ((-1200 ≤ n ∧ n ≤ 1200) ∧ 0 ≤ k ∧ k ≤ 48)
  have hmw : MWR θ S0 w s.heap r q dt sv th dn rf kn := ⟨hz, hu, hm, hd, hsv⟩
  refine c_M (w := w) (As := [.int (iI a), .int (iI n), .int (iI k)]) (rest := []) (b := w 0) (C := RX3) fx hl (mw_failsWay θ l S0 _ w _ _ _ _ _ _ _ _ hmw a n k t1 f2 (by omega) (by omega) (by omega) hq1t1 hq2t1) (ob_recv hK hm.1 rfl) dX3_met_4 k1296 k1298 ks20 k6 k1299 hd_X3_failsWay rfl ⟨by decide, by decide⟩ (Nat.le_of_ble_eq_true rfl) ⟨by dsimp only; omega, by dsimp only; omega⟩ hS (fun x hx => hx ▸ Or.inl (Or.inl rfl)) (fun H3 locs hmH3 hszH3 hk0H3 hS => ?_)
  have hkH3 : ∀ x : Nat, x < (s.heap).size → ¬ x = w 0 → H3[x]? = (s.heap)[x]? := hk0H3
  have hzH3 := hz0.at hAB hS
  have hltH3 := hmH3.lt
  have e0t1 : t1 = 0 := by omega
  have e0f2 : f2 = 0 := by omega
  clear hq1t1 hq2t1
  have hjH3 := hj0.at hAB hS
  refine q_ieq (tgt := 13) hx hb dX3_met_7 (by decide) (by omega) (fun c4 => ?_) (fun c4 => ?_)
  · refine va_ldcS hx hb hown (vk_R.warm fx.2 hj0.1.2.2.2.2.2.2.1) dX3_met_13 ?_
    have c5 := (hjH3.2.2.2.2.2.2.2.1).g
    have lc5 := c5.lt
    have mc5 := (hj0.2.2.2.2.2.2.2.1).g.lt
    refine lv_astore (lv' := [(4, .ref (θ.2.2.1 24)), (0, .ref (w 0)), (1, .int (iI a)), (2, .int (iI n)), (3, .int (iI k))]) hx hb dX3_met_15 hl (by decide) rfl (fun ls hl => ?_)
    refine q_con hx hb dX3_met_17 ?_
    refine lv_istore (lv' := [(5, .int (iI (-1))), (4, .ref (θ.2.2.1 24)), (0, .ref (w 0)), (1, .int (iI a)), (2, .int (iI n)), (3, .int (iI k))]) hx hb dX3_met_18 hl (by decide) rfl (fun ls hl => ?_)
    refine lv_aload_n hx hb dX3_met_20 rfl (lv_at hl 2 rfl) ?_
    refine lv_iload_n hx hb dX3_met_21 rfl (lv_at hl 3 rfl) ?_
    refine lv_iload_n hx hb dX3_met_22 rfl (lv_at hl 4 rfl) ?_
    refine lv_iload_n hx hb dX3_met_23 rfl (lv_at hl 5 rfl) ?_
    have hmw : MWR θ S0 w H3 r q dt sv t1 dn rf kn := ⟨hzH3, hu, hmH3, hd, hsv⟩
    refine c_ME (As := [.int (iI a), .int (iI n), .int (iI k)]) (rest := []) (b := w 0) (C := RX3) fx hl (jp_way θ l S0 _ w _ _ _ _ _ _ _ _ hmw hjH3 a n k (by omega) (by omega) (by omega)) (ob_recv hK hmH3.1 rfl) dX3_met_24 k1300 k1302 ks21 k6 k1303 hd_X3_way rfl ⟨by decide, by decide⟩ (Nat.le_of_ble_eq_true rfl) ⟨by (try dsimp only); omega, by (try dsimp only); omega⟩ hS (fun x hx => hAn x (Nat.le_trans hS.1 hx)) (fun x7 H6 locs hpH6 hszH6 hk0H6 hS => ?_)
    obtain ⟨hx8, d9, cap10, hc11, hq12⟩ := hpH6
    have hkH6 : ∀ q : Nat, q < (H3).size → H6[q]? = (H3)[q]? := fun q hq => hk0H6 q hq (Nat.not_le.mpr hq)
    have c5_H6 := c5.kept (hkH6 _ c5.lt.1) (hkH6 _ c5.lt.2)
    have hzH6 := hz0.at hAB hS
    have hjH6 := hj0.at hAB hS
    have hkmH6 : ∀ x : Nat, x < (H3).size → H6[x]? = (H3)[x]? := fun x hx => (hkH6 x (by omega)).trans ((fun x (_ : x < (H3).size) => (rfl : (H3)[x]? = (H3)[x]?)) x hx)
    have hmH6 := hmH3.kept hkmH6
    have hltH6 := hmH6.lt
    have hlix7 : LI θ H6 x7 d9 cap10 (Int.toNat k + 1) (fun i : Nat => dI (wyI (dt a.toNat) n i)) := hq12
    have llix7 := hlix7.lt
    obtain ⟨go13, hoo13, h0o13, ha0o13, hkco13, hc1o13, helo13⟩ := hlix7
    have hao13 := ha0o13 (by omega)
    have loo13 := hoo13.lt
    have lao13 := hao13.lt
    refine c_Vr (C := "java/util/ArrayList") (As := []) (rest := []) (r := some (.ref H6.size)) (st1 := [.ref H6.size]) fx hl (jm_iterator θ l S0 _ hzH6 hjH6 x7 (((Int.toNat k + 1) : Nat) : Int) d9 (((Int.toNat k + 1) : Nat) : Int) hoo13) (ob_recv hK hoo13 rfl) dX3_met_27 k1420 k1421 k1422 k18 k1423 hd_Jx4a65c_iterator_32c93 rfl rfl ⟨by decide, by decide⟩ (Nat.le_of_ble_eq_true rfl) ⟨by (try dsimp only); omega, by (try dsimp only); omega⟩ hS (fun x hx => by first | exact hx.elim | ((try dsimp only at hx ⊢); omega)) (fun H14 locs hpH14 hsz0H14 hk0H14 hS => ?_)
    obtain ⟨hszH14, hoH14_0⟩ := hpH14
    have hkH14 : ∀ q : Nat, q < (H6).size → H14[q]? = (H6)[q]? := fun q hq => hk0H14 q hq (Nat.not_le.mpr hq)
    have hoo13_H14 := hoo13.kept (hkH14 _ hoo13.lt)
    have hao13_H14 := hao13.kept (hkH14 _ hao13.lt)
    have c5_H14 := c5_H6.kept (hkH14 _ c5_H6.lt.1) (hkH14 _ c5_H6.lt.2)
    have lhoH14_0 := hoH14_0.lt
    have hzH14 := hz0.at hAB hS
    have hjH14 := hj0.at hAB hS
    have hkmH14 : ∀ x : Nat, x < (H3).size → H14[x]? = (H3)[x]? := fun x hx => (hkH14 x (by omega)).trans (hkmH6 x hx)
    have hmH14 := hmH3.kept hkmH14
    have hltH14 := hmH14.lt
    refine lv_astore (lv' := [(6, .ref H6.size), (5, .int (iI (-1))), (4, .ref (θ.2.2.1 24)), (0, .ref (w 0)), (1, .int (iI a)), (2, .int (iI n)), (3, .int (iI k))]) hx hb dX3_met_30 hl (by decide) rfl (fun ls hl => ?_)
    refine w_loopH (nL := 8) (σ := Nat × Int × Nat × Nat × Int × Int) (fun x => (k + 1 - x.2.2.2.2.1).toNat) (fun x H1 locs1 c9 s9 => ((0 ≤ x.2.2.2.2.1 ∧ x.2.2.2.2.1 ≤ k + 1) ∧ (-1 ≤ x.2.1 ∧ x.2.1 ≤ 31) ∧ (Hid ((x.2.2.2.2.1 = 0 ∧ x.2.2.2.1 = 0 ∧ x.2.1 = -1) ∨ (1 ≤ x.2.2.2.2.1 ∧ x.2.1 = dI (wyI (dt a.toNat) n (x.2.2.2.2.1 - 1).toNat) ∧ 1 ≤ x.2.2.2.1 ∧ (x.2.2.2.1 ≤ 2 ∨ (28 ≤ x.2.1 ∧ (x.2.2.2.1 : Int) ≤ 2 + 3 * (31 - x.2.1)))))) ∧ (NE9 x.1 x.2.2.1 H6.size)) ∧ STg S0 H1 x.1 x.2.2.1 x.2.2.2.1 ∧ OB θ H1 H6.size 5 [.int (iI x.2.2.2.2.1), .int (iI x.2.2.2.2.2), .int (iI (((Int.toNat k + 1) : Nat) : Int)), .ref x7] ∧ OB θ H1 x7 6 [.int (iI (((Int.toNat k + 1) : Nat) : Int)), .ref d9, .int (iI (((Int.toNat k + 1) : Nat) : Int))] ∧ AO θ H1 d9 cap10 go13 ∧ (∀ x : Nat, x < (H3).size → H1[x]? = (H3)[x]?) ∧ (H3).size ≤ H1.size ∧ va_S (fun x : Nat => (x = w 0 ∨ x = w 1 ∨ x = w 2) ∨ s.heap.size ≤ x) s.heap H1 locs1 ∧ c9 ≤ 99 + 4 * Int.toNat x.2.2.2.2.1 ∧ s9 ≤ 5003 + 40 * Int.toNat x.2.2.2.2.1) (fun x => [(4, .ref x.1), (5, .int (iI x.2.1)), (6, .ref H6.size), (0, .ref (w 0)), (1, .int (iI a)), (2, .int (iI n)), (3, .int (iI k))]) ?_ (((θ.2.2.1 24) : Nat), ((-1) : Int), ((θ.2.2.1 28) : Nat), (0 : Nat), (0 : Int), ((-1) : Int)) ⟨⟨by first | ((try dsimp only); (first | omega | exact hI32.2.2.2 | exact NE9.mk (by omega) (by omega) | exact Hid.mk (by omega))) | (dsimp only; done), by first | ((try dsimp only); (first | omega | exact hI32.2.2.2 | exact NE9.mk (by omega) (by omega) | exact Hid.mk (by omega))) | (dsimp only; done), by first | ((try dsimp only); (first | omega | exact hI32.2.2.2 | exact NE9.mk (by omega) (by omega) | exact Hid.mk (by omega))) | (dsimp only; done), by first | ((try dsimp only); (first | omega | exact hI32.2.2.2 | exact NE9.mk (by omega) (by omega) | exact Hid.mk (by omega))) | (dsimp only; done)⟩, (by exact c5_H14), hoH14_0, hoo13_H14, hao13_H14, hkmH14, (by omega), hS, by (try dsimp only); omega, by (try dsimp only); omega⟩ (lv_sub hl [2, 1, 0, 3, 4, 5, 6] rfl)
    intro x H15 locs cells slots hJ32 ih32 ls hl
    obtain ⟨md, bf, bb, ln, c1, lr⟩ := x
    obtain ⟨hI32, hf0H15, hf1H15, hf2H15, hf3H15, hf4H15, hf5H15, hS, hcH15, hsH15⟩ := hJ32
    (try dsimp only at hI32 hcH15 hsH15 ih32 hl ⊢)
    (try dsimp only at hf0H15)
    (try dsimp only at hf1H15)
    (try dsimp only at hf2H15)
    (try dsimp only at hf3H15)
    (try dsimp only at hf4H15)
    (try dsimp only at hf5H15)
    have hsgeH15 := hS.1
    have tw0 := dI_b (wyI (dt a.toNat) n c1.toNat)
    have tws : 1 ≤ sgI (dI (wyI (dt a.toNat) n c1.toNat)) ∧ sgI (dI (wyI (dt a.toNat) n c1.toNat)) ≤ 2 := by have h9 := sgI_b (dI (wyI (dt a.toNat) n c1.toNat)); omega
    have tln : ln ≤ 11 := by have h9 := hI32.2.2.1.out; omega
    have twp : Hid (1 ≤ c1 → (dI (wyI (dt a.toNat) n c1.toNat) = dI (wyI (dt a.toNat) n (c1 - 1).toNat) ∨ (28 ≤ dI (wyI (dt a.toNat) n c1.toNat) ∧ dI (wyI (dt a.toNat) n c1.toNat) < dI (wyI (dt a.toNat) n (c1 - 1).toNat)))) := Hid.mk (fun h => by have h9 := wy_step (wyI (dt a.toNat) n (c1 - 1).toNat) n; rw [show c1.toNat = (c1 - 1).toNat + 1 by omega]; exact h9)
    have hzH15 := hz0.at hAB hS
    have hjH15 := hj0.at hAB hS
    have hkmH15 := hf4H15
    have hmH15 := hmH3.kept hkmH15
    have hltH15 := hmH15.lt
    have lhf0H15 := hf0H15.lt
    have lhf1H15 := hf1H15.lt
    have lhf2H15 := hf2H15.lt
    have lhf3H15 := hf3H15.lt
    refine lv_aload hx hb dX3_met_32 (lv_at hl 2 rfl) ?_
    refine c_Fr (As := []) (rest := []) (r := some (.int (iI (if c1 = (((Int.toNat k + 1) : Nat) : Int) then 0 else 1)))) (st1 := [.int (iI (if c1 = (((Int.toNat k + 1) : Nat) : Int) then 0 else 1))]) fx hl (jm_hasNext θ l S0 _ hzH15 hjH15 H6.size c1 lr (((Int.toNat k + 1) : Nat) : Int) x7 d9 (((Int.toNat k + 1) : Nat) : Int) hf1H15 hf2H15 (by omega)) hK hf1H15 rfl hj0.1.2.2.2.2.1 dX3_met_34 k1444 k1450 k1448 k30 k1452 ⟨by decide, by decide, by decide +kernel⟩ rfl rfl ⟨by decide, by decide⟩ (Nat.le_of_ble_eq_true rfl) ⟨by (try dsimp only); omega, by (try dsimp only); omega⟩ hS (fun x hx => by first | exact hx.elim | ((try dsimp only at hx ⊢); omega)) (fun H16 locs hpH16 hsz0H16 hk0H16 hS => ?_)
    obtain rfl := hpH16.symm
    refine q_nm (fun z17 ez17 => ?_)
    have hbz17 : 0 ≤ z17 ∧ z17 ≤ 1 := by rw [ez17]; split <;> omega
    have hqz17 : Hid ((c1 = (((Int.toNat k + 1) : Nat) : Int) ∧ z17 = 0) ∨ (¬ c1 = (((Int.toNat k + 1) : Nat) : Int) ∧ z17 = 1)) := Hid.mk (by rw [ez17]; split <;> omega)
    clear ez17
    refine q_ieq (tgt := 111) hx hb dX3_met_39 (by decide) (by omega) (fun c18 => ?_) (fun c18 => ?_)
    · refine lv_aload hx hb dX3_met_111 (lv_at hl 0 rfl) ?_
      obtain rfl : t1 = 0 := by omega
      have hmw : MWR θ S0 w H15 r q dt sv 0 dn rf kn := ⟨hzH15, hu, hmH15, hd, hsv⟩
      first | exact e_a hx hb hr (by first | exact Or.inl ⟨_, rfl⟩ | exact Or.inr ⟨_, rfl⟩) hlk hS dX3_met_113 (by first | exact Nat.le_of_ble_eq_true rfl | ((try dsimp only); omega)) (by first | exact Nat.le_of_ble_eq_true rfl | ((try dsimp only); omega)) ⟨⟨_, _, _, rfl, hf0H15⟩, r, q, by first | exact hmw | (subst_vars; exact hmw), by first | exact nw_rf | exact nw_up (by omega) | exact nw_up2 (by omega), by first | exact nw_rf | exact nw_up (by omega) | exact nw_up2 (by omega)⟩ | exact (show False by omega).elim
    · have hlt9 : c1 < k + 1 := by have h9 := hqz17.out; omega
      refine lv_aload hx hb dX3_met_42 (lv_at hl 2 rfl) ?_
      refine c_Fr (As := []) (rest := []) (r := some (.ref (bx θ (dI (wyI (dt a.toNat) n c1.toNat))))) (st1 := [.ref (bx θ (dI (wyI (dt a.toNat) n c1.toNat)))]) fx hl (jm_next θ l S0 _ hzH15 hjH15 H6.size c1 lr (((Int.toNat k + 1) : Nat) : Int) x7 d9 (((Int.toNat k + 1) : Nat) : Int) cap10 go13 (bx θ (dI (wyI (dt a.toNat) n c1.toNat))) hf1H15 hf2H15 hf3H15 (by omega) (by omega) (by exact (helo13 _ (by omega)).1) (by omega) (by omega)) hK hf1H15 rfl hj0.1.2.2.2.2.2.1 dX3_met_44 k1454 k1459 k1457 k30 k1461 ⟨by decide, by decide, by decide +kernel⟩ rfl rfl ⟨by decide, by decide⟩ (Nat.le_of_ble_eq_true rfl) ⟨by (try dsimp only); omega, by (try dsimp only); omega⟩ hS (fun x hx => by first | exact hx.elim | ((try dsimp only at hx ⊢); omega)) (fun H19 locs hpH19 hsz0H19 hk0H19 hS => ?_)
      obtain ⟨hszH19, hoH19_0⟩ := hpH19
      have hkH19 : ∀ q : Nat, q < (H15).size → ¬ (q = H6.size) → H19[q]? = (H15)[q]? := fun q hq hn => hk0H19 q hq (by (try dsimp only); omega)
      have hf2H15_H19 := hf2H15.kept (hkH19 _ hf2H15.lt (by first | omega | exact hI32.2.2.2.l | exact hI32.2.2.2.r))
      have hf3H15_H19 := hf3H15.kept (hkH19 _ hf3H15.lt (by first | omega | exact hI32.2.2.2.l | exact hI32.2.2.2.r))
      have hf0H15_H19 := hf0H15.kept (hkH19 _ hf0H15.lt.1 (by first | omega | exact hI32.2.2.2.l | exact hI32.2.2.2.r)) (hkH19 _ hf0H15.lt.2 (by first | omega | exact hI32.2.2.2.l | exact hI32.2.2.2.r))
      have lhoH19_0 := hoH19_0.lt
      have hzH19 := hz0.at hAB hS
      have hjH19 := hj0.at hAB hS
      have hkmH19 : ∀ x : Nat, x < (H3).size → H19[x]? = (H3)[x]? := fun x hx => (hkH19 x (by omega) (by omega)).trans (hkmH15 x hx)
      have hmH19 := hmH3.kept hkmH19
      have hltH19 := hmH19.lt
      refine va_castE hx hb hown (hts _ k1410) (o_recv fx.2 (hjH19.box (by omega)).1) dX3_met_49 ?_
      refine c_Vr (C := "java/lang/Integer") (As := []) (rest := []) (r := some (.int (iI (dI (wyI (dt a.toNat) n c1.toNat))))) (st1 := [.int (iI (dI (wyI (dt a.toNat) n c1.toNat)))]) fx hl (jm_intValue θ l S0 _ hzH19 hjH19 (bx θ (dI (wyI (dt a.toNat) n c1.toNat))) (dI (wyI (dt a.toNat) n c1.toNat)) (by rfl) (by omega)) (o_recv fx.2 (hjH19.box (by omega)).1) dX3_met_52 k1411 k1412 k1413 k20 k1414 hd_J6_intValue_8abf5 rfl rfl ⟨by decide, by decide⟩ (Nat.le_of_ble_eq_true rfl) ⟨by (try dsimp only); omega, by (try dsimp only); omega⟩ hS (fun x hx => by first | exact hx.elim | ((try dsimp only at hx ⊢); omega)) (fun H20 locs hpH20 hsz0H20 hk0H20 hS => ?_)
      obtain rfl := hpH20.symm
      refine lv_istore (lv' := [(7, .int (iI (dI (wyI (dt a.toNat) n c1.toNat)))), (4, .ref md), (5, .int (iI bf)), (6, .ref H6.size), (0, .ref (w 0)), (1, .int (iI a)), (2, .int (iI n)), (3, .int (iI k))]) hx hb dX3_met_55 hl (by decide) rfl (fun ls hl => ?_)
      have hbr9 : Hid (dI (wyI (dt a.toNat) n c1.toNat) = bf ∨ ¬ dI (wyI (dt a.toNat) n c1.toNat) = bf) := Hid.mk (Decidable.em _)
      refine lv_iload hx hb dX3_met_57 (lv_at hl 0 rfl) ?_
      refine lv_iload hx hb dX3_met_59 (lv_at hl 2 rfl) ?_
      refine q_ceq (tgt := 104) hx hb dX3_met_61 (by decide) (by omega) (by omega) (fun c21 => ?_) (fun c21 => ?_)
      · refine lv_iload hx hb dX3_met_104 (lv_at hl 0 rfl) ?_
        refine lv_istore (lv' := [(5, .int (iI (dI (wyI (dt a.toNat) n c1.toNat)))), (7, .int (iI (dI (wyI (dt a.toNat) n c1.toNat)))), (4, .ref md), (6, .ref H6.size), (0, .ref (w 0)), (1, .int (iI a)), (2, .int (iI n)), (3, .int (iI k))]) hx hb dX3_met_106 hl (by decide) rfl (fun ls hl => ?_)
        refine lv_goto (tgt := 32) hx hb dX3_met_108 (by decide) ?_
        have twy : dI (wyI (dt a.toNat) n ((c1 + 1) - 1).toNat) = dI (wyI (dt a.toNat) n c1.toNat) := by rw [show Int.toNat ((c1 + 1) - 1) = c1.toNat by omega]
        exact ih32 ((md : Nat), ((dI (wyI (dt a.toNat) n c1.toNat)) : Int), (bb : Nat), (ln : Nat), (c1 + 1 : Int), (c1 : Int)) _ _ _ _ _ ⟨⟨by first | ((try dsimp only); (first | omega | exact hI32.2.2.2 | exact NE9.mk (by omega) (by omega) | exact Hid.mk (by have h9 := hI32.2.2.1.out; have h10 := twp.out; have h11 := hbr9.out; omega))) | (dsimp only; done), by first | ((try dsimp only); (first | omega | exact hI32.2.2.2 | exact NE9.mk (by omega) (by omega) | exact Hid.mk (by have h9 := hI32.2.2.1.out; have h10 := twp.out; have h11 := hbr9.out; omega))) | (dsimp only; done), by first | ((try dsimp only); (first | omega | exact hI32.2.2.2 | exact NE9.mk (by omega) (by omega) | exact Hid.mk (by have h9 := hI32.2.2.1.out; have h10 := twp.out; have h11 := hbr9.out; omega))) | (dsimp only; done), by first | ((try dsimp only); (first | omega | exact hI32.2.2.2 | exact NE9.mk (by omega) (by omega) | exact Hid.mk (by have h9 := hI32.2.2.1.out; have h10 := twp.out; have h11 := hbr9.out; omega))) | (dsimp only; done)⟩, (by exact hf0H15_H19), hoH19_0, hf2H15_H19, hf3H15_H19, hkmH19, (by omega), hS, by (try dsimp only); omega, by (try dsimp only); omega⟩ (by (try dsimp only); omega) (lv_sub hl [2, 0, 3, 4, 5, 6, 7] rfl)
      · refine r_new (θ := θ) (ci := 1) (fs := [.null, .int (iI 0), .int (iI 0), .int (iI 0)]) (C := RJ4) (T := TJ4) (N := 4) hx hb hts gwJ4 tyJ4 tyJ4_ok hown k1466 k40 k3 hK hS rfl (fun j hj => by rcases (show j = 0 ∨ j = 1 ∨ j = 2 ∨ j = 3 by omega) with rfl | rfl | rfl | rfl <;> rfl) (by (try dsimp only); omega) (by (try dsimp only); omega) dX3_met_64 (fun H22 hnH22 hszH22 hkH22 hS => ?_)
        have hf2H15_H22 := hf2H15_H19.kept (hkH22 _ hf2H15_H19.lt)
        have hoH19_0_H22 := hoH19_0.kept (hkH22 _ hoH19_0.lt)
        have hf3H15_H22 := hf3H15_H19.kept (hkH22 _ hf3H15_H19.lt)
        have hf0H15_H22 := hf0H15_H19.kept (hkH22 _ hf0H15_H19.lt.1) (hkH22 _ hf0H15_H19.lt.2)
        have hzH22 := hz0.at hAB hS
        have hjH22 := hj0.at hAB hS
        have hkmH22 : ∀ x : Nat, x < (H3).size → H22[x]? = (H3)[x]? := fun x hx => (hkH22 x (by omega)).trans (hkmH19 x hx)
        have hmH22 := hmH3.kept hkmH22
        have hltH22 := hmH22.lt
        have lnH22 := hnH22.lt
        refine lv_dup hx hb dX3_met_67 rfl ?_
        refine c_Ir (As := []) (rest := [.ref H19.size]) (r := none) (st1 := [.ref H19.size]) fx hl (jm_sbInit θ l S0 _ hzH22 hjH22 H19.size hnH22 (by omega)) dX3_met_68 k1467 k42 k3 k43 rfl hd_J4_init_da8c8 rfl rfl ⟨by decide, by decide⟩ (Nat.le_of_ble_eq_true rfl) ⟨by (try dsimp only); omega, by (try dsimp only); omega⟩ hS (fun x hx => by first | exact hx.elim | ((try dsimp only at hx ⊢); omega)) (fun H23 locs hpH23 hsz0H23 hk0H23 hS => ?_)
        obtain ⟨hszH23, hoH23_0⟩ := hpH23
        have hkH23 : ∀ q : Nat, q < (H22).size → ¬ (q = H19.size) → H23[q]? = (H22)[q]? := fun q hq hn => hk0H23 q hq (by (try dsimp only); omega)
        have hf2H15_H23 := hf2H15_H22.kept (hkH23 _ hf2H15_H22.lt (by first | omega | exact hI32.2.2.2.l | exact hI32.2.2.2.r))
        have hoH19_0_H23 := hoH19_0_H22.kept (hkH23 _ hoH19_0_H22.lt (by first | omega | exact hI32.2.2.2.l | exact hI32.2.2.2.r))
        have hf3H15_H23 := hf3H15_H22.kept (hkH23 _ hf3H15_H22.lt (by first | omega | exact hI32.2.2.2.l | exact hI32.2.2.2.r))
        have hf0H15_H23 := hf0H15_H22.kept (hkH23 _ hf0H15_H22.lt.1 (by first | omega | exact hI32.2.2.2.l | exact hI32.2.2.2.r)) (hkH23 _ hf0H15_H22.lt.2 (by first | omega | exact hI32.2.2.2.l | exact hI32.2.2.2.r))
        have lhoH23_0 := hoH23_0.lt
        have hzH23 := hz0.at hAB hS
        have hjH23 := hj0.at hAB hS
        have hkmH23 : ∀ x : Nat, x < (H3).size → H23[x]? = (H3)[x]? := fun x hx => (hkH23 x (by omega) (by omega)).trans (hkmH22 x hx)
        have hmH23 := hmH3.kept hkmH23
        have hltH23 := hmH23.lt
        refine lv_aload hx hb dX3_met_71 (lv_at hl 1 rfl) ?_
        refine c_Vr (C := "java/lang/StringBuilder") (As := [.ref md]) (rest := []) (r := some (.ref H19.size)) (st1 := [.ref H19.size]) fx hl (jm_appendS θ l S0 _ hzH23 hjH23 H19.size md H22.size 16 0 bb ln hoH23_0 hf0H15_H23 (by omega) (by omega) (by omega) (by omega) (by omega) (by omega) (by omega)) (ob_recv hK hoH23_0.split.choose_spec.1 rfl) dX3_met_73 k1468 k340 k341 k3 k342 hd_J4_append_15ec4 rfl rfl ⟨by decide, by decide⟩ (Nat.le_of_ble_eq_true rfl) ⟨by (try dsimp only); omega, by (try dsimp only); omega⟩ hS (fun x hx => by first | exact hx.elim | ((try dsimp only at hx ⊢); omega)) (fun H24 locs hpH24 hsz0H24 hk0H24 hS => ?_)
        obtain ⟨hszH24, hoH24_0⟩ := hpH24
        have hkH24 : ∀ q : Nat, q < (H23).size → ¬ (q = H19.size ∨ q = H22.size) → H24[q]? = (H23)[q]? := fun q hq hn => hk0H24 q hq (by (try dsimp only); omega)
        have hf2H15_H24 := hf2H15_H23.kept (hkH24 _ hf2H15_H23.lt (by first | omega | exact hI32.2.2.2.l | exact hI32.2.2.2.r))
        have hoH19_0_H24 := hoH19_0_H23.kept (hkH24 _ hoH19_0_H23.lt (by first | omega | exact hI32.2.2.2.l | exact hI32.2.2.2.r))
        have hf3H15_H24 := hf3H15_H23.kept (hkH24 _ hf3H15_H23.lt (by first | omega | exact hI32.2.2.2.l | exact hI32.2.2.2.r))
        have hf0H15_H24 := hf0H15_H23.kept (hkH24 _ hf0H15_H23.lt.1 (by first | omega | exact hI32.2.2.2.l | exact hI32.2.2.2.r)) (hkH24 _ hf0H15_H23.lt.2 (by first | omega | exact hI32.2.2.2.l | exact hI32.2.2.2.r))
        have lhoH24_0 := hoH24_0.lt
        have hzH24 := hz0.at hAB hS
        have hjH24 := hj0.at hAB hS
        have hkmH24 : ∀ x : Nat, x < (H3).size → H24[x]? = (H3)[x]? := fun x hx => (hkH24 x (by omega) (by omega)).trans (hkmH23 x hx)
        have hmH24 := hmH3.kept hkmH24
        have hltH24 := hmH24.lt
        refine lv_aload hx hb dX3_met_76 (lv_at hl 1 rfl) ?_
        refine c_Vr (C := "java/lang/String") (As := []) (rest := [.ref H19.size]) (r := some (.int (iI (if (ln : Int) = 0 then 1 else 0)))) (st1 := [.int (iI (if (ln : Int) = 0 then 1 else 0)), .ref H19.size]) fx hl (jm_isEmpty θ l S0 _ hzH24 hjH24 md bb ln hf0H15_H24 (by omega)) (o_recv fx.2 hf0H15_H24.1) dX3_met_78 k1469 k1470 k1471 k4 k1472 hd_J0_isEmpty_aae02 rfl rfl ⟨by decide, by decide⟩ (Nat.le_of_ble_eq_true rfl) ⟨by (try dsimp only); omega, by (try dsimp only); omega⟩ hS (fun x hx => by first | exact hx.elim | ((try dsimp only at hx ⊢); omega)) (fun H25 locs hpH25 hsz0H25 hk0H25 hS => ?_)
        obtain rfl := hpH25.symm
        refine q_nm (fun z26 ez26 => ?_)
        have hbz26 : 0 ≤ z26 ∧ z26 ≤ 1 := by rw [ez26]; split <;> omega
        have hqz26 : Hid (((ln : Int) = 0 ∧ z26 = 1) ∨ (¬ (ln : Int) = 0 ∧ z26 = 0)) := Hid.mk (by rw [ez26]; split <;> omega)
        clear ez26
        refine q_ieq (tgt := 89) hx hb dX3_met_81 (by decide) (by omega) (fun c27 => ?_) (fun c27 => ?_)
        · have hne9 : 1 ≤ ln := by have h9 := hqz26.out; omega
          refine va_ldcS hx hb hown (vk_R.warm fx.2 hj0.1.2.2.2.2.2.2.2.1) dX3_met_89 ?_
          have c28 := (hjH24.2.2.2.2.2.2.2.2.1).g
          have lc28 := c28.lt
          have mc28 := (hj0.2.2.2.2.2.2.2.2.1).g.lt
          refine c_Vr (C := "java/lang/StringBuilder") (As := [.ref (θ.2.2.1 25)]) (rest := []) (r := some (.ref H19.size)) (st1 := [.ref H19.size]) fx hl (jm_appendS θ l S0 _ hzH24 hjH24 H19.size (θ.2.2.1 25) H22.size 16 (0 + ln) (θ.2.2.1 29) 1 hoH24_0 c28 (by omega) (by omega) (by omega) (by omega) (by omega) (by omega) (by omega)) (ob_recv hK hoH24_0.split.choose_spec.1 rfl) dX3_met_91 k1468 k340 k341 k3 k342 hd_J4_append_15ec4 rfl rfl ⟨by decide, by decide⟩ (Nat.le_of_ble_eq_true rfl) ⟨by (try dsimp only); omega, by (try dsimp only); omega⟩ hS (fun x hx => by first | exact hx.elim | ((try dsimp only at hx ⊢); omega)) (fun H29 locs hpH29 hsz0H29 hk0H29 hS => ?_)
          obtain ⟨hszH29, hoH29_0⟩ := hpH29
          have hkH29 : ∀ q : Nat, q < (H24).size → ¬ (q = H19.size ∨ q = H22.size) → H29[q]? = (H24)[q]? := fun q hq hn => hk0H29 q hq (by (try dsimp only); omega)
          have hf2H15_H29 := hf2H15_H24.kept (hkH29 _ hf2H15_H24.lt (by first | omega | exact hI32.2.2.2.l | exact hI32.2.2.2.r))
          have hoH19_0_H29 := hoH19_0_H24.kept (hkH29 _ hoH19_0_H24.lt (by first | omega | exact hI32.2.2.2.l | exact hI32.2.2.2.r))
          have hf3H15_H29 := hf3H15_H24.kept (hkH29 _ hf3H15_H24.lt (by first | omega | exact hI32.2.2.2.l | exact hI32.2.2.2.r))
          have hf0H15_H29 := hf0H15_H24.kept (hkH29 _ hf0H15_H24.lt.1 (by first | omega | exact hI32.2.2.2.l | exact hI32.2.2.2.r)) (hkH29 _ hf0H15_H24.lt.2 (by first | omega | exact hI32.2.2.2.l | exact hI32.2.2.2.r))
          have c28_H29 := c28.kept (hkH29 _ c28.lt.1 (by first | omega | exact hI32.2.2.2.l | exact hI32.2.2.2.r)) (hkH29 _ c28.lt.2 (by first | omega | exact hI32.2.2.2.l | exact hI32.2.2.2.r))
          have lhoH29_0 := hoH29_0.lt
          have hzH29 := hz0.at hAB hS
          have hjH29 := hj0.at hAB hS
          have hkmH29 : ∀ x : Nat, x < (H3).size → H29[x]? = (H3)[x]? := fun x hx => (hkH29 x (by omega) (by omega)).trans (hkmH24 x hx)
          have hmH29 := hmH3.kept hkmH29
          have hltH29 := hmH29.lt
          refine lv_iload hx hb dX3_met_94 (lv_at hl 0 rfl) ?_
          refine c_Vr (C := "java/lang/StringBuilder") (As := [.int (iI (dI (wyI (dt a.toNat) n c1.toNat)))]) (rest := []) (r := some (.ref H19.size)) (st1 := [.ref H19.size]) fx hl (jm_appendI θ l S0 _ hzH29 hjH29 H19.size (dI (wyI (dt a.toNat) n c1.toNat)) H22.size 16 ((0 + ln) + 1) hoH29_0 (by omega) (by omega) (by omega) (by omega) (by omega) (by omega)) (ob_recv hK hoH29_0.split.choose_spec.1 rfl) dX3_met_96 k1474 k458 k459 k3 k460 hd_J4_append_bf812 rfl rfl ⟨by decide, by decide⟩ (Nat.le_of_ble_eq_true rfl) ⟨by (try dsimp only); omega, by (try dsimp only); omega⟩ hS (fun x hx => by first | exact hx.elim | ((try dsimp only at hx ⊢); omega)) (fun H30 locs hpH30 hsz0H30 hk0H30 hS => ?_)
          obtain ⟨hszH30, hoH30_0⟩ := hpH30
          have hkH30 : ∀ q : Nat, q < (H29).size → ¬ (q = H19.size ∨ q = H22.size) → H30[q]? = (H29)[q]? := fun q hq hn => hk0H30 q hq (by (try dsimp only); omega)
          have hf2H15_H30 := hf2H15_H29.kept (hkH30 _ hf2H15_H29.lt (by first | omega | exact hI32.2.2.2.l | exact hI32.2.2.2.r))
          have hoH19_0_H30 := hoH19_0_H29.kept (hkH30 _ hoH19_0_H29.lt (by first | omega | exact hI32.2.2.2.l | exact hI32.2.2.2.r))
          have hf3H15_H30 := hf3H15_H29.kept (hkH30 _ hf3H15_H29.lt (by first | omega | exact hI32.2.2.2.l | exact hI32.2.2.2.r))
          have hf0H15_H30 := hf0H15_H29.kept (hkH30 _ hf0H15_H29.lt.1 (by first | omega | exact hI32.2.2.2.l | exact hI32.2.2.2.r)) (hkH30 _ hf0H15_H29.lt.2 (by first | omega | exact hI32.2.2.2.l | exact hI32.2.2.2.r))
          have c28_H30 := c28_H29.kept (hkH30 _ c28_H29.lt.1 (by first | omega | exact hI32.2.2.2.l | exact hI32.2.2.2.r)) (hkH30 _ c28_H29.lt.2 (by first | omega | exact hI32.2.2.2.l | exact hI32.2.2.2.r))
          have lhoH30_0 := hoH30_0.lt
          have hzH30 := hz0.at hAB hS
          have hjH30 := hj0.at hAB hS
          have hkmH30 : ∀ x : Nat, x < (H3).size → H30[x]? = (H3)[x]? := fun x hx => (hkH30 x (by omega) (by omega)).trans (hkmH29 x hx)
          have hmH30 := hmH3.kept hkmH30
          have hltH30 := hmH30.lt
          refine c_Vr (C := "java/lang/StringBuilder") (As := []) (rest := []) (r := some (.ref H30.size)) (st1 := [.ref H30.size]) fx hl (jm_toString θ l S0 _ hzH30 hjH30 H19.size H22.size 16 (((0 + ln) + 1) + sgI (dI (wyI (dt a.toNat) n c1.toNat))) hoH30_0 (by omega) (by omega) (by omega)) (ob_recv hK hoH30_0.split.choose_spec.1 rfl) dX3_met_99 k1475 k483 k484 k3 k485 hd_J4_toString_0e30d rfl rfl ⟨by decide, by decide⟩ (Nat.le_of_ble_eq_true rfl) ⟨by (try dsimp only); omega, by (try dsimp only); omega⟩ hS (fun x hx => by first | exact hx.elim | ((try dsimp only at hx ⊢); omega)) (fun H31 locs hpH31 hsz0H31 hk0H31 hS => ?_)
          obtain ⟨hszH31, hoH31_0, hoH31_1⟩ := hpH31
          have hkH31 : ∀ q : Nat, q < (H30).size → H31[q]? = (H30)[q]? := fun q hq => hk0H31 q hq (Nat.not_le.mpr hq)
          have hf2H15_H31 := hf2H15_H30.kept (hkH31 _ hf2H15_H30.lt)
          have hoH19_0_H31 := hoH19_0_H30.kept (hkH31 _ hoH19_0_H30.lt)
          have hf3H15_H31 := hf3H15_H30.kept (hkH31 _ hf3H15_H30.lt)
          have hoH30_0_H31 := hoH30_0.kept (hkH31 _ hoH30_0.lt.1) (hkH31 _ hoH30_0.lt.2)
          have hf0H15_H31 := hf0H15_H30.kept (hkH31 _ hf0H15_H30.lt.1) (hkH31 _ hf0H15_H30.lt.2)
          have c28_H31 := c28_H30.kept (hkH31 _ c28_H30.lt.1) (hkH31 _ c28_H30.lt.2)
          have lhoH31_0 := hoH31_0.lt
          have lhoH31_1 := hoH31_1.lt
          have hzH31 := hz0.at hAB hS
          have hjH31 := hj0.at hAB hS
          have hkmH31 : ∀ x : Nat, x < (H3).size → H31[x]? = (H3)[x]? := fun x hx => (hkH31 x (by omega)).trans (hkmH30 x hx)
          have hmH31 := hmH3.kept hkmH31
          have hltH31 := hmH31.lt
          refine lv_astore (lv' := [(4, .ref H30.size), (7, .int (iI (dI (wyI (dt a.toNat) n c1.toNat)))), (5, .int (iI bf)), (6, .ref H6.size), (0, .ref (w 0)), (1, .int (iI a)), (2, .int (iI n)), (3, .int (iI k))]) hx hb dX3_met_102 hl (by decide) rfl (fun ls hl => ?_)
          refine lv_iload hx hb dX3_met_104 (lv_at hl 1 rfl) ?_
          refine lv_istore (lv' := [(5, .int (iI (dI (wyI (dt a.toNat) n c1.toNat)))), (4, .ref H30.size), (7, .int (iI (dI (wyI (dt a.toNat) n c1.toNat)))), (6, .ref H6.size), (0, .ref (w 0)), (1, .int (iI a)), (2, .int (iI n)), (3, .int (iI k))]) hx hb dX3_met_106 hl (by decide) rfl (fun ls hl => ?_)
          refine lv_goto (tgt := 32) hx hb dX3_met_108 (by decide) ?_
          have twy : dI (wyI (dt a.toNat) n ((c1 + 1) - 1).toNat) = dI (wyI (dt a.toNat) n c1.toNat) := by rw [show Int.toNat ((c1 + 1) - 1) = c1.toNat by omega]
          exact ih32 ((H30.size : Nat), ((dI (wyI (dt a.toNat) n c1.toNat)) : Int), ((H30.size + 1) : Nat), (Int.toNat ((((0 + ln) + 1) + sgI (dI (wyI (dt a.toNat) n c1.toNat)))) : Nat), (c1 + 1 : Int), (c1 : Int)) _ _ _ _ _ ⟨⟨by first | ((try dsimp only); (first | omega | exact hI32.2.2.2 | exact NE9.mk (by omega) (by omega) | exact Hid.mk (by have h9 := hI32.2.2.1.out; have h10 := twp.out; have h11 := hbr9.out; omega))) | (dsimp only; done), by first | ((try dsimp only); (first | omega | exact hI32.2.2.2 | exact NE9.mk (by omega) (by omega) | exact Hid.mk (by have h9 := hI32.2.2.1.out; have h10 := twp.out; have h11 := hbr9.out; omega))) | (dsimp only; done), by first | ((try dsimp only); (first | omega | exact hI32.2.2.2 | exact NE9.mk (by omega) (by omega) | exact Hid.mk (by have h9 := hI32.2.2.1.out; have h10 := twp.out; have h11 := hbr9.out; omega))) | (dsimp only; done), by first | ((try dsimp only); (first | omega | exact hI32.2.2.2 | exact NE9.mk (by omega) (by omega) | exact Hid.mk (by have h9 := hI32.2.2.1.out; have h10 := twp.out; have h11 := hbr9.out; omega))) | (dsimp only; done)⟩, (by exact hoH31_0), hoH19_0_H31, hf2H15_H31, hf3H15_H31, hkmH31, (by omega), hS, by (try dsimp only); omega, by (try dsimp only); omega⟩ (by (try dsimp only); omega) (lv_sub hl [1, 0, 3, 4, 5, 6, 7] rfl)
        · refine va_ldcS hx hb hown (vk_R.warm fx.2 hj0.1.2.2.2.2.2.2.1) dX3_met_84 ?_
          have c32 := (hjH24.2.2.2.2.2.2.2.1).g
          have lc32 := c32.lt
          have mc32 := (hj0.2.2.2.2.2.2.2.1).g.lt
          refine lv_goto (tgt := 91) hx hb dX3_met_86 (by decide) ?_
          refine c_Vr (C := "java/lang/StringBuilder") (As := [.ref (θ.2.2.1 24)]) (rest := []) (r := some (.ref H19.size)) (st1 := [.ref H19.size]) fx hl (jm_appendS θ l S0 _ hzH24 hjH24 H19.size (θ.2.2.1 24) H22.size 16 (0 + ln) (θ.2.2.1 28) 0 hoH24_0 c32 (by omega) (by omega) (by omega) (by omega) (by omega) (by omega) (by omega)) (ob_recv hK hoH24_0.split.choose_spec.1 rfl) dX3_met_91 k1468 k340 k341 k3 k342 hd_J4_append_15ec4 rfl rfl ⟨by decide, by decide⟩ (Nat.le_of_ble_eq_true rfl) ⟨by (try dsimp only); omega, by (try dsimp only); omega⟩ hS (fun x hx => by first | exact hx.elim | ((try dsimp only at hx ⊢); omega)) (fun H33 locs hpH33 hsz0H33 hk0H33 hS => ?_)
          obtain ⟨hszH33, hoH33_0⟩ := hpH33
          have hkH33 : ∀ q : Nat, q < (H24).size → ¬ (q = H19.size ∨ q = H22.size) → H33[q]? = (H24)[q]? := fun q hq hn => hk0H33 q hq (by (try dsimp only); omega)
          have hf2H15_H33 := hf2H15_H24.kept (hkH33 _ hf2H15_H24.lt (by first | omega | exact hI32.2.2.2.l | exact hI32.2.2.2.r))
          have hoH19_0_H33 := hoH19_0_H24.kept (hkH33 _ hoH19_0_H24.lt (by first | omega | exact hI32.2.2.2.l | exact hI32.2.2.2.r))
          have hf3H15_H33 := hf3H15_H24.kept (hkH33 _ hf3H15_H24.lt (by first | omega | exact hI32.2.2.2.l | exact hI32.2.2.2.r))
          have hf0H15_H33 := hf0H15_H24.kept (hkH33 _ hf0H15_H24.lt.1 (by first | omega | exact hI32.2.2.2.l | exact hI32.2.2.2.r)) (hkH33 _ hf0H15_H24.lt.2 (by first | omega | exact hI32.2.2.2.l | exact hI32.2.2.2.r))
          have c32_H33 := c32.kept (hkH33 _ c32.lt.1 (by first | omega | exact hI32.2.2.2.l | exact hI32.2.2.2.r)) (hkH33 _ c32.lt.2 (by first | omega | exact hI32.2.2.2.l | exact hI32.2.2.2.r))
          have lhoH33_0 := hoH33_0.lt
          have hzH33 := hz0.at hAB hS
          have hjH33 := hj0.at hAB hS
          have hkmH33 : ∀ x : Nat, x < (H3).size → H33[x]? = (H3)[x]? := fun x hx => (hkH33 x (by omega) (by omega)).trans (hkmH24 x hx)
          have hmH33 := hmH3.kept hkmH33
          have hltH33 := hmH33.lt
          refine lv_iload hx hb dX3_met_94 (lv_at hl 0 rfl) ?_
          refine c_Vr (C := "java/lang/StringBuilder") (As := [.int (iI (dI (wyI (dt a.toNat) n c1.toNat)))]) (rest := []) (r := some (.ref H19.size)) (st1 := [.ref H19.size]) fx hl (jm_appendI θ l S0 _ hzH33 hjH33 H19.size (dI (wyI (dt a.toNat) n c1.toNat)) H22.size 16 ((0 + ln) + 0) hoH33_0 (by omega) (by omega) (by omega) (by omega) (by omega) (by omega)) (ob_recv hK hoH33_0.split.choose_spec.1 rfl) dX3_met_96 k1474 k458 k459 k3 k460 hd_J4_append_bf812 rfl rfl ⟨by decide, by decide⟩ (Nat.le_of_ble_eq_true rfl) ⟨by (try dsimp only); omega, by (try dsimp only); omega⟩ hS (fun x hx => by first | exact hx.elim | ((try dsimp only at hx ⊢); omega)) (fun H34 locs hpH34 hsz0H34 hk0H34 hS => ?_)
          obtain ⟨hszH34, hoH34_0⟩ := hpH34
          have hkH34 : ∀ q : Nat, q < (H33).size → ¬ (q = H19.size ∨ q = H22.size) → H34[q]? = (H33)[q]? := fun q hq hn => hk0H34 q hq (by (try dsimp only); omega)
          have hf2H15_H34 := hf2H15_H33.kept (hkH34 _ hf2H15_H33.lt (by first | omega | exact hI32.2.2.2.l | exact hI32.2.2.2.r))
          have hoH19_0_H34 := hoH19_0_H33.kept (hkH34 _ hoH19_0_H33.lt (by first | omega | exact hI32.2.2.2.l | exact hI32.2.2.2.r))
          have hf3H15_H34 := hf3H15_H33.kept (hkH34 _ hf3H15_H33.lt (by first | omega | exact hI32.2.2.2.l | exact hI32.2.2.2.r))
          have hf0H15_H34 := hf0H15_H33.kept (hkH34 _ hf0H15_H33.lt.1 (by first | omega | exact hI32.2.2.2.l | exact hI32.2.2.2.r)) (hkH34 _ hf0H15_H33.lt.2 (by first | omega | exact hI32.2.2.2.l | exact hI32.2.2.2.r))
          have c32_H34 := c32_H33.kept (hkH34 _ c32_H33.lt.1 (by first | omega | exact hI32.2.2.2.l | exact hI32.2.2.2.r)) (hkH34 _ c32_H33.lt.2 (by first | omega | exact hI32.2.2.2.l | exact hI32.2.2.2.r))
          have lhoH34_0 := hoH34_0.lt
          have hzH34 := hz0.at hAB hS
          have hjH34 := hj0.at hAB hS
          have hkmH34 : ∀ x : Nat, x < (H3).size → H34[x]? = (H3)[x]? := fun x hx => (hkH34 x (by omega) (by omega)).trans (hkmH33 x hx)
          have hmH34 := hmH3.kept hkmH34
          have hltH34 := hmH34.lt
          refine c_Vr (C := "java/lang/StringBuilder") (As := []) (rest := []) (r := some (.ref H34.size)) (st1 := [.ref H34.size]) fx hl (jm_toString θ l S0 _ hzH34 hjH34 H19.size H22.size 16 (((0 + ln) + 0) + sgI (dI (wyI (dt a.toNat) n c1.toNat))) hoH34_0 (by omega) (by omega) (by omega)) (ob_recv hK hoH34_0.split.choose_spec.1 rfl) dX3_met_99 k1475 k483 k484 k3 k485 hd_J4_toString_0e30d rfl rfl ⟨by decide, by decide⟩ (Nat.le_of_ble_eq_true rfl) ⟨by (try dsimp only); omega, by (try dsimp only); omega⟩ hS (fun x hx => by first | exact hx.elim | ((try dsimp only at hx ⊢); omega)) (fun H35 locs hpH35 hsz0H35 hk0H35 hS => ?_)
          obtain ⟨hszH35, hoH35_0, hoH35_1⟩ := hpH35
          have hkH35 : ∀ q : Nat, q < (H34).size → H35[q]? = (H34)[q]? := fun q hq => hk0H35 q hq (Nat.not_le.mpr hq)
          have hf2H15_H35 := hf2H15_H34.kept (hkH35 _ hf2H15_H34.lt)
          have hoH19_0_H35 := hoH19_0_H34.kept (hkH35 _ hoH19_0_H34.lt)
          have hf3H15_H35 := hf3H15_H34.kept (hkH35 _ hf3H15_H34.lt)
          have hoH34_0_H35 := hoH34_0.kept (hkH35 _ hoH34_0.lt.1) (hkH35 _ hoH34_0.lt.2)
          have hf0H15_H35 := hf0H15_H34.kept (hkH35 _ hf0H15_H34.lt.1) (hkH35 _ hf0H15_H34.lt.2)
          have c32_H35 := c32_H34.kept (hkH35 _ c32_H34.lt.1) (hkH35 _ c32_H34.lt.2)
          have lhoH35_0 := hoH35_0.lt
          have lhoH35_1 := hoH35_1.lt
          have hzH35 := hz0.at hAB hS
          have hjH35 := hj0.at hAB hS
          have hkmH35 : ∀ x : Nat, x < (H3).size → H35[x]? = (H3)[x]? := fun x hx => (hkH35 x (by omega)).trans (hkmH34 x hx)
          have hmH35 := hmH3.kept hkmH35
          have hltH35 := hmH35.lt
          refine lv_astore (lv' := [(4, .ref H34.size), (7, .int (iI (dI (wyI (dt a.toNat) n c1.toNat)))), (5, .int (iI bf)), (6, .ref H6.size), (0, .ref (w 0)), (1, .int (iI a)), (2, .int (iI n)), (3, .int (iI k))]) hx hb dX3_met_102 hl (by decide) rfl (fun ls hl => ?_)
          refine lv_iload hx hb dX3_met_104 (lv_at hl 1 rfl) ?_
          refine lv_istore (lv' := [(5, .int (iI (dI (wyI (dt a.toNat) n c1.toNat)))), (4, .ref H34.size), (7, .int (iI (dI (wyI (dt a.toNat) n c1.toNat)))), (6, .ref H6.size), (0, .ref (w 0)), (1, .int (iI a)), (2, .int (iI n)), (3, .int (iI k))]) hx hb dX3_met_106 hl (by decide) rfl (fun ls hl => ?_)
          refine lv_goto (tgt := 32) hx hb dX3_met_108 (by decide) ?_
          have twy : dI (wyI (dt a.toNat) n ((c1 + 1) - 1).toNat) = dI (wyI (dt a.toNat) n c1.toNat) := by rw [show Int.toNat ((c1 + 1) - 1) = c1.toNat by omega]
          exact ih32 ((H34.size : Nat), ((dI (wyI (dt a.toNat) n c1.toNat)) : Int), ((H34.size + 1) : Nat), (Int.toNat ((((0 + ln) + 0) + sgI (dI (wyI (dt a.toNat) n c1.toNat)))) : Nat), (c1 + 1 : Int), (c1 : Int)) _ _ _ _ _ ⟨⟨by first | ((try dsimp only); (first | omega | exact hI32.2.2.2 | exact NE9.mk (by omega) (by omega) | exact Hid.mk (by have h9 := hI32.2.2.1.out; have h10 := twp.out; have h11 := hbr9.out; omega))) | (dsimp only; done), by first | ((try dsimp only); (first | omega | exact hI32.2.2.2 | exact NE9.mk (by omega) (by omega) | exact Hid.mk (by have h9 := hI32.2.2.1.out; have h10 := twp.out; have h11 := hbr9.out; omega))) | (dsimp only; done), by first | ((try dsimp only); (first | omega | exact hI32.2.2.2 | exact NE9.mk (by omega) (by omega) | exact Hid.mk (by have h9 := hI32.2.2.1.out; have h10 := twp.out; have h11 := hbr9.out; omega))) | (dsimp only; done), by first | ((try dsimp only); (first | omega | exact hI32.2.2.2 | exact NE9.mk (by omega) (by omega) | exact Hid.mk (by have h9 := hI32.2.2.1.out; have h10 := twp.out; have h11 := hbr9.out; omega))) | (dsimp only; done)⟩, (by exact hoH35_0), hoH19_0_H35, hf2H15_H35, hf3H15_H35, hkmH35, (by omega), hS, by (try dsimp only); omega, by (try dsimp only); omega⟩ (by (try dsimp only); omega) (lv_sub hl [1, 0, 3, 4, 5, 6, 7] rfl)
  · exact (show False by omega).elim

set_option maxHeartbeats 4000000 in
set_option maxRecDepth 100000 in
theorem mno1_met (θ : TH) (l : Launch) (S0 : State) (H : Heap) (w : Nat → Nat) (r q : Nat → Nat) (dt : Nat → Int) (sv : Nat → Nat → Int) (th dn rf kn : Int) (hw : MWR θ S0 w H r q dt sv th dn rf kn) (hj : SJ θ S0 H) (a n k : Int) (h_0 : -2147483648 ≤ a ∧ a < 2147483648) (h_1 : -2147483648 ≤ n ∧ n < 2147483648) (h_2 : -2147483648 ≤ k ∧ k < 2147483648) (h_3 : ¬ (0 ≤ a ∧ a < 6)) : CT l yX3_met cX3_met 8 (some (.object "java/lang/String")) 3 65 0 0 [.ref (w 0), .int (iI a), .int (iI n), .int (iI k)] S0 H (fun v9 H1 => (∃ x y ln : Nat, v9 = some (.ref x) ∧ STg S0 H1 x y ln) ∧ ∃ r1 q1 : Nat → Nat, MWR θ S0 w H1 r1 q1 dt sv 1 dn rf kn ∧ NW 6 H.size r r1 ∧ NW 3 H.size q q1) (fun _ _ => False) (WA w H.size) := by
  refine ct_of (by decide +kernel) (Nat.le_of_ble_eq_true rfl) ?_
  intro pg en s mi args below meth co ls fx hs hr hlk hxt hin hl
  subst hs
  obtain ⟨hx, hb, hml, hown, hts⟩ := id fx.1
  have hS : va_S (fun x : Nat => (x = w 0 ∨ x = w 1 ∨ x = w 2) ∨ s.heap.size ≤ x) s.heap s.heap [] := va_S.rf
  obtain ⟨hz, hu, hm, hd, hsv⟩ := id hw
  have hAB : ∀ x : Nat, (fun x : Nat => (x = w 0 ∨ x = w 1 ∨ x = w 2) ∨ s.heap.size ≤ x) x → θ.2.2.2 ≤ x := wa_b hu hz.2.1
  have hz0 := hz
  have hK := sz_K fx.2 hz
  have hlt0 := hm.lt
  have hu1 := hu.1
  have hAn : ∀ x : Nat, s.heap.size ≤ x → (fun x : Nat => (x = w 0 ∨ x = w 1 ∨ x = w 2) ∨ s.heap.size ≤ x) x := fun _ h => Or.inr h
  have hj0 := hj
  have hz2 := hz.2.1
  refine lv_aload_n hx hb dX3_met_0 rfl (lv_at hl 0 rfl) ?_
  refine lv_iload_n hx hb dX3_met_1 rfl (lv_at hl 1 rfl) ?_
  refine lv_iload_n hx hb dX3_met_2 rfl (lv_at hl 2 rfl) ?_
  refine lv_iload_n hx hb dX3_met_3 rfl (lv_at hl 3 rfl) ?_
  obtain ⟨t1, f2, hq1t1, hq2t1⟩ := fw_ex (0 ≤ a ∧ a < 6) ((-1200 ≤ n ∧ n ≤ 1200) ∧ 0 ≤ k ∧ k ≤ 48)
  have hmw : MWR θ S0 w s.heap r q dt sv th dn rf kn := ⟨hz, hu, hm, hd, hsv⟩
  refine c_M (w := w) (As := [.int (iI a), .int (iI n), .int (iI k)]) (rest := []) (b := w 0) (C := RX3) fx hl (mw_failsWay θ l S0 _ w _ _ _ _ _ _ _ _ hmw a n k t1 f2 (by omega) (by omega) (by omega) hq1t1 hq2t1) (ob_recv hK hm.1 rfl) dX3_met_4 k1296 k1298 ks20 k6 k1299 hd_X3_failsWay rfl ⟨by decide, by decide⟩ (Nat.le_of_ble_eq_true rfl) ⟨by dsimp only; omega, by dsimp only; omega⟩ hS (fun x hx => hx ▸ Or.inl (Or.inl rfl)) (fun H3 locs hmH3 hszH3 hk0H3 hS => ?_)
  have hkH3 : ∀ x : Nat, x < (s.heap).size → ¬ x = w 0 → H3[x]? = (s.heap)[x]? := hk0H3
  have hzH3 := hz0.at hAB hS
  have hltH3 := hmH3.lt
  have hjH3 := hj0.at hAB hS
  refine q_ieq (tgt := 13) hx hb dX3_met_7 (by decide) (by omega) (fun c4 => ?_) (fun c4 => ?_)
  · exact (show False by omega).elim
  · refine va_ldcS hx hb hown (vk_R.warm fx.2 hj0.1.2.2.2.2.2.2.1) dX3_met_10 ?_
    have c5 := (hjH3.2.2.2.2.2.2.2.1).g
    have lc5 := c5.lt
    have mc5 := (hj0.2.2.2.2.2.2.2.1).g.lt
    obtain rfl : t1 = 1 := by omega
    have hmw : MWR θ S0 w H3 r q dt sv 1 dn rf kn := ⟨hzH3, hu, hmH3, hd, hsv⟩
    first | exact e_a hx hb hr (by first | exact Or.inl ⟨_, rfl⟩ | exact Or.inr ⟨_, rfl⟩) hlk hS dX3_met_12 (by first | exact Nat.le_of_ble_eq_true rfl | ((try dsimp only); omega)) (by first | exact Nat.le_of_ble_eq_true rfl | ((try dsimp only); omega)) ⟨⟨_, _, _, rfl, c5⟩, r, q, by first | exact hmw | (subst_vars; exact hmw), by first | exact nw_rf | exact nw_up (by omega) | exact nw_up2 (by omega), by first | exact nw_rf | exact nw_up (by omega) | exact nw_up2 (by omega)⟩ | exact (show False by omega).elim

set_option maxHeartbeats 4000000 in
set_option maxRecDepth 100000 in
theorem mno2_met (θ : TH) (l : Launch) (S0 : State) (H : Heap) (w : Nat → Nat) (r q : Nat → Nat) (dt : Nat → Int) (sv : Nat → Nat → Int) (th dn rf kn : Int) (hw : MWR θ S0 w H r q dt sv th dn rf kn) (hj : SJ θ S0 H) (a n k : Int) (h_0 : -2147483648 ≤ a ∧ a < 2147483648) (h_1 : -2147483648 ≤ n ∧ n < 2147483648) (h_2 : -2147483648 ≤ k ∧ k < 2147483648) (h_3 : 0 ≤ a ∧ a < 6) (h_4 : ¬ (-1200 ≤ n ∧ n ≤ 1200)) : CT l yX3_met cX3_met 8 (some (.object "java/lang/String")) 3 65 0 0 [.ref (w 0), .int (iI a), .int (iI n), .int (iI k)] S0 H (fun v9 H1 => (∃ x y ln : Nat, v9 = some (.ref x) ∧ STg S0 H1 x y ln) ∧ ∃ r1 q1 : Nat → Nat, MWR θ S0 w H1 r1 q1 dt sv 2 dn rf kn ∧ NW 6 H.size r r1 ∧ NW 3 H.size q q1) (fun _ _ => False) (WA w H.size) := by
  refine ct_of (by decide +kernel) (Nat.le_of_ble_eq_true rfl) ?_
  intro pg en s mi args below meth co ls fx hs hr hlk hxt hin hl
  subst hs
  obtain ⟨hx, hb, hml, hown, hts⟩ := id fx.1
  have hS : va_S (fun x : Nat => (x = w 0 ∨ x = w 1 ∨ x = w 2) ∨ s.heap.size ≤ x) s.heap s.heap [] := va_S.rf
  obtain ⟨hz, hu, hm, hd, hsv⟩ := id hw
  have hAB : ∀ x : Nat, (fun x : Nat => (x = w 0 ∨ x = w 1 ∨ x = w 2) ∨ s.heap.size ≤ x) x → θ.2.2.2 ≤ x := wa_b hu hz.2.1
  have hz0 := hz
  have hK := sz_K fx.2 hz
  have hlt0 := hm.lt
  have hu1 := hu.1
  have hAn : ∀ x : Nat, s.heap.size ≤ x → (fun x : Nat => (x = w 0 ∨ x = w 1 ∨ x = w 2) ∨ s.heap.size ≤ x) x := fun _ h => Or.inr h
  have hj0 := hj
  have hz2 := hz.2.1
  refine lv_aload_n hx hb dX3_met_0 rfl (lv_at hl 0 rfl) ?_
  refine lv_iload_n hx hb dX3_met_1 rfl (lv_at hl 1 rfl) ?_
  refine lv_iload_n hx hb dX3_met_2 rfl (lv_at hl 2 rfl) ?_
  refine lv_iload_n hx hb dX3_met_3 rfl (lv_at hl 3 rfl) ?_
  obtain ⟨t1, f2, hq1t1, hq2t1⟩ := fw_ex (0 ≤ a ∧ a < 6) ((-1200 ≤ n ∧ n ≤ 1200) ∧ 0 ≤ k ∧ k ≤ 48)
  have hmw : MWR θ S0 w s.heap r q dt sv th dn rf kn := ⟨hz, hu, hm, hd, hsv⟩
  refine c_M (w := w) (As := [.int (iI a), .int (iI n), .int (iI k)]) (rest := []) (b := w 0) (C := RX3) fx hl (mw_failsWay θ l S0 _ w _ _ _ _ _ _ _ _ hmw a n k t1 f2 (by omega) (by omega) (by omega) hq1t1 hq2t1) (ob_recv hK hm.1 rfl) dX3_met_4 k1296 k1298 ks20 k6 k1299 hd_X3_failsWay rfl ⟨by decide, by decide⟩ (Nat.le_of_ble_eq_true rfl) ⟨by dsimp only; omega, by dsimp only; omega⟩ hS (fun x hx => hx ▸ Or.inl (Or.inl rfl)) (fun H3 locs hmH3 hszH3 hk0H3 hS => ?_)
  have hkH3 : ∀ x : Nat, x < (s.heap).size → ¬ x = w 0 → H3[x]? = (s.heap)[x]? := hk0H3
  have hzH3 := hz0.at hAB hS
  have hltH3 := hmH3.lt
  have hjH3 := hj0.at hAB hS
  refine q_ieq (tgt := 13) hx hb dX3_met_7 (by decide) (by omega) (fun c4 => ?_) (fun c4 => ?_)
  · exact (show False by omega).elim
  · refine va_ldcS hx hb hown (vk_R.warm fx.2 hj0.1.2.2.2.2.2.2.1) dX3_met_10 ?_
    have c5 := (hjH3.2.2.2.2.2.2.2.1).g
    have lc5 := c5.lt
    have mc5 := (hj0.2.2.2.2.2.2.2.1).g.lt
    obtain rfl : t1 = 2 := by omega
    have hmw : MWR θ S0 w H3 r q dt sv 2 dn rf kn := ⟨hzH3, hu, hmH3, hd, hsv⟩
    first | exact e_a hx hb hr (by first | exact Or.inl ⟨_, rfl⟩ | exact Or.inr ⟨_, rfl⟩) hlk hS dX3_met_12 (by first | exact Nat.le_of_ble_eq_true rfl | ((try dsimp only); omega)) (by first | exact Nat.le_of_ble_eq_true rfl | ((try dsimp only); omega)) ⟨⟨_, _, _, rfl, c5⟩, r, q, by first | exact hmw | (subst_vars; exact hmw), by first | exact nw_rf | exact nw_up (by omega) | exact nw_up2 (by omega), by first | exact nw_rf | exact nw_up (by omega) | exact nw_up2 (by omega)⟩ | exact (show False by omega).elim

set_option maxHeartbeats 4000000 in
set_option maxRecDepth 100000 in
theorem mno3_met (θ : TH) (l : Launch) (S0 : State) (H : Heap) (w : Nat → Nat) (r q : Nat → Nat) (dt : Nat → Int) (sv : Nat → Nat → Int) (th dn rf kn : Int) (hw : MWR θ S0 w H r q dt sv th dn rf kn) (hj : SJ θ S0 H) (a n k : Int) (h_0 : -2147483648 ≤ a ∧ a < 2147483648) (h_1 : -2147483648 ≤ n ∧ n < 2147483648) (h_2 : -2147483648 ≤ k ∧ k < 2147483648) (h_3 : 0 ≤ a ∧ a < 6) (h_4 : -1200 ≤ n ∧ n ≤ 1200) (h_5 : ¬ (0 ≤ k ∧ k ≤ 48)) : CT l yX3_met cX3_met 8 (some (.object "java/lang/String")) 3 65 0 0 [.ref (w 0), .int (iI a), .int (iI n), .int (iI k)] S0 H (fun v9 H1 => (∃ x y ln : Nat, v9 = some (.ref x) ∧ STg S0 H1 x y ln) ∧ ∃ r1 q1 : Nat → Nat, MWR θ S0 w H1 r1 q1 dt sv 2 dn rf kn ∧ NW 6 H.size r r1 ∧ NW 3 H.size q q1) (fun _ _ => False) (WA w H.size) := by
  refine ct_of (by decide +kernel) (Nat.le_of_ble_eq_true rfl) ?_
  intro pg en s mi args below meth co ls fx hs hr hlk hxt hin hl
  subst hs
  obtain ⟨hx, hb, hml, hown, hts⟩ := id fx.1
  have hS : va_S (fun x : Nat => (x = w 0 ∨ x = w 1 ∨ x = w 2) ∨ s.heap.size ≤ x) s.heap s.heap [] := va_S.rf
  obtain ⟨hz, hu, hm, hd, hsv⟩ := id hw
  have hAB : ∀ x : Nat, (fun x : Nat => (x = w 0 ∨ x = w 1 ∨ x = w 2) ∨ s.heap.size ≤ x) x → θ.2.2.2 ≤ x := wa_b hu hz.2.1
  have hz0 := hz
  have hK := sz_K fx.2 hz
  have hlt0 := hm.lt
  have hu1 := hu.1
  have hAn : ∀ x : Nat, s.heap.size ≤ x → (fun x : Nat => (x = w 0 ∨ x = w 1 ∨ x = w 2) ∨ s.heap.size ≤ x) x := fun _ h => Or.inr h
  have hj0 := hj
  have hz2 := hz.2.1
  refine lv_aload_n hx hb dX3_met_0 rfl (lv_at hl 0 rfl) ?_
  refine lv_iload_n hx hb dX3_met_1 rfl (lv_at hl 1 rfl) ?_
  refine lv_iload_n hx hb dX3_met_2 rfl (lv_at hl 2 rfl) ?_
  refine lv_iload_n hx hb dX3_met_3 rfl (lv_at hl 3 rfl) ?_
  obtain ⟨t1, f2, hq1t1, hq2t1⟩ := fw_ex (0 ≤ a ∧ a < 6) ((-1200 ≤ n ∧ n ≤ 1200) ∧ 0 ≤ k ∧ k ≤ 48)
  have hmw : MWR θ S0 w s.heap r q dt sv th dn rf kn := ⟨hz, hu, hm, hd, hsv⟩
  refine c_M (w := w) (As := [.int (iI a), .int (iI n), .int (iI k)]) (rest := []) (b := w 0) (C := RX3) fx hl (mw_failsWay θ l S0 _ w _ _ _ _ _ _ _ _ hmw a n k t1 f2 (by omega) (by omega) (by omega) hq1t1 hq2t1) (ob_recv hK hm.1 rfl) dX3_met_4 k1296 k1298 ks20 k6 k1299 hd_X3_failsWay rfl ⟨by decide, by decide⟩ (Nat.le_of_ble_eq_true rfl) ⟨by dsimp only; omega, by dsimp only; omega⟩ hS (fun x hx => hx ▸ Or.inl (Or.inl rfl)) (fun H3 locs hmH3 hszH3 hk0H3 hS => ?_)
  have hkH3 : ∀ x : Nat, x < (s.heap).size → ¬ x = w 0 → H3[x]? = (s.heap)[x]? := hk0H3
  have hzH3 := hz0.at hAB hS
  have hltH3 := hmH3.lt
  have hjH3 := hj0.at hAB hS
  refine q_ieq (tgt := 13) hx hb dX3_met_7 (by decide) (by omega) (fun c4 => ?_) (fun c4 => ?_)
  · exact (show False by omega).elim
  · refine va_ldcS hx hb hown (vk_R.warm fx.2 hj0.1.2.2.2.2.2.2.1) dX3_met_10 ?_
    have c5 := (hjH3.2.2.2.2.2.2.2.1).g
    have lc5 := c5.lt
    have mc5 := (hj0.2.2.2.2.2.2.2.1).g.lt
    obtain rfl : t1 = 2 := by omega
    have hmw : MWR θ S0 w H3 r q dt sv 2 dn rf kn := ⟨hzH3, hu, hmH3, hd, hsv⟩
    first | exact e_a hx hb hr (by first | exact Or.inl ⟨_, rfl⟩ | exact Or.inr ⟨_, rfl⟩) hlk hS dX3_met_12 (by first | exact Nat.le_of_ble_eq_true rfl | ((try dsimp only); omega)) (by first | exact Nat.le_of_ble_eq_true rfl | ((try dsimp only); omega)) ⟨⟨_, _, _, rfl, c5⟩, r, q, by first | exact hmw | (subst_vars; exact hmw), by first | exact nw_rf | exact nw_up (by omega) | exact nw_up2 (by omega), by first | exact nw_rf | exact nw_up (by omega) | exact nw_up2 (by omega)⟩ | exact (show False by omega).elim
