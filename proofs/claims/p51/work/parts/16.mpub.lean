theorem inI_1 (m : Int) : inI m 1 = fI m := by
  have h := len_b m
  unfold inI
  split <;> omega
theorem inI_31 (m : Int) : inI m 31 = fI (m + 1) - 1 := by
  have h := len_b m
  unfold inI
  split <;> omega
set_option maxHeartbeats 4000000 in
set_option maxRecDepth 100000 in
theorem mok_of (θ : TH) (l : Launch) (S0 : State) (H : Heap) (w : Nat → Nat) (r q : Nat → Nat) (dt : Nat → Int) (sv : Nat → Nat → Int) (th dn rf kn : Int) (hw : MWR θ S0 w H r q dt sv th dn rf kn) (a y m1 k m : Int) (h_0 : -2147483648 ≤ a ∧ a < 2147483648) (h_1 : -2147483648 ≤ y ∧ y < 2147483648) (h_2 : -2147483648 ≤ m1 ∧ m1 < 2147483648) (h_3 : -2147483648 ≤ k ∧ k < 2147483648) (h_4 : m = 12 * y + m1 - 1) (h_5 : 0 ≤ a ∧ a < 6) (h_6 : -9999 ≤ y ∧ y ≤ 9999) (h_7 : 1 ≤ m1 ∧ m1 ≤ 12) (h_8 : 1 ≤ k ∧ k ≤ 31) (h_9 : k ≤ fI (m + 1) - fI m) : CT l yX3_of cX3_of 6 (some .int) 8 170 1 2 [.ref (w 0), .int (iI a), .int (iI y), .int (iI m1), .int (iI k)] S0 H (fun v9 H1 => v9 = some (.int (iI (inI m k))) ∧ ∃ r1 q1 : Nat → Nat, MWR θ S0 w H1 r1 q1 (up dt a.toNat (inI m k)) sv 0 (dn + 1) rf kn ∧ NW 6 H.size r r1 ∧ NW 3 H.size q q1) (fun _ _ => False) (WA w H.size) := by
  refine ct_of (by decide +kernel) (Nat.le_of_ble_eq_true rfl) ?_
  intro pg en s mi args below meth co ls fx hs hr hlk hxt hin hl
  subst hs
  obtain ⟨hx, hb, hml, hown, hts⟩ := id fx.1
  have hS : va_S (WA w s.heap.size) s.heap s.heap [] := va_S.rf
  obtain ⟨hz, hu, hm, hd, hsv⟩ := id hw
  have hAB : ∀ x : Nat, (WA w s.heap.size) x → θ.2.2.2 ≤ x := wa_b hu hz.2.1
  have hz0 := hz
  have hK := sz_K fx.2 hz
  have hlt0 := hm.lt
  have hu1 := hu.1
  have hAn : ∀ x : Nat, s.heap.size ≤ x → (WA w s.heap.size) x := fun _ h => Or.inr h
  have tt1 := inM (m := m) (by omega)
  refine lv_aload_n hx hb dX3_of_0 rfl (lv_at hl 0 rfl) ?_
  refine lv_iload_n hx hb dX3_of_1 rfl (lv_at hl 1 rfl) ?_
  obtain ⟨r1, hr1⟩ := bex (a < 0 ∨ 5 < a)
  refine c_P (As := [.int (iI a)]) (rest := [.ref (w 0)]) fx hl (pm_X3_isNo l a r1 hr1 (by omega)) dX3_of_2 k1113 k1114 k6 k1115 hd_X3_isNo rfl ⟨by decide, by decide⟩ (Nat.le_of_ble_eq_true rfl) ⟨by dsimp only; omega, by dsimp only; omega⟩ ?_
  have br1 : r1 = 0 ∨ r1 = 1 := hr1.elim (fun h => Or.inr h.1) (fun h => Or.inl h.1)
  refine lv_iload_n hx hb dX3_of_5 rfl (lv_at hl 2 rfl) ?_
  refine q_sip hx hb dX3_of_6 (by decide) ?_
  refine q_sip hx hb dX3_of_9 (by decide) ?_
  obtain ⟨r2, hr2⟩ := bex (y < (-9999) ∨ 9999 < y)
  refine c_P (As := [.int (iI y), .int (iI (-9999)), .int (iI 9999)]) (rest := [.int (iI r1), .ref (w 0)]) fx hl (pm_X3_isOut l y (-9999) 9999 r2 hr2 (by omega) (by omega) (by omega)) dX3_of_12 k1116 k1117 k6 k1118 hd_X3_isOut rfl ⟨by decide, by decide⟩ (Nat.le_of_ble_eq_true rfl) ⟨by dsimp only; omega, by dsimp only; omega⟩ ?_
  have br2 : r2 = 0 ∨ r2 = 1 := hr2.elim (fun h => Or.inr h.1) (fun h => Or.inl h.1)
  refine q_ine (tgt := 39) hx hb dX3_of_15 (by decide) (by omega) (fun c3 => ?_) (fun c3 => ?_)
  · exact (show False by omega).elim
  · refine lv_iload_n hx hb dX3_of_18 rfl (lv_at hl 3 rfl) ?_
    refine q_con hx hb dX3_of_19 ?_
    refine q_bip hx hb dX3_of_20 (by decide) ?_
    obtain ⟨r4, hr4⟩ := bex (m1 < 1 ∨ 12 < m1)
    refine c_P (As := [.int (iI m1), .int (iI 1), .int (iI 12)]) (rest := [.int (iI r1), .ref (w 0)]) fx hl (pm_X3_isOut l m1 1 12 r4 hr4 (by omega) (by omega) (by omega)) dX3_of_22 k1116 k1117 k6 k1118 hd_X3_isOut rfl ⟨by decide, by decide⟩ (Nat.le_of_ble_eq_true rfl) ⟨by dsimp only; omega, by dsimp only; omega⟩ ?_
    have br4 : r4 = 0 ∨ r4 = 1 := hr4.elim (fun h => Or.inr h.1) (fun h => Or.inl h.1)
    refine q_ine (tgt := 39) hx hb dX3_of_25 (by decide) (by omega) (fun c5 => ?_) (fun c5 => ?_)
    · exact (show False by omega).elim
    · refine lv_iload hx hb dX3_of_28 (lv_at hl 4 rfl) ?_
      refine q_con hx hb dX3_of_30 ?_
      refine q_bip hx hb dX3_of_31 (by decide) ?_
      obtain ⟨r6, hr6⟩ := bex (k < 1 ∨ 31 < k)
      refine c_P (As := [.int (iI k), .int (iI 1), .int (iI 31)]) (rest := [.int (iI r1), .ref (w 0)]) fx hl (pm_X3_isOut l k 1 31 r6 hr6 (by omega) (by omega) (by omega)) dX3_of_33 k1116 k1117 k6 k1118 hd_X3_isOut rfl ⟨by decide, by decide⟩ (Nat.le_of_ble_eq_true rfl) ⟨by dsimp only; omega, by dsimp only; omega⟩ ?_
      have br6 : r6 = 0 ∨ r6 = 1 := hr6.elim (fun h => Or.inr h.1) (fun h => Or.inl h.1)
      refine q_ieq (tgt := 43) hx hb dX3_of_36 (by decide) (by omega) (fun c7 => ?_) (fun c7 => ?_)
      · refine q_con hx hb dX3_of_43 ?_
        refine q_con hx hb dX3_of_44 ?_
        obtain ⟨t8, f9, hq1t8, hq2t8⟩ := fails_ex r1 0 0 (by omega) (by omega) (by omega)
        have hmw : MWR θ S0 w s.heap r q dt sv th dn rf kn := ⟨hz, hu, hm, hd, hsv⟩
        refine c_M (w := w) (As := [.int (iI r1), .int (iI 0), .int (iI 0)]) (rest := []) (b := w 0) (C := RX3) fx hl (mw_fails θ l S0 _ w _ _ _ _ _ _ _ _ hmw r1 0 0 t8 f9 (by omega) hq1t8 hq2t8) (ob_recv hK hm.1 rfl) dX3_of_45 k1119 k1121 ks10 k6 k1122 hd_X3_fails rfl ⟨by decide, by decide⟩ (Nat.le_of_ble_eq_true rfl) ⟨by dsimp only; omega, by dsimp only; omega⟩ hS (fun x hx => hx ▸ Or.inl (Or.inl rfl)) (fun H10 locs hmH10 hszH10 hk0H10 hS => ?_)
        have hkH10 : ∀ x : Nat, x < (s.heap).size → ¬ x = w 0 → H10[x]? = (s.heap)[x]? := hk0H10
        have hzH10 := hz0.at hAB hS
        have hltH10 := hmH10.lt
        refine q_ieq (tgt := 53) hx hb dX3_of_48 (by decide) (by omega) (fun c11 => ?_) (fun c11 => ?_)
        · refine q_bip hx hb dX3_of_53 (by decide) ?_
          refine lv_iload_n hx hb dX3_of_55 rfl (lv_at hl 2 rfl) ?_
          refine q_mul hx hb dX3_of_56 ?_
          refine lv_iload_n hx hb dX3_of_57 rfl (lv_at hl 3 rfl) ?_
          refine q_add hx hb dX3_of_58 ?_
          refine q_con hx hb dX3_of_59 ?_
          refine q_sub hx hb dX3_of_60 ?_
          refine q_as (m) (by omega) ?_
          refine lv_istore (lv' := [(5, .int (iI m)), (0, .ref (w 0)), (1, .int (iI a)), (2, .int (iI y)), (3, .int (iI m1)), (4, .int (iI k))]) hx hb dX3_of_61 hl (by decide) rfl (fun ls hl => ?_)
          refine lv_aload_n hx hb dX3_of_63 rfl (lv_at hl 1 rfl) ?_
          refine q_con hx hb dX3_of_64 ?_
          refine q_con hx hb dX3_of_65 ?_
          refine lv_iload hx hb dX3_of_66 (lv_at hl 5 rfl) ?_
          refine lv_iload hx hb dX3_of_68 (lv_at hl 0 rfl) ?_
          refine c_H (As := [.int (iI m)]) (rest := [.int (iI k), .int (iI 0), .int (iI 0), .ref (w 0)]) fx hl (pm_X3_length θ l S0 _ hzH10 m (by omega)) dX3_of_70 k1085 k1086 k6 k1087 hd_X3_length rfl ⟨by decide, by decide⟩ (Nat.le_of_ble_eq_true rfl) ⟨by dsimp only; omega, by dsimp only; omega⟩ ?_
          refine q_nm (fun z12 ez12 => ?_)
          have t0z12 := len_b m
          refine q_cle (tgt := 80) hx hb dX3_of_73 (by decide) (by omega) (by omega) (fun c13 => ?_) (fun c13 => ?_)
          · refine q_con hx hb dX3_of_80 ?_
            obtain ⟨t14, f15, hq1t14, hq2t14⟩ := fails_ex 0 0 0 (by omega) (by omega) (by omega)
            have hmw : MWR θ S0 w H10 r q dt sv t8 dn rf kn := ⟨hzH10, hu, hmH10, hd, hsv⟩
            refine c_M (w := w) (As := [.int (iI 0), .int (iI 0), .int (iI 0)]) (rest := []) (b := w 0) (C := RX3) fx hl (mw_fails θ l S0 _ w _ _ _ _ _ _ _ _ hmw 0 0 0 t14 f15 (by omega) hq1t14 hq2t14) (ob_recv hK hmH10.1 rfl) dX3_of_81 k1119 k1121 ks10 k6 k1122 hd_X3_fails rfl ⟨by decide, by decide⟩ (Nat.le_of_ble_eq_true rfl) ⟨by dsimp only; omega, by dsimp only; omega⟩ hS (fun x hx => hx ▸ Or.inl (Or.inl rfl)) (fun H16 locs hmH16 hszH16 hk0H16 hS => ?_)
            have hkH16 : ∀ x : Nat, x < (H10).size → ¬ x = w 0 → H16[x]? = (H10)[x]? := hk0H16
            have hzH16 := hz0.at hAB hS
            have hltH16 := hmH16.lt
            refine q_ieq (tgt := 89) hx hb dX3_of_84 (by decide) (by omega) (fun c17 => ?_) (fun c17 => ?_)
            · refine lv_aload_n hx hb dX3_of_89 rfl (lv_at hl 1 rfl) ?_
              refine lv_iload_n hx hb dX3_of_90 rfl (lv_at hl 2 rfl) ?_
              refine lv_iload hx hb dX3_of_91 (lv_at hl 0 rfl) ?_
              refine lv_iload hx hb dX3_of_93 (lv_at hl 5 rfl) ?_
              refine c_NR (θ := θ) (As := [.int (iI m), .int (iI k)]) (rest := [.int (iI a), .ref (w 0)]) fx hl (pm_X3_within θ l S0 _ hzH16 m k (by omega) (by omega)) dX3_of_95 k1123 k1124 k6 k1125 hd_X3_within rfl ⟨by decide, by decide⟩ (Nat.le_of_ble_eq_true rfl) ⟨by dsimp only; omega, by dsimp only; omega⟩ hS (fun x hx => hAn x (Nat.le_trans hS.1 hx)) (fun q19 H18 locs hqH18 haH18 hszH18 hkH18 hS => ?_)
              have hzH18 := hz0.at hAB hS
              have hmH18 := hmH16.kept hkH18
              have hltH18 := haH18.lt
              have t0q19 := inI_s (m := m) (k := k) (by omega)
              refine q_con hx hb dX3_of_98 ?_
              have hmw : MWR θ S0 w H18 r q dt sv t14 dn rf kn := ⟨hzH18, hu, hmH18, hd, hsv⟩
              refine c_M (w := w) (As := [.int (iI a), .ref q19, .int (iI 0)]) (rest := []) (b := w 0) (C := RX3) fx hl (mw_become_ok θ l S0 _ w _ _ _ _ _ _ _ _ hmw a q19 0 (inI m k) haH18 ⟨by omega, by omega, by omega⟩ (by omega) (by omega) (by omega)) (ob_recv hK hmH18.1 rfl) dX3_of_99 k1126 k1128 ks11 k6 k1129 hd_X3_become rfl ⟨by decide, by decide⟩ (Nat.le_of_ble_eq_true rfl) ⟨by dsimp only; omega, by dsimp only; omega⟩ hS (fun x hx => hx.elim (fun e => Or.inl (Or.inl e)) (fun e => Or.inl (Or.inr (Or.inl e)))) (fun H20 locs hmH20 hszH20 hk0H20 hS => ?_)
              have hkH20 : ∀ x : Nat, x < (H18).size → ¬ (x = w 0 ∨ x = w 1) → H20[x]? = (H18)[x]? := hk0H20
              have haH18_H20 := haH18.kept (hkH20 _ haH18.lt (by omega))
              have hzH20 := hz0.at hAB hS
              have hltH20 := hmH20.lt
              refine lv_pop hx hb dX3_of_102 rfl ?_
              refine lv_aload_n hx hb dX3_of_103 rfl (lv_at hl 1 rfl) ?_
              refine lv_iload_n hx hb dX3_of_104 rfl (lv_at hl 2 rfl) ?_
              have hmw : MWR θ S0 w H20 (up r (Int.toNat a) q19) q (up dt (Int.toNat a) (inI m k)) sv t14 (dn + 1) rf kn := ⟨hzH20, hu, hmH20, (fun j hj => by have h9 := hd j hj; show -4371587 ≤ _ ∧ _; simp only [up]; (split <;> omega)), hsv⟩
              refine c_HV (As := [.int (iI a)]) (rest := []) (b := w 0) (C := RX3) fx hl (mr_became θ l S0 _ w _ _ _ _ _ _ _ _ hmw a (by omega)) (ob_recv hK hmH20.1 rfl) dX3_of_105 k1141 k1143 ks12 k6 k1144 hd_X3_became rfl ⟨by decide, by decide⟩ (Nat.le_of_ble_eq_true rfl) ⟨by dsimp only; omega, by dsimp only; omega⟩ ?_
              refine q_nm (fun z21 ez21 => ?_)
              obtain rfl : t14 = 0 := by omega
              have hmw : MWR θ S0 w H20 (up r (Int.toNat a) q19) q (up dt (Int.toNat a) (inI m k)) sv 0 (dn + 1) rf kn := ⟨hzH20, hu, hmH20, (fun j hj => by have h9 := hd j hj; show -4371587 ≤ _ ∧ _; simp only [up]; (split <;> omega)), hsv⟩
              exact e_i hx hb hr hlk hS dX3_of_108 (Nat.le_of_ble_eq_true rfl) (Nat.le_of_ble_eq_true rfl) ⟨ex_i (by subst_vars; first | omega | (simp only [up_s, inI_self, inI_1, inI_31]; done) | (simp only [up_s, inI_self, inI_1, inI_31]; omega) | (simp only [up_s, inI_self, inI_1, inI_31]; subst_vars; first | rfl | omega)), (up r (Int.toNat a) q19), q, by first | exact hmw | (subst_vars; exact hmw) | (simp only [inI_self, inI_1, inI_31] at hmw; subst_vars; exact hmw), by first | exact nw_rf | exact nw_up (by omega) | exact nw_up2 (by omega), by first | exact nw_rf | exact nw_up (by omega) | exact nw_up2 (by omega)⟩
            · exact (show False by omega).elim
          · refine q_con hx hb dX3_of_76 ?_
            refine lv_goto (tgt := 81) hx hb dX3_of_77 (by decide) ?_
            obtain ⟨t22, f23, hq1t22, hq2t22⟩ := fails_ex 0 0 1 (by omega) (by omega) (by omega)
            have hmw : MWR θ S0 w H10 r q dt sv t8 dn rf kn := ⟨hzH10, hu, hmH10, hd, hsv⟩
            refine c_M (w := w) (As := [.int (iI 0), .int (iI 0), .int (iI 1)]) (rest := []) (b := w 0) (C := RX3) fx hl (mw_fails θ l S0 _ w _ _ _ _ _ _ _ _ hmw 0 0 1 t22 f23 (by omega) hq1t22 hq2t22) (ob_recv hK hmH10.1 rfl) dX3_of_81 k1119 k1121 ks10 k6 k1122 hd_X3_fails rfl ⟨by decide, by decide⟩ (Nat.le_of_ble_eq_true rfl) ⟨by dsimp only; omega, by dsimp only; omega⟩ hS (fun x hx => hx ▸ Or.inl (Or.inl rfl)) (fun H24 locs hmH24 hszH24 hk0H24 hS => ?_)
            have hkH24 : ∀ x : Nat, x < (H10).size → ¬ x = w 0 → H24[x]? = (H10)[x]? := hk0H24
            have hzH24 := hz0.at hAB hS
            have hltH24 := hmH24.lt
            refine q_ieq (tgt := 89) hx hb dX3_of_84 (by decide) (by omega) (fun c25 => ?_) (fun c25 => ?_)
            · refine lv_aload_n hx hb dX3_of_89 rfl (lv_at hl 1 rfl) ?_
              refine lv_iload_n hx hb dX3_of_90 rfl (lv_at hl 2 rfl) ?_
              refine lv_iload hx hb dX3_of_91 (lv_at hl 0 rfl) ?_
              refine lv_iload hx hb dX3_of_93 (lv_at hl 5 rfl) ?_
              refine c_NR (θ := θ) (As := [.int (iI m), .int (iI k)]) (rest := [.int (iI a), .ref (w 0)]) fx hl (pm_X3_within θ l S0 _ hzH24 m k (by omega) (by omega)) dX3_of_95 k1123 k1124 k6 k1125 hd_X3_within rfl ⟨by decide, by decide⟩ (Nat.le_of_ble_eq_true rfl) ⟨by dsimp only; omega, by dsimp only; omega⟩ hS (fun x hx => hAn x (Nat.le_trans hS.1 hx)) (fun q27 H26 locs hqH26 haH26 hszH26 hkH26 hS => ?_)
              have hzH26 := hz0.at hAB hS
              have hmH26 := hmH24.kept hkH26
              have hltH26 := haH26.lt
              have t0q27 := inI_s (m := m) (k := k) (by omega)
              refine q_con hx hb dX3_of_98 ?_
              have hmw : MWR θ S0 w H26 r q dt sv t22 dn rf kn := ⟨hzH26, hu, hmH26, hd, hsv⟩
              refine c_M (w := w) (As := [.int (iI a), .ref q27, .int (iI 0)]) (rest := []) (b := w 0) (C := RX3) fx hl (mw_become_ok θ l S0 _ w _ _ _ _ _ _ _ _ hmw a q27 0 (inI m k) haH26 ⟨by omega, by omega, by omega⟩ (by omega) (by omega) (by omega)) (ob_recv hK hmH26.1 rfl) dX3_of_99 k1126 k1128 ks11 k6 k1129 hd_X3_become rfl ⟨by decide, by decide⟩ (Nat.le_of_ble_eq_true rfl) ⟨by dsimp only; omega, by dsimp only; omega⟩ hS (fun x hx => hx.elim (fun e => Or.inl (Or.inl e)) (fun e => Or.inl (Or.inr (Or.inl e)))) (fun H28 locs hmH28 hszH28 hk0H28 hS => ?_)
              have hkH28 : ∀ x : Nat, x < (H26).size → ¬ (x = w 0 ∨ x = w 1) → H28[x]? = (H26)[x]? := hk0H28
              have haH26_H28 := haH26.kept (hkH28 _ haH26.lt (by omega))
              have hzH28 := hz0.at hAB hS
              have hltH28 := hmH28.lt
              refine lv_pop hx hb dX3_of_102 rfl ?_
              refine lv_aload_n hx hb dX3_of_103 rfl (lv_at hl 1 rfl) ?_
              refine lv_iload_n hx hb dX3_of_104 rfl (lv_at hl 2 rfl) ?_
              have hmw : MWR θ S0 w H28 (up r (Int.toNat a) q27) q (up dt (Int.toNat a) (inI m k)) sv t22 (dn + 1) rf kn := ⟨hzH28, hu, hmH28, (fun j hj => by have h9 := hd j hj; show -4371587 ≤ _ ∧ _; simp only [up]; (split <;> omega)), hsv⟩
              refine c_HV (As := [.int (iI a)]) (rest := []) (b := w 0) (C := RX3) fx hl (mr_became θ l S0 _ w _ _ _ _ _ _ _ _ hmw a (by omega)) (ob_recv hK hmH28.1 rfl) dX3_of_105 k1141 k1143 ks12 k6 k1144 hd_X3_became rfl ⟨by decide, by decide⟩ (Nat.le_of_ble_eq_true rfl) ⟨by dsimp only; omega, by dsimp only; omega⟩ ?_
              refine q_nm (fun z29 ez29 => ?_)
              obtain rfl : t22 = 0 := by omega
              have hmw : MWR θ S0 w H28 (up r (Int.toNat a) q27) q (up dt (Int.toNat a) (inI m k)) sv 0 (dn + 1) rf kn := ⟨hzH28, hu, hmH28, (fun j hj => by have h9 := hd j hj; show -4371587 ≤ _ ∧ _; simp only [up]; (split <;> omega)), hsv⟩
              exact e_i hx hb hr hlk hS dX3_of_108 (Nat.le_of_ble_eq_true rfl) (Nat.le_of_ble_eq_true rfl) ⟨ex_i (by subst_vars; first | omega | (simp only [up_s, inI_self, inI_1, inI_31]; done) | (simp only [up_s, inI_self, inI_1, inI_31]; omega) | (simp only [up_s, inI_self, inI_1, inI_31]; subst_vars; first | rfl | omega)), (up r (Int.toNat a) q27), q, by first | exact hmw | (subst_vars; exact hmw) | (simp only [inI_self, inI_1, inI_31] at hmw; subst_vars; exact hmw), by first | exact nw_rf | exact nw_up (by omega) | exact nw_up2 (by omega), by first | exact nw_rf | exact nw_up (by omega) | exact nw_up2 (by omega)⟩
            · exact (show False by omega).elim
        · exact (show False by omega).elim
      · exact (show False by omega).elim

set_option maxHeartbeats 4000000 in
set_option maxRecDepth 100000 in
theorem mno1_of (θ : TH) (l : Launch) (S0 : State) (H : Heap) (w : Nat → Nat) (r q : Nat → Nat) (dt : Nat → Int) (sv : Nat → Nat → Int) (th dn rf kn : Int) (hw : MWR θ S0 w H r q dt sv th dn rf kn) (a y m1 k m : Int) (h_0 : -2147483648 ≤ a ∧ a < 2147483648) (h_1 : -2147483648 ≤ y ∧ y < 2147483648) (h_2 : -2147483648 ≤ m1 ∧ m1 < 2147483648) (h_3 : -2147483648 ≤ k ∧ k < 2147483648) (h_4 : m = 12 * y + m1 - 1) (h_5 : ¬ (0 ≤ a ∧ a < 6)) : CT l yX3_of cX3_of 6 (some .int) 2 42 0 0 [.ref (w 0), .int (iI a), .int (iI y), .int (iI m1), .int (iI k)] S0 H (fun v9 H1 => v9 = some (.int (iI 0)) ∧ ∃ r1 q1 : Nat → Nat, MWR θ S0 w H1 r1 q1 dt sv 1 dn rf kn ∧ NW 6 H.size r r1 ∧ NW 3 H.size q q1) (fun _ _ => False) (WA w H.size) := by
  refine ct_of (by decide +kernel) (Nat.le_of_ble_eq_true rfl) ?_
  intro pg en s mi args below meth co ls fx hs hr hlk hxt hin hl
  subst hs
  obtain ⟨hx, hb, hml, hown, hts⟩ := id fx.1
  have hS : va_S (WA w s.heap.size) s.heap s.heap [] := va_S.rf
  obtain ⟨hz, hu, hm, hd, hsv⟩ := id hw
  have hAB : ∀ x : Nat, (WA w s.heap.size) x → θ.2.2.2 ≤ x := wa_b hu hz.2.1
  have hz0 := hz
  have hK := sz_K fx.2 hz
  have hlt0 := hm.lt
  have hu1 := hu.1
  have hAn : ∀ x : Nat, s.heap.size ≤ x → (WA w s.heap.size) x := fun _ h => Or.inr h
  refine lv_aload_n hx hb dX3_of_0 rfl (lv_at hl 0 rfl) ?_
  refine lv_iload_n hx hb dX3_of_1 rfl (lv_at hl 1 rfl) ?_
  obtain ⟨r1, hr1⟩ := bex (a < 0 ∨ 5 < a)
  refine c_P (As := [.int (iI a)]) (rest := [.ref (w 0)]) fx hl (pm_X3_isNo l a r1 hr1 (by omega)) dX3_of_2 k1113 k1114 k6 k1115 hd_X3_isNo rfl ⟨by decide, by decide⟩ (Nat.le_of_ble_eq_true rfl) ⟨by dsimp only; omega, by dsimp only; omega⟩ ?_
  have br1 : r1 = 0 ∨ r1 = 1 := hr1.elim (fun h => Or.inr h.1) (fun h => Or.inl h.1)
  refine lv_iload_n hx hb dX3_of_5 rfl (lv_at hl 2 rfl) ?_
  refine q_sip hx hb dX3_of_6 (by decide) ?_
  refine q_sip hx hb dX3_of_9 (by decide) ?_
  obtain ⟨r2, hr2⟩ := bex (y < (-9999) ∨ 9999 < y)
  refine c_P (As := [.int (iI y), .int (iI (-9999)), .int (iI 9999)]) (rest := [.int (iI r1), .ref (w 0)]) fx hl (pm_X3_isOut l y (-9999) 9999 r2 hr2 (by omega) (by omega) (by omega)) dX3_of_12 k1116 k1117 k6 k1118 hd_X3_isOut rfl ⟨by decide, by decide⟩ (Nat.le_of_ble_eq_true rfl) ⟨by dsimp only; omega, by dsimp only; omega⟩ ?_
  have br2 : r2 = 0 ∨ r2 = 1 := hr2.elim (fun h => Or.inr h.1) (fun h => Or.inl h.1)
  refine q_ine (tgt := 39) hx hb dX3_of_15 (by decide) (by omega) (fun c3 => ?_) (fun c3 => ?_)
  · refine q_con hx hb dX3_of_39 ?_
    refine lv_goto (tgt := 44) hx hb dX3_of_40 (by decide) ?_
    refine q_con hx hb dX3_of_44 ?_
    obtain ⟨t4, f5, hq1t4, hq2t4⟩ := fails_ex r1 1 0 (by omega) (by omega) (by omega)
    have hmw : MWR θ S0 w s.heap r q dt sv th dn rf kn := ⟨hz, hu, hm, hd, hsv⟩
    refine c_M (w := w) (As := [.int (iI r1), .int (iI 1), .int (iI 0)]) (rest := []) (b := w 0) (C := RX3) fx hl (mw_fails θ l S0 _ w _ _ _ _ _ _ _ _ hmw r1 1 0 t4 f5 (by omega) hq1t4 hq2t4) (ob_recv hK hm.1 rfl) dX3_of_45 k1119 k1121 ks10 k6 k1122 hd_X3_fails rfl ⟨by decide, by decide⟩ (Nat.le_of_ble_eq_true rfl) ⟨by dsimp only; omega, by dsimp only; omega⟩ hS (fun x hx => hx ▸ Or.inl (Or.inl rfl)) (fun H6 locs hmH6 hszH6 hk0H6 hS => ?_)
    have hkH6 : ∀ x : Nat, x < (s.heap).size → ¬ x = w 0 → H6[x]? = (s.heap)[x]? := hk0H6
    have hzH6 := hz0.at hAB hS
    have hltH6 := hmH6.lt
    refine q_ieq (tgt := 53) hx hb dX3_of_48 (by decide) (by omega) (fun c7 => ?_) (fun c7 => ?_)
    · exact (show False by omega).elim
    · refine q_con hx hb dX3_of_51 ?_
      obtain rfl : t4 = 1 := by omega
      have hmw : MWR θ S0 w H6 r q dt sv 1 dn rf kn := ⟨hzH6, hu, hmH6, hd, hsv⟩
      exact e_i hx hb hr hlk hS dX3_of_52 (Nat.le_of_ble_eq_true rfl) (Nat.le_of_ble_eq_true rfl) ⟨ex_i (by omega), r, q, by first | exact hmw | (subst_vars; exact hmw) | (simp only [inI_self, inI_1, inI_31] at hmw; subst_vars; exact hmw), by first | exact nw_rf | exact nw_up (by omega) | exact nw_up2 (by omega), by first | exact nw_rf | exact nw_up (by omega) | exact nw_up2 (by omega)⟩
  · refine lv_iload_n hx hb dX3_of_18 rfl (lv_at hl 3 rfl) ?_
    refine q_con hx hb dX3_of_19 ?_
    refine q_bip hx hb dX3_of_20 (by decide) ?_
    obtain ⟨r8, hr8⟩ := bex (m1 < 1 ∨ 12 < m1)
    refine c_P (As := [.int (iI m1), .int (iI 1), .int (iI 12)]) (rest := [.int (iI r1), .ref (w 0)]) fx hl (pm_X3_isOut l m1 1 12 r8 hr8 (by omega) (by omega) (by omega)) dX3_of_22 k1116 k1117 k6 k1118 hd_X3_isOut rfl ⟨by decide, by decide⟩ (Nat.le_of_ble_eq_true rfl) ⟨by dsimp only; omega, by dsimp only; omega⟩ ?_
    have br8 : r8 = 0 ∨ r8 = 1 := hr8.elim (fun h => Or.inr h.1) (fun h => Or.inl h.1)
    refine q_ine (tgt := 39) hx hb dX3_of_25 (by decide) (by omega) (fun c9 => ?_) (fun c9 => ?_)
    · refine q_con hx hb dX3_of_39 ?_
      refine lv_goto (tgt := 44) hx hb dX3_of_40 (by decide) ?_
      refine q_con hx hb dX3_of_44 ?_
      obtain ⟨t10, f11, hq1t10, hq2t10⟩ := fails_ex r1 1 0 (by omega) (by omega) (by omega)
      have hmw : MWR θ S0 w s.heap r q dt sv th dn rf kn := ⟨hz, hu, hm, hd, hsv⟩
      refine c_M (w := w) (As := [.int (iI r1), .int (iI 1), .int (iI 0)]) (rest := []) (b := w 0) (C := RX3) fx hl (mw_fails θ l S0 _ w _ _ _ _ _ _ _ _ hmw r1 1 0 t10 f11 (by omega) hq1t10 hq2t10) (ob_recv hK hm.1 rfl) dX3_of_45 k1119 k1121 ks10 k6 k1122 hd_X3_fails rfl ⟨by decide, by decide⟩ (Nat.le_of_ble_eq_true rfl) ⟨by dsimp only; omega, by dsimp only; omega⟩ hS (fun x hx => hx ▸ Or.inl (Or.inl rfl)) (fun H12 locs hmH12 hszH12 hk0H12 hS => ?_)
      have hkH12 : ∀ x : Nat, x < (s.heap).size → ¬ x = w 0 → H12[x]? = (s.heap)[x]? := hk0H12
      have hzH12 := hz0.at hAB hS
      have hltH12 := hmH12.lt
      refine q_ieq (tgt := 53) hx hb dX3_of_48 (by decide) (by omega) (fun c13 => ?_) (fun c13 => ?_)
      · exact (show False by omega).elim
      · refine q_con hx hb dX3_of_51 ?_
        obtain rfl : t10 = 1 := by omega
        have hmw : MWR θ S0 w H12 r q dt sv 1 dn rf kn := ⟨hzH12, hu, hmH12, hd, hsv⟩
        exact e_i hx hb hr hlk hS dX3_of_52 (Nat.le_of_ble_eq_true rfl) (Nat.le_of_ble_eq_true rfl) ⟨ex_i (by omega), r, q, by first | exact hmw | (subst_vars; exact hmw) | (simp only [inI_self, inI_1, inI_31] at hmw; subst_vars; exact hmw), by first | exact nw_rf | exact nw_up (by omega) | exact nw_up2 (by omega), by first | exact nw_rf | exact nw_up (by omega) | exact nw_up2 (by omega)⟩
    · refine lv_iload hx hb dX3_of_28 (lv_at hl 4 rfl) ?_
      refine q_con hx hb dX3_of_30 ?_
      refine q_bip hx hb dX3_of_31 (by decide) ?_
      obtain ⟨r14, hr14⟩ := bex (k < 1 ∨ 31 < k)
      refine c_P (As := [.int (iI k), .int (iI 1), .int (iI 31)]) (rest := [.int (iI r1), .ref (w 0)]) fx hl (pm_X3_isOut l k 1 31 r14 hr14 (by omega) (by omega) (by omega)) dX3_of_33 k1116 k1117 k6 k1118 hd_X3_isOut rfl ⟨by decide, by decide⟩ (Nat.le_of_ble_eq_true rfl) ⟨by dsimp only; omega, by dsimp only; omega⟩ ?_
      have br14 : r14 = 0 ∨ r14 = 1 := hr14.elim (fun h => Or.inr h.1) (fun h => Or.inl h.1)
      refine q_ieq (tgt := 43) hx hb dX3_of_36 (by decide) (by omega) (fun c15 => ?_) (fun c15 => ?_)
      · refine q_con hx hb dX3_of_43 ?_
        refine q_con hx hb dX3_of_44 ?_
        obtain ⟨t16, f17, hq1t16, hq2t16⟩ := fails_ex r1 0 0 (by omega) (by omega) (by omega)
        have hmw : MWR θ S0 w s.heap r q dt sv th dn rf kn := ⟨hz, hu, hm, hd, hsv⟩
        refine c_M (w := w) (As := [.int (iI r1), .int (iI 0), .int (iI 0)]) (rest := []) (b := w 0) (C := RX3) fx hl (mw_fails θ l S0 _ w _ _ _ _ _ _ _ _ hmw r1 0 0 t16 f17 (by omega) hq1t16 hq2t16) (ob_recv hK hm.1 rfl) dX3_of_45 k1119 k1121 ks10 k6 k1122 hd_X3_fails rfl ⟨by decide, by decide⟩ (Nat.le_of_ble_eq_true rfl) ⟨by dsimp only; omega, by dsimp only; omega⟩ hS (fun x hx => hx ▸ Or.inl (Or.inl rfl)) (fun H18 locs hmH18 hszH18 hk0H18 hS => ?_)
        have hkH18 : ∀ x : Nat, x < (s.heap).size → ¬ x = w 0 → H18[x]? = (s.heap)[x]? := hk0H18
        have hzH18 := hz0.at hAB hS
        have hltH18 := hmH18.lt
        refine q_ieq (tgt := 53) hx hb dX3_of_48 (by decide) (by omega) (fun c19 => ?_) (fun c19 => ?_)
        · exact (show False by omega).elim
        · refine q_con hx hb dX3_of_51 ?_
          obtain rfl : t16 = 1 := by omega
          have hmw : MWR θ S0 w H18 r q dt sv 1 dn rf kn := ⟨hzH18, hu, hmH18, hd, hsv⟩
          exact e_i hx hb hr hlk hS dX3_of_52 (Nat.le_of_ble_eq_true rfl) (Nat.le_of_ble_eq_true rfl) ⟨ex_i (by omega), r, q, by first | exact hmw | (subst_vars; exact hmw) | (simp only [inI_self, inI_1, inI_31] at hmw; subst_vars; exact hmw), by first | exact nw_rf | exact nw_up (by omega) | exact nw_up2 (by omega), by first | exact nw_rf | exact nw_up (by omega) | exact nw_up2 (by omega)⟩
      · refine q_con hx hb dX3_of_39 ?_
        refine lv_goto (tgt := 44) hx hb dX3_of_40 (by decide) ?_
        refine q_con hx hb dX3_of_44 ?_
        obtain ⟨t20, f21, hq1t20, hq2t20⟩ := fails_ex r1 1 0 (by omega) (by omega) (by omega)
        have hmw : MWR θ S0 w s.heap r q dt sv th dn rf kn := ⟨hz, hu, hm, hd, hsv⟩
        refine c_M (w := w) (As := [.int (iI r1), .int (iI 1), .int (iI 0)]) (rest := []) (b := w 0) (C := RX3) fx hl (mw_fails θ l S0 _ w _ _ _ _ _ _ _ _ hmw r1 1 0 t20 f21 (by omega) hq1t20 hq2t20) (ob_recv hK hm.1 rfl) dX3_of_45 k1119 k1121 ks10 k6 k1122 hd_X3_fails rfl ⟨by decide, by decide⟩ (Nat.le_of_ble_eq_true rfl) ⟨by dsimp only; omega, by dsimp only; omega⟩ hS (fun x hx => hx ▸ Or.inl (Or.inl rfl)) (fun H22 locs hmH22 hszH22 hk0H22 hS => ?_)
        have hkH22 : ∀ x : Nat, x < (s.heap).size → ¬ x = w 0 → H22[x]? = (s.heap)[x]? := hk0H22
        have hzH22 := hz0.at hAB hS
        have hltH22 := hmH22.lt
        refine q_ieq (tgt := 53) hx hb dX3_of_48 (by decide) (by omega) (fun c23 => ?_) (fun c23 => ?_)
        · exact (show False by omega).elim
        · refine q_con hx hb dX3_of_51 ?_
          obtain rfl : t20 = 1 := by omega
          have hmw : MWR θ S0 w H22 r q dt sv 1 dn rf kn := ⟨hzH22, hu, hmH22, hd, hsv⟩
          exact e_i hx hb hr hlk hS dX3_of_52 (Nat.le_of_ble_eq_true rfl) (Nat.le_of_ble_eq_true rfl) ⟨ex_i (by omega), r, q, by first | exact hmw | (subst_vars; exact hmw) | (simp only [inI_self, inI_1, inI_31] at hmw; subst_vars; exact hmw), by first | exact nw_rf | exact nw_up (by omega) | exact nw_up2 (by omega), by first | exact nw_rf | exact nw_up (by omega) | exact nw_up2 (by omega)⟩

set_option maxHeartbeats 4000000 in
set_option maxRecDepth 100000 in
theorem mno2_of (θ : TH) (l : Launch) (S0 : State) (H : Heap) (w : Nat → Nat) (r q : Nat → Nat) (dt : Nat → Int) (sv : Nat → Nat → Int) (th dn rf kn : Int) (hw : MWR θ S0 w H r q dt sv th dn rf kn) (a y m1 k m : Int) (h_0 : -2147483648 ≤ a ∧ a < 2147483648) (h_1 : -2147483648 ≤ y ∧ y < 2147483648) (h_2 : -2147483648 ≤ m1 ∧ m1 < 2147483648) (h_3 : -2147483648 ≤ k ∧ k < 2147483648) (h_4 : m = 12 * y + m1 - 1) (h_5 : 0 ≤ a ∧ a < 6) (h_6 : ¬ (-9999 ≤ y ∧ y ≤ 9999)) : CT l yX3_of cX3_of 6 (some .int) 2 42 0 0 [.ref (w 0), .int (iI a), .int (iI y), .int (iI m1), .int (iI k)] S0 H (fun v9 H1 => v9 = some (.int (iI 0)) ∧ ∃ r1 q1 : Nat → Nat, MWR θ S0 w H1 r1 q1 dt sv 2 dn rf kn ∧ NW 6 H.size r r1 ∧ NW 3 H.size q q1) (fun _ _ => False) (WA w H.size) := by
  refine ct_of (by decide +kernel) (Nat.le_of_ble_eq_true rfl) ?_
  intro pg en s mi args below meth co ls fx hs hr hlk hxt hin hl
  subst hs
  obtain ⟨hx, hb, hml, hown, hts⟩ := id fx.1
  have hS : va_S (WA w s.heap.size) s.heap s.heap [] := va_S.rf
  obtain ⟨hz, hu, hm, hd, hsv⟩ := id hw
  have hAB : ∀ x : Nat, (WA w s.heap.size) x → θ.2.2.2 ≤ x := wa_b hu hz.2.1
  have hz0 := hz
  have hK := sz_K fx.2 hz
  have hlt0 := hm.lt
  have hu1 := hu.1
  have hAn : ∀ x : Nat, s.heap.size ≤ x → (WA w s.heap.size) x := fun _ h => Or.inr h
  refine lv_aload_n hx hb dX3_of_0 rfl (lv_at hl 0 rfl) ?_
  refine lv_iload_n hx hb dX3_of_1 rfl (lv_at hl 1 rfl) ?_
  obtain ⟨r1, hr1⟩ := bex (a < 0 ∨ 5 < a)
  refine c_P (As := [.int (iI a)]) (rest := [.ref (w 0)]) fx hl (pm_X3_isNo l a r1 hr1 (by omega)) dX3_of_2 k1113 k1114 k6 k1115 hd_X3_isNo rfl ⟨by decide, by decide⟩ (Nat.le_of_ble_eq_true rfl) ⟨by dsimp only; omega, by dsimp only; omega⟩ ?_
  have br1 : r1 = 0 ∨ r1 = 1 := hr1.elim (fun h => Or.inr h.1) (fun h => Or.inl h.1)
  refine lv_iload_n hx hb dX3_of_5 rfl (lv_at hl 2 rfl) ?_
  refine q_sip hx hb dX3_of_6 (by decide) ?_
  refine q_sip hx hb dX3_of_9 (by decide) ?_
  obtain ⟨r2, hr2⟩ := bex (y < (-9999) ∨ 9999 < y)
  refine c_P (As := [.int (iI y), .int (iI (-9999)), .int (iI 9999)]) (rest := [.int (iI r1), .ref (w 0)]) fx hl (pm_X3_isOut l y (-9999) 9999 r2 hr2 (by omega) (by omega) (by omega)) dX3_of_12 k1116 k1117 k6 k1118 hd_X3_isOut rfl ⟨by decide, by decide⟩ (Nat.le_of_ble_eq_true rfl) ⟨by dsimp only; omega, by dsimp only; omega⟩ ?_
  have br2 : r2 = 0 ∨ r2 = 1 := hr2.elim (fun h => Or.inr h.1) (fun h => Or.inl h.1)
  refine q_ine (tgt := 39) hx hb dX3_of_15 (by decide) (by omega) (fun c3 => ?_) (fun c3 => ?_)
  · refine q_con hx hb dX3_of_39 ?_
    refine lv_goto (tgt := 44) hx hb dX3_of_40 (by decide) ?_
    refine q_con hx hb dX3_of_44 ?_
    obtain ⟨t4, f5, hq1t4, hq2t4⟩ := fails_ex r1 1 0 (by omega) (by omega) (by omega)
    have hmw : MWR θ S0 w s.heap r q dt sv th dn rf kn := ⟨hz, hu, hm, hd, hsv⟩
    refine c_M (w := w) (As := [.int (iI r1), .int (iI 1), .int (iI 0)]) (rest := []) (b := w 0) (C := RX3) fx hl (mw_fails θ l S0 _ w _ _ _ _ _ _ _ _ hmw r1 1 0 t4 f5 (by omega) hq1t4 hq2t4) (ob_recv hK hm.1 rfl) dX3_of_45 k1119 k1121 ks10 k6 k1122 hd_X3_fails rfl ⟨by decide, by decide⟩ (Nat.le_of_ble_eq_true rfl) ⟨by dsimp only; omega, by dsimp only; omega⟩ hS (fun x hx => hx ▸ Or.inl (Or.inl rfl)) (fun H6 locs hmH6 hszH6 hk0H6 hS => ?_)
    have hkH6 : ∀ x : Nat, x < (s.heap).size → ¬ x = w 0 → H6[x]? = (s.heap)[x]? := hk0H6
    have hzH6 := hz0.at hAB hS
    have hltH6 := hmH6.lt
    refine q_ieq (tgt := 53) hx hb dX3_of_48 (by decide) (by omega) (fun c7 => ?_) (fun c7 => ?_)
    · exact (show False by omega).elim
    · refine q_con hx hb dX3_of_51 ?_
      obtain rfl : t4 = 2 := by omega
      have hmw : MWR θ S0 w H6 r q dt sv 2 dn rf kn := ⟨hzH6, hu, hmH6, hd, hsv⟩
      exact e_i hx hb hr hlk hS dX3_of_52 (Nat.le_of_ble_eq_true rfl) (Nat.le_of_ble_eq_true rfl) ⟨ex_i (by omega), r, q, by first | exact hmw | (subst_vars; exact hmw) | (simp only [inI_self, inI_1, inI_31] at hmw; subst_vars; exact hmw), by first | exact nw_rf | exact nw_up (by omega) | exact nw_up2 (by omega), by first | exact nw_rf | exact nw_up (by omega) | exact nw_up2 (by omega)⟩
  · exact (show False by omega).elim

set_option maxHeartbeats 4000000 in
set_option maxRecDepth 100000 in
theorem mno3_of (θ : TH) (l : Launch) (S0 : State) (H : Heap) (w : Nat → Nat) (r q : Nat → Nat) (dt : Nat → Int) (sv : Nat → Nat → Int) (th dn rf kn : Int) (hw : MWR θ S0 w H r q dt sv th dn rf kn) (a y m1 k m : Int) (h_0 : -2147483648 ≤ a ∧ a < 2147483648) (h_1 : -2147483648 ≤ y ∧ y < 2147483648) (h_2 : -2147483648 ≤ m1 ∧ m1 < 2147483648) (h_3 : -2147483648 ≤ k ∧ k < 2147483648) (h_4 : m = 12 * y + m1 - 1) (h_5 : 0 ≤ a ∧ a < 6) (h_6 : -9999 ≤ y ∧ y ≤ 9999) (h_7 : ¬ (1 ≤ m1 ∧ m1 ≤ 12)) : CT l yX3_of cX3_of 6 (some .int) 2 42 0 0 [.ref (w 0), .int (iI a), .int (iI y), .int (iI m1), .int (iI k)] S0 H (fun v9 H1 => v9 = some (.int (iI 0)) ∧ ∃ r1 q1 : Nat → Nat, MWR θ S0 w H1 r1 q1 dt sv 2 dn rf kn ∧ NW 6 H.size r r1 ∧ NW 3 H.size q q1) (fun _ _ => False) (WA w H.size) := by
  refine ct_of (by decide +kernel) (Nat.le_of_ble_eq_true rfl) ?_
  intro pg en s mi args below meth co ls fx hs hr hlk hxt hin hl
  subst hs
  obtain ⟨hx, hb, hml, hown, hts⟩ := id fx.1
  have hS : va_S (WA w s.heap.size) s.heap s.heap [] := va_S.rf
  obtain ⟨hz, hu, hm, hd, hsv⟩ := id hw
  have hAB : ∀ x : Nat, (WA w s.heap.size) x → θ.2.2.2 ≤ x := wa_b hu hz.2.1
  have hz0 := hz
  have hK := sz_K fx.2 hz
  have hlt0 := hm.lt
  have hu1 := hu.1
  have hAn : ∀ x : Nat, s.heap.size ≤ x → (WA w s.heap.size) x := fun _ h => Or.inr h
  refine lv_aload_n hx hb dX3_of_0 rfl (lv_at hl 0 rfl) ?_
  refine lv_iload_n hx hb dX3_of_1 rfl (lv_at hl 1 rfl) ?_
  obtain ⟨r1, hr1⟩ := bex (a < 0 ∨ 5 < a)
  refine c_P (As := [.int (iI a)]) (rest := [.ref (w 0)]) fx hl (pm_X3_isNo l a r1 hr1 (by omega)) dX3_of_2 k1113 k1114 k6 k1115 hd_X3_isNo rfl ⟨by decide, by decide⟩ (Nat.le_of_ble_eq_true rfl) ⟨by dsimp only; omega, by dsimp only; omega⟩ ?_
  have br1 : r1 = 0 ∨ r1 = 1 := hr1.elim (fun h => Or.inr h.1) (fun h => Or.inl h.1)
  refine lv_iload_n hx hb dX3_of_5 rfl (lv_at hl 2 rfl) ?_
  refine q_sip hx hb dX3_of_6 (by decide) ?_
  refine q_sip hx hb dX3_of_9 (by decide) ?_
  obtain ⟨r2, hr2⟩ := bex (y < (-9999) ∨ 9999 < y)
  refine c_P (As := [.int (iI y), .int (iI (-9999)), .int (iI 9999)]) (rest := [.int (iI r1), .ref (w 0)]) fx hl (pm_X3_isOut l y (-9999) 9999 r2 hr2 (by omega) (by omega) (by omega)) dX3_of_12 k1116 k1117 k6 k1118 hd_X3_isOut rfl ⟨by decide, by decide⟩ (Nat.le_of_ble_eq_true rfl) ⟨by dsimp only; omega, by dsimp only; omega⟩ ?_
  have br2 : r2 = 0 ∨ r2 = 1 := hr2.elim (fun h => Or.inr h.1) (fun h => Or.inl h.1)
  refine q_ine (tgt := 39) hx hb dX3_of_15 (by decide) (by omega) (fun c3 => ?_) (fun c3 => ?_)
  · exact (show False by omega).elim
  · refine lv_iload_n hx hb dX3_of_18 rfl (lv_at hl 3 rfl) ?_
    refine q_con hx hb dX3_of_19 ?_
    refine q_bip hx hb dX3_of_20 (by decide) ?_
    obtain ⟨r4, hr4⟩ := bex (m1 < 1 ∨ 12 < m1)
    refine c_P (As := [.int (iI m1), .int (iI 1), .int (iI 12)]) (rest := [.int (iI r1), .ref (w 0)]) fx hl (pm_X3_isOut l m1 1 12 r4 hr4 (by omega) (by omega) (by omega)) dX3_of_22 k1116 k1117 k6 k1118 hd_X3_isOut rfl ⟨by decide, by decide⟩ (Nat.le_of_ble_eq_true rfl) ⟨by dsimp only; omega, by dsimp only; omega⟩ ?_
    have br4 : r4 = 0 ∨ r4 = 1 := hr4.elim (fun h => Or.inr h.1) (fun h => Or.inl h.1)
    refine q_ine (tgt := 39) hx hb dX3_of_25 (by decide) (by omega) (fun c5 => ?_) (fun c5 => ?_)
    · refine q_con hx hb dX3_of_39 ?_
      refine lv_goto (tgt := 44) hx hb dX3_of_40 (by decide) ?_
      refine q_con hx hb dX3_of_44 ?_
      obtain ⟨t6, f7, hq1t6, hq2t6⟩ := fails_ex r1 1 0 (by omega) (by omega) (by omega)
      have hmw : MWR θ S0 w s.heap r q dt sv th dn rf kn := ⟨hz, hu, hm, hd, hsv⟩
      refine c_M (w := w) (As := [.int (iI r1), .int (iI 1), .int (iI 0)]) (rest := []) (b := w 0) (C := RX3) fx hl (mw_fails θ l S0 _ w _ _ _ _ _ _ _ _ hmw r1 1 0 t6 f7 (by omega) hq1t6 hq2t6) (ob_recv hK hm.1 rfl) dX3_of_45 k1119 k1121 ks10 k6 k1122 hd_X3_fails rfl ⟨by decide, by decide⟩ (Nat.le_of_ble_eq_true rfl) ⟨by dsimp only; omega, by dsimp only; omega⟩ hS (fun x hx => hx ▸ Or.inl (Or.inl rfl)) (fun H8 locs hmH8 hszH8 hk0H8 hS => ?_)
      have hkH8 : ∀ x : Nat, x < (s.heap).size → ¬ x = w 0 → H8[x]? = (s.heap)[x]? := hk0H8
      have hzH8 := hz0.at hAB hS
      have hltH8 := hmH8.lt
      refine q_ieq (tgt := 53) hx hb dX3_of_48 (by decide) (by omega) (fun c9 => ?_) (fun c9 => ?_)
      · exact (show False by omega).elim
      · refine q_con hx hb dX3_of_51 ?_
        obtain rfl : t6 = 2 := by omega
        have hmw : MWR θ S0 w H8 r q dt sv 2 dn rf kn := ⟨hzH8, hu, hmH8, hd, hsv⟩
        exact e_i hx hb hr hlk hS dX3_of_52 (Nat.le_of_ble_eq_true rfl) (Nat.le_of_ble_eq_true rfl) ⟨ex_i (by omega), r, q, by first | exact hmw | (subst_vars; exact hmw) | (simp only [inI_self, inI_1, inI_31] at hmw; subst_vars; exact hmw), by first | exact nw_rf | exact nw_up (by omega) | exact nw_up2 (by omega), by first | exact nw_rf | exact nw_up (by omega) | exact nw_up2 (by omega)⟩
    · exact (show False by omega).elim

set_option maxHeartbeats 4000000 in
set_option maxRecDepth 100000 in
theorem mno4_of (θ : TH) (l : Launch) (S0 : State) (H : Heap) (w : Nat → Nat) (r q : Nat → Nat) (dt : Nat → Int) (sv : Nat → Nat → Int) (th dn rf kn : Int) (hw : MWR θ S0 w H r q dt sv th dn rf kn) (a y m1 k m : Int) (h_0 : -2147483648 ≤ a ∧ a < 2147483648) (h_1 : -2147483648 ≤ y ∧ y < 2147483648) (h_2 : -2147483648 ≤ m1 ∧ m1 < 2147483648) (h_3 : -2147483648 ≤ k ∧ k < 2147483648) (h_4 : m = 12 * y + m1 - 1) (h_5 : 0 ≤ a ∧ a < 6) (h_6 : -9999 ≤ y ∧ y ≤ 9999) (h_7 : 1 ≤ m1 ∧ m1 ≤ 12) (h_8 : ¬ (1 ≤ k ∧ k ≤ 31)) : CT l yX3_of cX3_of 6 (some .int) 2 42 0 0 [.ref (w 0), .int (iI a), .int (iI y), .int (iI m1), .int (iI k)] S0 H (fun v9 H1 => v9 = some (.int (iI 0)) ∧ ∃ r1 q1 : Nat → Nat, MWR θ S0 w H1 r1 q1 dt sv 2 dn rf kn ∧ NW 6 H.size r r1 ∧ NW 3 H.size q q1) (fun _ _ => False) (WA w H.size) := by
  refine ct_of (by decide +kernel) (Nat.le_of_ble_eq_true rfl) ?_
  intro pg en s mi args below meth co ls fx hs hr hlk hxt hin hl
  subst hs
  obtain ⟨hx, hb, hml, hown, hts⟩ := id fx.1
  have hS : va_S (WA w s.heap.size) s.heap s.heap [] := va_S.rf
  obtain ⟨hz, hu, hm, hd, hsv⟩ := id hw
  have hAB : ∀ x : Nat, (WA w s.heap.size) x → θ.2.2.2 ≤ x := wa_b hu hz.2.1
  have hz0 := hz
  have hK := sz_K fx.2 hz
  have hlt0 := hm.lt
  have hu1 := hu.1
  have hAn : ∀ x : Nat, s.heap.size ≤ x → (WA w s.heap.size) x := fun _ h => Or.inr h
  refine lv_aload_n hx hb dX3_of_0 rfl (lv_at hl 0 rfl) ?_
  refine lv_iload_n hx hb dX3_of_1 rfl (lv_at hl 1 rfl) ?_
  obtain ⟨r1, hr1⟩ := bex (a < 0 ∨ 5 < a)
  refine c_P (As := [.int (iI a)]) (rest := [.ref (w 0)]) fx hl (pm_X3_isNo l a r1 hr1 (by omega)) dX3_of_2 k1113 k1114 k6 k1115 hd_X3_isNo rfl ⟨by decide, by decide⟩ (Nat.le_of_ble_eq_true rfl) ⟨by dsimp only; omega, by dsimp only; omega⟩ ?_
  have br1 : r1 = 0 ∨ r1 = 1 := hr1.elim (fun h => Or.inr h.1) (fun h => Or.inl h.1)
  refine lv_iload_n hx hb dX3_of_5 rfl (lv_at hl 2 rfl) ?_
  refine q_sip hx hb dX3_of_6 (by decide) ?_
  refine q_sip hx hb dX3_of_9 (by decide) ?_
  obtain ⟨r2, hr2⟩ := bex (y < (-9999) ∨ 9999 < y)
  refine c_P (As := [.int (iI y), .int (iI (-9999)), .int (iI 9999)]) (rest := [.int (iI r1), .ref (w 0)]) fx hl (pm_X3_isOut l y (-9999) 9999 r2 hr2 (by omega) (by omega) (by omega)) dX3_of_12 k1116 k1117 k6 k1118 hd_X3_isOut rfl ⟨by decide, by decide⟩ (Nat.le_of_ble_eq_true rfl) ⟨by dsimp only; omega, by dsimp only; omega⟩ ?_
  have br2 : r2 = 0 ∨ r2 = 1 := hr2.elim (fun h => Or.inr h.1) (fun h => Or.inl h.1)
  refine q_ine (tgt := 39) hx hb dX3_of_15 (by decide) (by omega) (fun c3 => ?_) (fun c3 => ?_)
  · exact (show False by omega).elim
  · refine lv_iload_n hx hb dX3_of_18 rfl (lv_at hl 3 rfl) ?_
    refine q_con hx hb dX3_of_19 ?_
    refine q_bip hx hb dX3_of_20 (by decide) ?_
    obtain ⟨r4, hr4⟩ := bex (m1 < 1 ∨ 12 < m1)
    refine c_P (As := [.int (iI m1), .int (iI 1), .int (iI 12)]) (rest := [.int (iI r1), .ref (w 0)]) fx hl (pm_X3_isOut l m1 1 12 r4 hr4 (by omega) (by omega) (by omega)) dX3_of_22 k1116 k1117 k6 k1118 hd_X3_isOut rfl ⟨by decide, by decide⟩ (Nat.le_of_ble_eq_true rfl) ⟨by dsimp only; omega, by dsimp only; omega⟩ ?_
    have br4 : r4 = 0 ∨ r4 = 1 := hr4.elim (fun h => Or.inr h.1) (fun h => Or.inl h.1)
    refine q_ine (tgt := 39) hx hb dX3_of_25 (by decide) (by omega) (fun c5 => ?_) (fun c5 => ?_)
    · exact (show False by omega).elim
    · refine lv_iload hx hb dX3_of_28 (lv_at hl 4 rfl) ?_
      refine q_con hx hb dX3_of_30 ?_
      refine q_bip hx hb dX3_of_31 (by decide) ?_
      obtain ⟨r6, hr6⟩ := bex (k < 1 ∨ 31 < k)
      refine c_P (As := [.int (iI k), .int (iI 1), .int (iI 31)]) (rest := [.int (iI r1), .ref (w 0)]) fx hl (pm_X3_isOut l k 1 31 r6 hr6 (by omega) (by omega) (by omega)) dX3_of_33 k1116 k1117 k6 k1118 hd_X3_isOut rfl ⟨by decide, by decide⟩ (Nat.le_of_ble_eq_true rfl) ⟨by dsimp only; omega, by dsimp only; omega⟩ ?_
      have br6 : r6 = 0 ∨ r6 = 1 := hr6.elim (fun h => Or.inr h.1) (fun h => Or.inl h.1)
      refine q_ieq (tgt := 43) hx hb dX3_of_36 (by decide) (by omega) (fun c7 => ?_) (fun c7 => ?_)
      · exact (show False by omega).elim
      · refine q_con hx hb dX3_of_39 ?_
        refine lv_goto (tgt := 44) hx hb dX3_of_40 (by decide) ?_
        refine q_con hx hb dX3_of_44 ?_
        obtain ⟨t8, f9, hq1t8, hq2t8⟩ := fails_ex r1 1 0 (by omega) (by omega) (by omega)
        have hmw : MWR θ S0 w s.heap r q dt sv th dn rf kn := ⟨hz, hu, hm, hd, hsv⟩
        refine c_M (w := w) (As := [.int (iI r1), .int (iI 1), .int (iI 0)]) (rest := []) (b := w 0) (C := RX3) fx hl (mw_fails θ l S0 _ w _ _ _ _ _ _ _ _ hmw r1 1 0 t8 f9 (by omega) hq1t8 hq2t8) (ob_recv hK hm.1 rfl) dX3_of_45 k1119 k1121 ks10 k6 k1122 hd_X3_fails rfl ⟨by decide, by decide⟩ (Nat.le_of_ble_eq_true rfl) ⟨by dsimp only; omega, by dsimp only; omega⟩ hS (fun x hx => hx ▸ Or.inl (Or.inl rfl)) (fun H10 locs hmH10 hszH10 hk0H10 hS => ?_)
        have hkH10 : ∀ x : Nat, x < (s.heap).size → ¬ x = w 0 → H10[x]? = (s.heap)[x]? := hk0H10
        have hzH10 := hz0.at hAB hS
        have hltH10 := hmH10.lt
        refine q_ieq (tgt := 53) hx hb dX3_of_48 (by decide) (by omega) (fun c11 => ?_) (fun c11 => ?_)
        · exact (show False by omega).elim
        · refine q_con hx hb dX3_of_51 ?_
          obtain rfl : t8 = 2 := by omega
          have hmw : MWR θ S0 w H10 r q dt sv 2 dn rf kn := ⟨hzH10, hu, hmH10, hd, hsv⟩
          exact e_i hx hb hr hlk hS dX3_of_52 (Nat.le_of_ble_eq_true rfl) (Nat.le_of_ble_eq_true rfl) ⟨ex_i (by omega), r, q, by first | exact hmw | (subst_vars; exact hmw) | (simp only [inI_self, inI_1, inI_31] at hmw; subst_vars; exact hmw), by first | exact nw_rf | exact nw_up (by omega) | exact nw_up2 (by omega), by first | exact nw_rf | exact nw_up (by omega) | exact nw_up2 (by omega)⟩

set_option maxHeartbeats 4000000 in
set_option maxRecDepth 100000 in
theorem mno5_of (θ : TH) (l : Launch) (S0 : State) (H : Heap) (w : Nat → Nat) (r q : Nat → Nat) (dt : Nat → Int) (sv : Nat → Nat → Int) (th dn rf kn : Int) (hw : MWR θ S0 w H r q dt sv th dn rf kn) (a y m1 k m : Int) (h_0 : -2147483648 ≤ a ∧ a < 2147483648) (h_1 : -2147483648 ≤ y ∧ y < 2147483648) (h_2 : -2147483648 ≤ m1 ∧ m1 < 2147483648) (h_3 : -2147483648 ≤ k ∧ k < 2147483648) (h_4 : m = 12 * y + m1 - 1) (h_5 : 0 ≤ a ∧ a < 6) (h_6 : -9999 ≤ y ∧ y ≤ 9999) (h_7 : 1 ≤ m1 ∧ m1 ≤ 12) (h_8 : 1 ≤ k ∧ k ≤ 31) (h_9 : ¬ (k ≤ fI (m + 1) - fI m)) : CT l yX3_of cX3_of 6 (some .int) 4 83 0 0 [.ref (w 0), .int (iI a), .int (iI y), .int (iI m1), .int (iI k)] S0 H (fun v9 H1 => v9 = some (.int (iI 0)) ∧ ∃ r1 q1 : Nat → Nat, MWR θ S0 w H1 r1 q1 dt sv 3 dn rf kn ∧ NW 6 H.size r r1 ∧ NW 3 H.size q q1) (fun _ _ => False) (WA w H.size) := by
  refine ct_of (by decide +kernel) (Nat.le_of_ble_eq_true rfl) ?_
  intro pg en s mi args below meth co ls fx hs hr hlk hxt hin hl
  subst hs
  obtain ⟨hx, hb, hml, hown, hts⟩ := id fx.1
  have hS : va_S (WA w s.heap.size) s.heap s.heap [] := va_S.rf
  obtain ⟨hz, hu, hm, hd, hsv⟩ := id hw
  have hAB : ∀ x : Nat, (WA w s.heap.size) x → θ.2.2.2 ≤ x := wa_b hu hz.2.1
  have hz0 := hz
  have hK := sz_K fx.2 hz
  have hlt0 := hm.lt
  have hu1 := hu.1
  have hAn : ∀ x : Nat, s.heap.size ≤ x → (WA w s.heap.size) x := fun _ h => Or.inr h
  refine lv_aload_n hx hb dX3_of_0 rfl (lv_at hl 0 rfl) ?_
  refine lv_iload_n hx hb dX3_of_1 rfl (lv_at hl 1 rfl) ?_
  obtain ⟨r1, hr1⟩ := bex (a < 0 ∨ 5 < a)
  refine c_P (As := [.int (iI a)]) (rest := [.ref (w 0)]) fx hl (pm_X3_isNo l a r1 hr1 (by omega)) dX3_of_2 k1113 k1114 k6 k1115 hd_X3_isNo rfl ⟨by decide, by decide⟩ (Nat.le_of_ble_eq_true rfl) ⟨by dsimp only; omega, by dsimp only; omega⟩ ?_
  have br1 : r1 = 0 ∨ r1 = 1 := hr1.elim (fun h => Or.inr h.1) (fun h => Or.inl h.1)
  refine lv_iload_n hx hb dX3_of_5 rfl (lv_at hl 2 rfl) ?_
  refine q_sip hx hb dX3_of_6 (by decide) ?_
  refine q_sip hx hb dX3_of_9 (by decide) ?_
  obtain ⟨r2, hr2⟩ := bex (y < (-9999) ∨ 9999 < y)
  refine c_P (As := [.int (iI y), .int (iI (-9999)), .int (iI 9999)]) (rest := [.int (iI r1), .ref (w 0)]) fx hl (pm_X3_isOut l y (-9999) 9999 r2 hr2 (by omega) (by omega) (by omega)) dX3_of_12 k1116 k1117 k6 k1118 hd_X3_isOut rfl ⟨by decide, by decide⟩ (Nat.le_of_ble_eq_true rfl) ⟨by dsimp only; omega, by dsimp only; omega⟩ ?_
  have br2 : r2 = 0 ∨ r2 = 1 := hr2.elim (fun h => Or.inr h.1) (fun h => Or.inl h.1)
  refine q_ine (tgt := 39) hx hb dX3_of_15 (by decide) (by omega) (fun c3 => ?_) (fun c3 => ?_)
  · exact (show False by omega).elim
  · refine lv_iload_n hx hb dX3_of_18 rfl (lv_at hl 3 rfl) ?_
    refine q_con hx hb dX3_of_19 ?_
    refine q_bip hx hb dX3_of_20 (by decide) ?_
    obtain ⟨r4, hr4⟩ := bex (m1 < 1 ∨ 12 < m1)
    refine c_P (As := [.int (iI m1), .int (iI 1), .int (iI 12)]) (rest := [.int (iI r1), .ref (w 0)]) fx hl (pm_X3_isOut l m1 1 12 r4 hr4 (by omega) (by omega) (by omega)) dX3_of_22 k1116 k1117 k6 k1118 hd_X3_isOut rfl ⟨by decide, by decide⟩ (Nat.le_of_ble_eq_true rfl) ⟨by dsimp only; omega, by dsimp only; omega⟩ ?_
    have br4 : r4 = 0 ∨ r4 = 1 := hr4.elim (fun h => Or.inr h.1) (fun h => Or.inl h.1)
    refine q_ine (tgt := 39) hx hb dX3_of_25 (by decide) (by omega) (fun c5 => ?_) (fun c5 => ?_)
    · exact (show False by omega).elim
    · refine lv_iload hx hb dX3_of_28 (lv_at hl 4 rfl) ?_
      refine q_con hx hb dX3_of_30 ?_
      refine q_bip hx hb dX3_of_31 (by decide) ?_
      obtain ⟨r6, hr6⟩ := bex (k < 1 ∨ 31 < k)
      refine c_P (As := [.int (iI k), .int (iI 1), .int (iI 31)]) (rest := [.int (iI r1), .ref (w 0)]) fx hl (pm_X3_isOut l k 1 31 r6 hr6 (by omega) (by omega) (by omega)) dX3_of_33 k1116 k1117 k6 k1118 hd_X3_isOut rfl ⟨by decide, by decide⟩ (Nat.le_of_ble_eq_true rfl) ⟨by dsimp only; omega, by dsimp only; omega⟩ ?_
      have br6 : r6 = 0 ∨ r6 = 1 := hr6.elim (fun h => Or.inr h.1) (fun h => Or.inl h.1)
      refine q_ieq (tgt := 43) hx hb dX3_of_36 (by decide) (by omega) (fun c7 => ?_) (fun c7 => ?_)
      · refine q_con hx hb dX3_of_43 ?_
        refine q_con hx hb dX3_of_44 ?_
        obtain ⟨t8, f9, hq1t8, hq2t8⟩ := fails_ex r1 0 0 (by omega) (by omega) (by omega)
        have hmw : MWR θ S0 w s.heap r q dt sv th dn rf kn := ⟨hz, hu, hm, hd, hsv⟩
        refine c_M (w := w) (As := [.int (iI r1), .int (iI 0), .int (iI 0)]) (rest := []) (b := w 0) (C := RX3) fx hl (mw_fails θ l S0 _ w _ _ _ _ _ _ _ _ hmw r1 0 0 t8 f9 (by omega) hq1t8 hq2t8) (ob_recv hK hm.1 rfl) dX3_of_45 k1119 k1121 ks10 k6 k1122 hd_X3_fails rfl ⟨by decide, by decide⟩ (Nat.le_of_ble_eq_true rfl) ⟨by dsimp only; omega, by dsimp only; omega⟩ hS (fun x hx => hx ▸ Or.inl (Or.inl rfl)) (fun H10 locs hmH10 hszH10 hk0H10 hS => ?_)
        have hkH10 : ∀ x : Nat, x < (s.heap).size → ¬ x = w 0 → H10[x]? = (s.heap)[x]? := hk0H10
        have hzH10 := hz0.at hAB hS
        have hltH10 := hmH10.lt
        refine q_ieq (tgt := 53) hx hb dX3_of_48 (by decide) (by omega) (fun c11 => ?_) (fun c11 => ?_)
        · refine q_bip hx hb dX3_of_53 (by decide) ?_
          refine lv_iload_n hx hb dX3_of_55 rfl (lv_at hl 2 rfl) ?_
          refine q_mul hx hb dX3_of_56 ?_
          refine lv_iload_n hx hb dX3_of_57 rfl (lv_at hl 3 rfl) ?_
          refine q_add hx hb dX3_of_58 ?_
          refine q_con hx hb dX3_of_59 ?_
          refine q_sub hx hb dX3_of_60 ?_
          refine q_as (m) (by omega) ?_
          refine lv_istore (lv' := [(5, .int (iI m)), (0, .ref (w 0)), (1, .int (iI a)), (2, .int (iI y)), (3, .int (iI m1)), (4, .int (iI k))]) hx hb dX3_of_61 hl (by decide) rfl (fun ls hl => ?_)
          refine lv_aload_n hx hb dX3_of_63 rfl (lv_at hl 1 rfl) ?_
          refine q_con hx hb dX3_of_64 ?_
          refine q_con hx hb dX3_of_65 ?_
          refine lv_iload hx hb dX3_of_66 (lv_at hl 5 rfl) ?_
          refine lv_iload hx hb dX3_of_68 (lv_at hl 0 rfl) ?_
          refine c_H (As := [.int (iI m)]) (rest := [.int (iI k), .int (iI 0), .int (iI 0), .ref (w 0)]) fx hl (pm_X3_length θ l S0 _ hzH10 m (by omega)) dX3_of_70 k1085 k1086 k6 k1087 hd_X3_length rfl ⟨by decide, by decide⟩ (Nat.le_of_ble_eq_true rfl) ⟨by dsimp only; omega, by dsimp only; omega⟩ ?_
          refine q_nm (fun z12 ez12 => ?_)
          have t0z12 := len_b m
          refine q_cle (tgt := 80) hx hb dX3_of_73 (by decide) (by omega) (by omega) (fun c13 => ?_) (fun c13 => ?_)
          · refine q_con hx hb dX3_of_80 ?_
            obtain ⟨t14, f15, hq1t14, hq2t14⟩ := fails_ex 0 0 0 (by omega) (by omega) (by omega)
            have hmw : MWR θ S0 w H10 r q dt sv t8 dn rf kn := ⟨hzH10, hu, hmH10, hd, hsv⟩
            refine c_M (w := w) (As := [.int (iI 0), .int (iI 0), .int (iI 0)]) (rest := []) (b := w 0) (C := RX3) fx hl (mw_fails θ l S0 _ w _ _ _ _ _ _ _ _ hmw 0 0 0 t14 f15 (by omega) hq1t14 hq2t14) (ob_recv hK hmH10.1 rfl) dX3_of_81 k1119 k1121 ks10 k6 k1122 hd_X3_fails rfl ⟨by decide, by decide⟩ (Nat.le_of_ble_eq_true rfl) ⟨by dsimp only; omega, by dsimp only; omega⟩ hS (fun x hx => hx ▸ Or.inl (Or.inl rfl)) (fun H16 locs hmH16 hszH16 hk0H16 hS => ?_)
            have hkH16 : ∀ x : Nat, x < (H10).size → ¬ x = w 0 → H16[x]? = (H10)[x]? := hk0H16
            have hzH16 := hz0.at hAB hS
            have hltH16 := hmH16.lt
            refine q_ieq (tgt := 89) hx hb dX3_of_84 (by decide) (by omega) (fun c17 => ?_) (fun c17 => ?_)
            · exact (show False by omega).elim
            · refine q_con hx hb dX3_of_87 ?_
              obtain rfl : t14 = 3 := by omega
              have hmw : MWR θ S0 w H16 r q dt sv 3 dn rf kn := ⟨hzH16, hu, hmH16, hd, hsv⟩
              exact e_i hx hb hr hlk hS dX3_of_88 (Nat.le_of_ble_eq_true rfl) (Nat.le_of_ble_eq_true rfl) ⟨ex_i (by omega), r, q, by first | exact hmw | (subst_vars; exact hmw) | (simp only [inI_self, inI_1, inI_31] at hmw; subst_vars; exact hmw), by first | exact nw_rf | exact nw_up (by omega) | exact nw_up2 (by omega), by first | exact nw_rf | exact nw_up (by omega) | exact nw_up2 (by omega)⟩
          · refine q_con hx hb dX3_of_76 ?_
            refine lv_goto (tgt := 81) hx hb dX3_of_77 (by decide) ?_
            obtain ⟨t18, f19, hq1t18, hq2t18⟩ := fails_ex 0 0 1 (by omega) (by omega) (by omega)
            have hmw : MWR θ S0 w H10 r q dt sv t8 dn rf kn := ⟨hzH10, hu, hmH10, hd, hsv⟩
            refine c_M (w := w) (As := [.int (iI 0), .int (iI 0), .int (iI 1)]) (rest := []) (b := w 0) (C := RX3) fx hl (mw_fails θ l S0 _ w _ _ _ _ _ _ _ _ hmw 0 0 1 t18 f19 (by omega) hq1t18 hq2t18) (ob_recv hK hmH10.1 rfl) dX3_of_81 k1119 k1121 ks10 k6 k1122 hd_X3_fails rfl ⟨by decide, by decide⟩ (Nat.le_of_ble_eq_true rfl) ⟨by dsimp only; omega, by dsimp only; omega⟩ hS (fun x hx => hx ▸ Or.inl (Or.inl rfl)) (fun H20 locs hmH20 hszH20 hk0H20 hS => ?_)
            have hkH20 : ∀ x : Nat, x < (H10).size → ¬ x = w 0 → H20[x]? = (H10)[x]? := hk0H20
            have hzH20 := hz0.at hAB hS
            have hltH20 := hmH20.lt
            refine q_ieq (tgt := 89) hx hb dX3_of_84 (by decide) (by omega) (fun c21 => ?_) (fun c21 => ?_)
            · exact (show False by omega).elim
            · refine q_con hx hb dX3_of_87 ?_
              obtain rfl : t18 = 3 := by omega
              have hmw : MWR θ S0 w H20 r q dt sv 3 dn rf kn := ⟨hzH20, hu, hmH20, hd, hsv⟩
              exact e_i hx hb hr hlk hS dX3_of_88 (Nat.le_of_ble_eq_true rfl) (Nat.le_of_ble_eq_true rfl) ⟨ex_i (by omega), r, q, by first | exact hmw | (subst_vars; exact hmw) | (simp only [inI_self, inI_1, inI_31] at hmw; subst_vars; exact hmw), by first | exact nw_rf | exact nw_up (by omega) | exact nw_up2 (by omega), by first | exact nw_rf | exact nw_up (by omega) | exact nw_up2 (by omega)⟩
        · exact (show False by omega).elim
      · exact (show False by omega).elim

set_option maxHeartbeats 4000000 in
set_option maxRecDepth 100000 in
theorem mok_ofDay (θ : TH) (l : Launch) (S0 : State) (H : Heap) (w : Nat → Nat) (r q : Nat → Nat) (dt : Nat → Int) (sv : Nat → Nat → Int) (th dn rf kn : Int) (hw : MWR θ S0 w H r q dt sv th dn rf kn) (a n : Int) (h_0 : -2147483648 ≤ a ∧ a < 2147483648) (h_1 : -2147483648 ≤ n ∧ n < 2147483648) (h_2 : 0 ≤ a ∧ a < 6) (h_3 : -4371587 ≤ n ∧ n ≤ 2932896) : CT l yX3_ofDay cX3_ofDay 3 (some .int) 8 170 1 2 [.ref (w 0), .int (iI a), .int (iI n)] S0 H (fun v9 H1 => v9 = some (.int (iI (wI n))) ∧ ∃ r1 q1 : Nat → Nat, MWR θ S0 w H1 r1 q1 (up dt a.toNat (n)) sv 0 (dn + 1) rf kn ∧ NW 6 H.size r r1 ∧ NW 3 H.size q q1) (fun _ _ => False) (WA w H.size) := by
  refine ct_of (by decide +kernel) (Nat.le_of_ble_eq_true rfl) ?_
  intro pg en s mi args below meth co ls fx hs hr hlk hxt hin hl
  subst hs
  obtain ⟨hx, hb, hml, hown, hts⟩ := id fx.1
  have hS : va_S (WA w s.heap.size) s.heap s.heap [] := va_S.rf
  obtain ⟨hz, hu, hm, hd, hsv⟩ := id hw
  have hAB : ∀ x : Nat, (WA w s.heap.size) x → θ.2.2.2 ≤ x := wa_b hu hz.2.1
  have hz0 := hz
  have hK := sz_K fx.2 hz
  have hlt0 := hm.lt
  have hu1 := hu.1
  have hAn : ∀ x : Nat, s.heap.size ≤ x → (WA w s.heap.size) x := fun _ h => Or.inr h
  refine lv_aload_n hx hb dX3_ofDay_0 rfl (lv_at hl 0 rfl) ?_
  refine lv_iload_n hx hb dX3_ofDay_1 rfl (lv_at hl 1 rfl) ?_
  obtain ⟨r1, hr1⟩ := bex (a < 0 ∨ 5 < a)
  refine c_P (As := [.int (iI a)]) (rest := [.ref (w 0)]) fx hl (pm_X3_isNo l a r1 hr1 (by omega)) dX3_ofDay_2 k1113 k1114 k6 k1115 hd_X3_isNo rfl ⟨by decide, by decide⟩ (Nat.le_of_ble_eq_true rfl) ⟨by dsimp only; omega, by dsimp only; omega⟩ ?_
  have br1 : r1 = 0 ∨ r1 = 1 := hr1.elim (fun h => Or.inr h.1) (fun h => Or.inl h.1)
  refine lv_iload_n hx hb dX3_ofDay_5 rfl (lv_at hl 2 rfl) ?_
  refine q_ldc (n := -4371587) hx hb hown (hts _ k1139) (by decide) dX3_ofDay_6 ?_
  refine q_ldc (n := 2932896) hx hb hown (hts _ k1140) (by decide) dX3_ofDay_8 ?_
  obtain ⟨r2, hr2⟩ := bex (n < (-4371587) ∨ 2932896 < n)
  refine c_P (As := [.int (iI n), .int (iI (-4371587)), .int (iI 2932896)]) (rest := [.int (iI r1), .ref (w 0)]) fx hl (pm_X3_isOut l n (-4371587) 2932896 r2 hr2 (by omega) (by omega) (by omega)) dX3_ofDay_10 k1116 k1117 k6 k1118 hd_X3_isOut rfl ⟨by decide, by decide⟩ (Nat.le_of_ble_eq_true rfl) ⟨by dsimp only; omega, by dsimp only; omega⟩ ?_
  have br2 : r2 = 0 ∨ r2 = 1 := hr2.elim (fun h => Or.inr h.1) (fun h => Or.inl h.1)
  refine q_con hx hb dX3_ofDay_13 ?_
  obtain ⟨t3, f4, hq1t3, hq2t3⟩ := fails_ex r1 r2 0 (by omega) (by omega) (by omega)
  have hmw : MWR θ S0 w s.heap r q dt sv th dn rf kn := ⟨hz, hu, hm, hd, hsv⟩
  refine c_M (w := w) (As := [.int (iI r1), .int (iI r2), .int (iI 0)]) (rest := []) (b := w 0) (C := RX3) fx hl (mw_fails θ l S0 _ w _ _ _ _ _ _ _ _ hmw r1 r2 0 t3 f4 (by omega) hq1t3 hq2t3) (ob_recv hK hm.1 rfl) dX3_ofDay_14 k1119 k1121 ks10 k6 k1122 hd_X3_fails rfl ⟨by decide, by decide⟩ (Nat.le_of_ble_eq_true rfl) ⟨by dsimp only; omega, by dsimp only; omega⟩ hS (fun x hx => hx ▸ Or.inl (Or.inl rfl)) (fun H5 locs hmH5 hszH5 hk0H5 hS => ?_)
  have hkH5 : ∀ x : Nat, x < (s.heap).size → ¬ x = w 0 → H5[x]? = (s.heap)[x]? := hk0H5
  have hzH5 := hz0.at hAB hS
  have hltH5 := hmH5.lt
  refine q_ieq (tgt := 22) hx hb dX3_ofDay_17 (by decide) (by omega) (fun c6 => ?_) (fun c6 => ?_)
  · refine lv_aload_n hx hb dX3_ofDay_22 rfl (lv_at hl 0 rfl) ?_
    refine lv_iload_n hx hb dX3_ofDay_23 rfl (lv_at hl 1 rfl) ?_
    refine lv_iload_n hx hb dX3_ofDay_24 rfl (lv_at hl 2 rfl) ?_
    refine c_NR (θ := θ) (As := [.int (iI n)]) (rest := [.int (iI a), .ref (w 0)]) fx hl (pm_X3_dateOf θ l S0 _ hzH5 n (by omega)) dX3_ofDay_25 k1068 k1069 k6 k1070 hd_X3_dateOf rfl ⟨by decide, by decide⟩ (Nat.le_of_ble_eq_true rfl) ⟨by dsimp only; omega, by dsimp only; omega⟩ hS (fun x hx => hAn x (Nat.le_trans hS.1 hx)) (fun q8 H7 locs hqH7 haH7 hszH7 hkH7 hS => ?_)
    have hzH7 := hz0.at hAB hS
    have hmH7 := hmH5.kept hkH7
    have hltH7 := haH7.lt
    refine q_con hx hb dX3_ofDay_28 ?_
    have hmw : MWR θ S0 w H7 r q dt sv t3 dn rf kn := ⟨hzH7, hu, hmH7, hd, hsv⟩
    refine c_M (w := w) (As := [.int (iI a), .ref q8, .int (iI 0)]) (rest := []) (b := w 0) (C := RX3) fx hl (mw_become_ok θ l S0 _ w _ _ _ _ _ _ _ _ hmw a q8 0 n haH7 ⟨by omega, by omega, by omega⟩ (by omega) (by omega) (by omega)) (ob_recv hK hmH7.1 rfl) dX3_ofDay_29 k1126 k1128 ks11 k6 k1129 hd_X3_become rfl ⟨by decide, by decide⟩ (Nat.le_of_ble_eq_true rfl) ⟨by dsimp only; omega, by dsimp only; omega⟩ hS (fun x hx => hx.elim (fun e => Or.inl (Or.inl e)) (fun e => Or.inl (Or.inr (Or.inl e)))) (fun H9 locs hmH9 hszH9 hk0H9 hS => ?_)
    have hkH9 : ∀ x : Nat, x < (H7).size → ¬ (x = w 0 ∨ x = w 1) → H9[x]? = (H7)[x]? := hk0H9
    have haH7_H9 := haH7.kept (hkH9 _ haH7.lt (by omega))
    have hzH9 := hz0.at hAB hS
    have hltH9 := hmH9.lt
    refine lv_pop hx hb dX3_ofDay_32 rfl ?_
    refine lv_iload_n hx hb dX3_ofDay_33 rfl (lv_at hl 2 rfl) ?_
    refine c_P (As := [.int (iI n)]) (rest := []) fx hl (pm_X3_weekdayOf l n (by omega)) dX3_ofDay_34 k1149 k1150 k6 k1151 hd_X3_weekdayOf rfl ⟨by decide, by decide⟩ (Nat.le_of_ble_eq_true rfl) ⟨by dsimp only; omega, by dsimp only; omega⟩ ?_
    have t0z10 := wI_b n
    obtain rfl : t3 = 0 := by omega
    have hmw : MWR θ S0 w H9 (up r (Int.toNat a) q8) q (up dt (Int.toNat a) n) sv 0 (dn + 1) rf kn := ⟨hzH9, hu, hmH9, (fun j hj => by have h9 := hd j hj; show -4371587 ≤ _ ∧ _; simp only [up]; (split <;> omega)), hsv⟩
    exact e_i hx hb hr hlk hS dX3_ofDay_37 (Nat.le_of_ble_eq_true rfl) (Nat.le_of_ble_eq_true rfl) ⟨ex_i (by subst_vars; first | omega | (simp only [up_s, inI_self, inI_1, inI_31]; done) | (simp only [up_s, inI_self, inI_1, inI_31]; omega) | (simp only [up_s, inI_self, inI_1, inI_31]; subst_vars; first | rfl | omega)), (up r (Int.toNat a) q8), q, by first | exact hmw | (subst_vars; exact hmw) | (simp only [inI_self, inI_1, inI_31] at hmw; subst_vars; exact hmw), by first | exact nw_rf | exact nw_up (by omega) | exact nw_up2 (by omega), by first | exact nw_rf | exact nw_up (by omega) | exact nw_up2 (by omega)⟩
  · exact (show False by omega).elim

set_option maxHeartbeats 4000000 in
set_option maxRecDepth 100000 in
theorem mno1_ofDay (θ : TH) (l : Launch) (S0 : State) (H : Heap) (w : Nat → Nat) (r q : Nat → Nat) (dt : Nat → Int) (sv : Nat → Nat → Int) (th dn rf kn : Int) (hw : MWR θ S0 w H r q dt sv th dn rf kn) (a n : Int) (h_0 : -2147483648 ≤ a ∧ a < 2147483648) (h_1 : -2147483648 ≤ n ∧ n < 2147483648) (h_2 : ¬ (0 ≤ a ∧ a < 6)) : CT l yX3_ofDay cX3_ofDay 3 (some .int) 2 42 0 0 [.ref (w 0), .int (iI a), .int (iI n)] S0 H (fun v9 H1 => v9 = some (.int (iI 0)) ∧ ∃ r1 q1 : Nat → Nat, MWR θ S0 w H1 r1 q1 dt sv 1 dn rf kn ∧ NW 6 H.size r r1 ∧ NW 3 H.size q q1) (fun _ _ => False) (WA w H.size) := by
  refine ct_of (by decide +kernel) (Nat.le_of_ble_eq_true rfl) ?_
  intro pg en s mi args below meth co ls fx hs hr hlk hxt hin hl
  subst hs
  obtain ⟨hx, hb, hml, hown, hts⟩ := id fx.1
  have hS : va_S (WA w s.heap.size) s.heap s.heap [] := va_S.rf
  obtain ⟨hz, hu, hm, hd, hsv⟩ := id hw
  have hAB : ∀ x : Nat, (WA w s.heap.size) x → θ.2.2.2 ≤ x := wa_b hu hz.2.1
  have hz0 := hz
  have hK := sz_K fx.2 hz
  have hlt0 := hm.lt
  have hu1 := hu.1
  have hAn : ∀ x : Nat, s.heap.size ≤ x → (WA w s.heap.size) x := fun _ h => Or.inr h
  refine lv_aload_n hx hb dX3_ofDay_0 rfl (lv_at hl 0 rfl) ?_
  refine lv_iload_n hx hb dX3_ofDay_1 rfl (lv_at hl 1 rfl) ?_
  obtain ⟨r1, hr1⟩ := bex (a < 0 ∨ 5 < a)
  refine c_P (As := [.int (iI a)]) (rest := [.ref (w 0)]) fx hl (pm_X3_isNo l a r1 hr1 (by omega)) dX3_ofDay_2 k1113 k1114 k6 k1115 hd_X3_isNo rfl ⟨by decide, by decide⟩ (Nat.le_of_ble_eq_true rfl) ⟨by dsimp only; omega, by dsimp only; omega⟩ ?_
  have br1 : r1 = 0 ∨ r1 = 1 := hr1.elim (fun h => Or.inr h.1) (fun h => Or.inl h.1)
  refine lv_iload_n hx hb dX3_ofDay_5 rfl (lv_at hl 2 rfl) ?_
  refine q_ldc (n := -4371587) hx hb hown (hts _ k1139) (by decide) dX3_ofDay_6 ?_
  refine q_ldc (n := 2932896) hx hb hown (hts _ k1140) (by decide) dX3_ofDay_8 ?_
  obtain ⟨r2, hr2⟩ := bex (n < (-4371587) ∨ 2932896 < n)
  refine c_P (As := [.int (iI n), .int (iI (-4371587)), .int (iI 2932896)]) (rest := [.int (iI r1), .ref (w 0)]) fx hl (pm_X3_isOut l n (-4371587) 2932896 r2 hr2 (by omega) (by omega) (by omega)) dX3_ofDay_10 k1116 k1117 k6 k1118 hd_X3_isOut rfl ⟨by decide, by decide⟩ (Nat.le_of_ble_eq_true rfl) ⟨by dsimp only; omega, by dsimp only; omega⟩ ?_
  have br2 : r2 = 0 ∨ r2 = 1 := hr2.elim (fun h => Or.inr h.1) (fun h => Or.inl h.1)
  refine q_con hx hb dX3_ofDay_13 ?_
  obtain ⟨t3, f4, hq1t3, hq2t3⟩ := fails_ex r1 r2 0 (by omega) (by omega) (by omega)
  have hmw : MWR θ S0 w s.heap r q dt sv th dn rf kn := ⟨hz, hu, hm, hd, hsv⟩
  refine c_M (w := w) (As := [.int (iI r1), .int (iI r2), .int (iI 0)]) (rest := []) (b := w 0) (C := RX3) fx hl (mw_fails θ l S0 _ w _ _ _ _ _ _ _ _ hmw r1 r2 0 t3 f4 (by omega) hq1t3 hq2t3) (ob_recv hK hm.1 rfl) dX3_ofDay_14 k1119 k1121 ks10 k6 k1122 hd_X3_fails rfl ⟨by decide, by decide⟩ (Nat.le_of_ble_eq_true rfl) ⟨by dsimp only; omega, by dsimp only; omega⟩ hS (fun x hx => hx ▸ Or.inl (Or.inl rfl)) (fun H5 locs hmH5 hszH5 hk0H5 hS => ?_)
  have hkH5 : ∀ x : Nat, x < (s.heap).size → ¬ x = w 0 → H5[x]? = (s.heap)[x]? := hk0H5
  have hzH5 := hz0.at hAB hS
  have hltH5 := hmH5.lt
  refine q_ieq (tgt := 22) hx hb dX3_ofDay_17 (by decide) (by omega) (fun c6 => ?_) (fun c6 => ?_)
  · exact (show False by omega).elim
  · refine q_con hx hb dX3_ofDay_20 ?_
    obtain rfl : t3 = 1 := by omega
    have hmw : MWR θ S0 w H5 r q dt sv 1 dn rf kn := ⟨hzH5, hu, hmH5, hd, hsv⟩
    exact e_i hx hb hr hlk hS dX3_ofDay_21 (Nat.le_of_ble_eq_true rfl) (Nat.le_of_ble_eq_true rfl) ⟨ex_i (by omega), r, q, by first | exact hmw | (subst_vars; exact hmw) | (simp only [inI_self, inI_1, inI_31] at hmw; subst_vars; exact hmw), by first | exact nw_rf | exact nw_up (by omega) | exact nw_up2 (by omega), by first | exact nw_rf | exact nw_up (by omega) | exact nw_up2 (by omega)⟩

set_option maxHeartbeats 4000000 in
set_option maxRecDepth 100000 in
theorem mno2_ofDay (θ : TH) (l : Launch) (S0 : State) (H : Heap) (w : Nat → Nat) (r q : Nat → Nat) (dt : Nat → Int) (sv : Nat → Nat → Int) (th dn rf kn : Int) (hw : MWR θ S0 w H r q dt sv th dn rf kn) (a n : Int) (h_0 : -2147483648 ≤ a ∧ a < 2147483648) (h_1 : -2147483648 ≤ n ∧ n < 2147483648) (h_2 : 0 ≤ a ∧ a < 6) (h_3 : ¬ (-4371587 ≤ n ∧ n ≤ 2932896)) : CT l yX3_ofDay cX3_ofDay 3 (some .int) 2 42 0 0 [.ref (w 0), .int (iI a), .int (iI n)] S0 H (fun v9 H1 => v9 = some (.int (iI 0)) ∧ ∃ r1 q1 : Nat → Nat, MWR θ S0 w H1 r1 q1 dt sv 2 dn rf kn ∧ NW 6 H.size r r1 ∧ NW 3 H.size q q1) (fun _ _ => False) (WA w H.size) := by
  refine ct_of (by decide +kernel) (Nat.le_of_ble_eq_true rfl) ?_
  intro pg en s mi args below meth co ls fx hs hr hlk hxt hin hl
  subst hs
  obtain ⟨hx, hb, hml, hown, hts⟩ := id fx.1
  have hS : va_S (WA w s.heap.size) s.heap s.heap [] := va_S.rf
  obtain ⟨hz, hu, hm, hd, hsv⟩ := id hw
  have hAB : ∀ x : Nat, (WA w s.heap.size) x → θ.2.2.2 ≤ x := wa_b hu hz.2.1
  have hz0 := hz
  have hK := sz_K fx.2 hz
  have hlt0 := hm.lt
  have hu1 := hu.1
  have hAn : ∀ x : Nat, s.heap.size ≤ x → (WA w s.heap.size) x := fun _ h => Or.inr h
  refine lv_aload_n hx hb dX3_ofDay_0 rfl (lv_at hl 0 rfl) ?_
  refine lv_iload_n hx hb dX3_ofDay_1 rfl (lv_at hl 1 rfl) ?_
  obtain ⟨r1, hr1⟩ := bex (a < 0 ∨ 5 < a)
  refine c_P (As := [.int (iI a)]) (rest := [.ref (w 0)]) fx hl (pm_X3_isNo l a r1 hr1 (by omega)) dX3_ofDay_2 k1113 k1114 k6 k1115 hd_X3_isNo rfl ⟨by decide, by decide⟩ (Nat.le_of_ble_eq_true rfl) ⟨by dsimp only; omega, by dsimp only; omega⟩ ?_
  have br1 : r1 = 0 ∨ r1 = 1 := hr1.elim (fun h => Or.inr h.1) (fun h => Or.inl h.1)
  refine lv_iload_n hx hb dX3_ofDay_5 rfl (lv_at hl 2 rfl) ?_
  refine q_ldc (n := -4371587) hx hb hown (hts _ k1139) (by decide) dX3_ofDay_6 ?_
  refine q_ldc (n := 2932896) hx hb hown (hts _ k1140) (by decide) dX3_ofDay_8 ?_
  obtain ⟨r2, hr2⟩ := bex (n < (-4371587) ∨ 2932896 < n)
  refine c_P (As := [.int (iI n), .int (iI (-4371587)), .int (iI 2932896)]) (rest := [.int (iI r1), .ref (w 0)]) fx hl (pm_X3_isOut l n (-4371587) 2932896 r2 hr2 (by omega) (by omega) (by omega)) dX3_ofDay_10 k1116 k1117 k6 k1118 hd_X3_isOut rfl ⟨by decide, by decide⟩ (Nat.le_of_ble_eq_true rfl) ⟨by dsimp only; omega, by dsimp only; omega⟩ ?_
  have br2 : r2 = 0 ∨ r2 = 1 := hr2.elim (fun h => Or.inr h.1) (fun h => Or.inl h.1)
  refine q_con hx hb dX3_ofDay_13 ?_
  obtain ⟨t3, f4, hq1t3, hq2t3⟩ := fails_ex r1 r2 0 (by omega) (by omega) (by omega)
  have hmw : MWR θ S0 w s.heap r q dt sv th dn rf kn := ⟨hz, hu, hm, hd, hsv⟩
  refine c_M (w := w) (As := [.int (iI r1), .int (iI r2), .int (iI 0)]) (rest := []) (b := w 0) (C := RX3) fx hl (mw_fails θ l S0 _ w _ _ _ _ _ _ _ _ hmw r1 r2 0 t3 f4 (by omega) hq1t3 hq2t3) (ob_recv hK hm.1 rfl) dX3_ofDay_14 k1119 k1121 ks10 k6 k1122 hd_X3_fails rfl ⟨by decide, by decide⟩ (Nat.le_of_ble_eq_true rfl) ⟨by dsimp only; omega, by dsimp only; omega⟩ hS (fun x hx => hx ▸ Or.inl (Or.inl rfl)) (fun H5 locs hmH5 hszH5 hk0H5 hS => ?_)
  have hkH5 : ∀ x : Nat, x < (s.heap).size → ¬ x = w 0 → H5[x]? = (s.heap)[x]? := hk0H5
  have hzH5 := hz0.at hAB hS
  have hltH5 := hmH5.lt
  refine q_ieq (tgt := 22) hx hb dX3_ofDay_17 (by decide) (by omega) (fun c6 => ?_) (fun c6 => ?_)
  · exact (show False by omega).elim
  · refine q_con hx hb dX3_ofDay_20 ?_
    obtain rfl : t3 = 2 := by omega
    have hmw : MWR θ S0 w H5 r q dt sv 2 dn rf kn := ⟨hzH5, hu, hmH5, hd, hsv⟩
    exact e_i hx hb hr hlk hS dX3_ofDay_21 (Nat.le_of_ble_eq_true rfl) (Nat.le_of_ble_eq_true rfl) ⟨ex_i (by omega), r, q, by first | exact hmw | (subst_vars; exact hmw) | (simp only [inI_self, inI_1, inI_31] at hmw; subst_vars; exact hmw), by first | exact nw_rf | exact nw_up (by omega) | exact nw_up2 (by omega), by first | exact nw_rf | exact nw_up (by omega) | exact nw_up2 (by omega)⟩

set_option maxHeartbeats 4000000 in
set_option maxRecDepth 100000 in
theorem mok_ofMonth (θ : TH) (l : Launch) (S0 : State) (H : Heap) (w : Nat → Nat) (r q : Nat → Nat) (dt : Nat → Int) (sv : Nat → Nat → Int) (th dn rf kn : Int) (hw : MWR θ S0 w H r q dt sv th dn rf kn) (a m k : Int) (h_0 : -2147483648 ≤ a ∧ a < 2147483648) (h_1 : -2147483648 ≤ m ∧ m < 2147483648) (h_2 : -2147483648 ≤ k ∧ k < 2147483648) (h_3 : 0 ≤ a ∧ a < 6) (h_4 : -119988 ≤ m ∧ m ≤ 119999) (h_5 : 1 ≤ k ∧ k ≤ 31) : CT l yX3_ofMonth cX3_ofMonth 4 (some .int) 8 170 1 2 [.ref (w 0), .int (iI a), .int (iI m), .int (iI k)] S0 H (fun v9 H1 => v9 = some (.int (iI (dI (inI m k)))) ∧ ∃ r1 q1 : Nat → Nat, MWR θ S0 w H1 r1 q1 (up dt a.toNat (inI m k)) sv 0 (dn + 1) rf kn ∧ NW 6 H.size r r1 ∧ NW 3 H.size q q1) (fun _ _ => False) (WA w H.size) := by
  refine ct_of (by decide +kernel) (Nat.le_of_ble_eq_true rfl) ?_
  intro pg en s mi args below meth co ls fx hs hr hlk hxt hin hl
  subst hs
  obtain ⟨hx, hb, hml, hown, hts⟩ := id fx.1
  have hS : va_S (WA w s.heap.size) s.heap s.heap [] := va_S.rf
  obtain ⟨hz, hu, hm, hd, hsv⟩ := id hw
  have hAB : ∀ x : Nat, (WA w s.heap.size) x → θ.2.2.2 ≤ x := wa_b hu hz.2.1
  have hz0 := hz
  have hK := sz_K fx.2 hz
  have hlt0 := hm.lt
  have hu1 := hu.1
  have hAn : ∀ x : Nat, s.heap.size ≤ x → (WA w s.heap.size) x := fun _ h => Or.inr h
  have tt1 := inM (m := m) (by omega)
  refine lv_aload_n hx hb dX3_ofMonth_0 rfl (lv_at hl 0 rfl) ?_
  refine lv_iload_n hx hb dX3_ofMonth_1 rfl (lv_at hl 1 rfl) ?_
  obtain ⟨r1, hr1⟩ := bex (a < 0 ∨ 5 < a)
  refine c_P (As := [.int (iI a)]) (rest := [.ref (w 0)]) fx hl (pm_X3_isNo l a r1 hr1 (by omega)) dX3_ofMonth_2 k1113 k1114 k6 k1115 hd_X3_isNo rfl ⟨by decide, by decide⟩ (Nat.le_of_ble_eq_true rfl) ⟨by dsimp only; omega, by dsimp only; omega⟩ ?_
  have br1 : r1 = 0 ∨ r1 = 1 := hr1.elim (fun h => Or.inr h.1) (fun h => Or.inl h.1)
  refine lv_iload_n hx hb dX3_ofMonth_5 rfl (lv_at hl 2 rfl) ?_
  refine q_ldc (n := -119988) hx hb hown (hts _ k1156) (by decide) dX3_ofMonth_6 ?_
  refine q_ldc (n := 119999) hx hb hown (hts _ k1157) (by decide) dX3_ofMonth_8 ?_
  obtain ⟨r2, hr2⟩ := bex (m < (-119988) ∨ 119999 < m)
  refine c_P (As := [.int (iI m), .int (iI (-119988)), .int (iI 119999)]) (rest := [.int (iI r1), .ref (w 0)]) fx hl (pm_X3_isOut l m (-119988) 119999 r2 hr2 (by omega) (by omega) (by omega)) dX3_ofMonth_10 k1116 k1117 k6 k1118 hd_X3_isOut rfl ⟨by decide, by decide⟩ (Nat.le_of_ble_eq_true rfl) ⟨by dsimp only; omega, by dsimp only; omega⟩ ?_
  have br2 : r2 = 0 ∨ r2 = 1 := hr2.elim (fun h => Or.inr h.1) (fun h => Or.inl h.1)
  refine q_ine (tgt := 26) hx hb dX3_ofMonth_13 (by decide) (by omega) (fun c3 => ?_) (fun c3 => ?_)
  · exact (show False by omega).elim
  · refine lv_iload_n hx hb dX3_ofMonth_16 rfl (lv_at hl 3 rfl) ?_
    refine q_con hx hb dX3_ofMonth_17 ?_
    refine q_bip hx hb dX3_ofMonth_18 (by decide) ?_
    obtain ⟨r4, hr4⟩ := bex (k < 1 ∨ 31 < k)
    refine c_P (As := [.int (iI k), .int (iI 1), .int (iI 31)]) (rest := [.int (iI r1), .ref (w 0)]) fx hl (pm_X3_isOut l k 1 31 r4 hr4 (by omega) (by omega) (by omega)) dX3_ofMonth_20 k1116 k1117 k6 k1118 hd_X3_isOut rfl ⟨by decide, by decide⟩ (Nat.le_of_ble_eq_true rfl) ⟨by dsimp only; omega, by dsimp only; omega⟩ ?_
    have br4 : r4 = 0 ∨ r4 = 1 := hr4.elim (fun h => Or.inr h.1) (fun h => Or.inl h.1)
    refine q_ieq (tgt := 30) hx hb dX3_ofMonth_23 (by decide) (by omega) (fun c5 => ?_) (fun c5 => ?_)
    · refine q_con hx hb dX3_ofMonth_30 ?_
      refine q_con hx hb dX3_ofMonth_31 ?_
      obtain ⟨t6, f7, hq1t6, hq2t6⟩ := fails_ex r1 0 0 (by omega) (by omega) (by omega)
      have hmw : MWR θ S0 w s.heap r q dt sv th dn rf kn := ⟨hz, hu, hm, hd, hsv⟩
      refine c_M (w := w) (As := [.int (iI r1), .int (iI 0), .int (iI 0)]) (rest := []) (b := w 0) (C := RX3) fx hl (mw_fails θ l S0 _ w _ _ _ _ _ _ _ _ hmw r1 0 0 t6 f7 (by omega) hq1t6 hq2t6) (ob_recv hK hm.1 rfl) dX3_ofMonth_32 k1119 k1121 ks10 k6 k1122 hd_X3_fails rfl ⟨by decide, by decide⟩ (Nat.le_of_ble_eq_true rfl) ⟨by dsimp only; omega, by dsimp only; omega⟩ hS (fun x hx => hx ▸ Or.inl (Or.inl rfl)) (fun H8 locs hmH8 hszH8 hk0H8 hS => ?_)
      have hkH8 : ∀ x : Nat, x < (s.heap).size → ¬ x = w 0 → H8[x]? = (s.heap)[x]? := hk0H8
      have hzH8 := hz0.at hAB hS
      have hltH8 := hmH8.lt
      refine q_ieq (tgt := 40) hx hb dX3_ofMonth_35 (by decide) (by omega) (fun c9 => ?_) (fun c9 => ?_)
      · refine lv_aload_n hx hb dX3_ofMonth_40 rfl (lv_at hl 0 rfl) ?_
        refine lv_iload_n hx hb dX3_ofMonth_41 rfl (lv_at hl 1 rfl) ?_
        refine lv_iload_n hx hb dX3_ofMonth_42 rfl (lv_at hl 2 rfl) ?_
        refine lv_iload_n hx hb dX3_ofMonth_43 rfl (lv_at hl 3 rfl) ?_
        refine c_NR (θ := θ) (As := [.int (iI m), .int (iI k)]) (rest := [.int (iI a), .ref (w 0)]) fx hl (pm_X3_within θ l S0 _ hzH8 m k (by omega) (by omega)) dX3_ofMonth_44 k1123 k1124 k6 k1125 hd_X3_within rfl ⟨by decide, by decide⟩ (Nat.le_of_ble_eq_true rfl) ⟨by dsimp only; omega, by dsimp only; omega⟩ hS (fun x hx => hAn x (Nat.le_trans hS.1 hx)) (fun q11 H10 locs hqH10 haH10 hszH10 hkH10 hS => ?_)
        have hzH10 := hz0.at hAB hS
        have hmH10 := hmH8.kept hkH10
        have hltH10 := haH10.lt
        have t0q11 := inI_s (m := m) (k := k) (by omega)
        refine q_con hx hb dX3_ofMonth_47 ?_
        have hmw : MWR θ S0 w H10 r q dt sv t6 dn rf kn := ⟨hzH10, hu, hmH10, hd, hsv⟩
        refine c_M (w := w) (As := [.int (iI a), .ref q11, .int (iI 0)]) (rest := []) (b := w 0) (C := RX3) fx hl (mw_become_ok θ l S0 _ w _ _ _ _ _ _ _ _ hmw a q11 0 (inI m k) haH10 ⟨by omega, by omega, by omega⟩ (by omega) (by omega) (by omega)) (ob_recv hK hmH10.1 rfl) dX3_ofMonth_48 k1126 k1128 ks11 k6 k1129 hd_X3_become rfl ⟨by decide, by decide⟩ (Nat.le_of_ble_eq_true rfl) ⟨by dsimp only; omega, by dsimp only; omega⟩ hS (fun x hx => hx.elim (fun e => Or.inl (Or.inl e)) (fun e => Or.inl (Or.inr (Or.inl e)))) (fun H12 locs hmH12 hszH12 hk0H12 hS => ?_)
        have hkH12 : ∀ x : Nat, x < (H10).size → ¬ (x = w 0 ∨ x = w 1) → H12[x]? = (H10)[x]? := hk0H12
        have haH10_H12 := haH10.kept (hkH12 _ haH10.lt (by omega))
        have hzH12 := hz0.at hAB hS
        have hltH12 := hmH12.lt
        refine lv_pop hx hb dX3_ofMonth_51 rfl ?_
        refine lv_aload_n hx hb dX3_ofMonth_52 rfl (lv_at hl 0 rfl) ?_
        refine r_get (θ := θ) (C := RX3) (T := TX3) (N := 6) (ci := 9) hx hb hts gwX3 hown hK hmH12.1 rfl 4 (by decide) k1094 (fun _ h => h) (v := .ref (w 1)) rfl dX3_ofMonth_53 ?_
        refine lv_iload_n hx hb dX3_ofMonth_56 rfl (lv_at hl 1 rfl) ?_
        refine r_aald (θ := θ) hx hb hK hmH12.2.1 (i := a) (by omega) (by decide) dX3_ofMonth_57 ?_
        have rw13 := (hmH12.2.2.2.1 (a.toNat) (by omega)).1
        have rw13n := (hmH12.2.2.2.1 (a.toNat) (by omega)).2
        have rw13l := rw13.lt
        refine q_con hx hb dX3_ofMonth_58 ?_
        refine r_iald (θ := θ) hx hb hK rw13 (i := 1) (by omega) (by decide) dX3_ofMonth_59 ?_
        refine q_as (dI ((up dt (Int.toNat a) (inI m k)) a.toNat)) rfl ?_
        obtain rfl : t6 = 0 := by omega
        have hmw : MWR θ S0 w H12 (up r (Int.toNat a) q11) q (up dt (Int.toNat a) (inI m k)) sv 0 (dn + 1) rf kn := ⟨hzH12, hu, hmH12, (fun j hj => by have h9 := hd j hj; show -4371587 ≤ _ ∧ _; simp only [up]; (split <;> omega)), hsv⟩
        exact e_i hx hb hr hlk hS dX3_ofMonth_60 (Nat.le_of_ble_eq_true rfl) (Nat.le_of_ble_eq_true rfl) ⟨ex_i (by subst_vars; first | omega | (simp only [up_s, inI_self, inI_1, inI_31]; done) | (simp only [up_s, inI_self, inI_1, inI_31]; omega) | (simp only [up_s, inI_self, inI_1, inI_31]; subst_vars; first | rfl | omega)), (up r (Int.toNat a) q11), q, by first | exact hmw | (subst_vars; exact hmw) | (simp only [inI_self, inI_1, inI_31] at hmw; subst_vars; exact hmw), by first | exact nw_rf | exact nw_up (by omega) | exact nw_up2 (by omega), by first | exact nw_rf | exact nw_up (by omega) | exact nw_up2 (by omega)⟩
      · exact (show False by omega).elim
    · exact (show False by omega).elim

set_option maxHeartbeats 4000000 in
set_option maxRecDepth 100000 in
theorem mno1_ofMonth (θ : TH) (l : Launch) (S0 : State) (H : Heap) (w : Nat → Nat) (r q : Nat → Nat) (dt : Nat → Int) (sv : Nat → Nat → Int) (th dn rf kn : Int) (hw : MWR θ S0 w H r q dt sv th dn rf kn) (a m k : Int) (h_0 : -2147483648 ≤ a ∧ a < 2147483648) (h_1 : -2147483648 ≤ m ∧ m < 2147483648) (h_2 : -2147483648 ≤ k ∧ k < 2147483648) (h_3 : ¬ (0 ≤ a ∧ a < 6)) : CT l yX3_ofMonth cX3_ofMonth 4 (some .int) 2 42 0 0 [.ref (w 0), .int (iI a), .int (iI m), .int (iI k)] S0 H (fun v9 H1 => v9 = some (.int (iI 0)) ∧ ∃ r1 q1 : Nat → Nat, MWR θ S0 w H1 r1 q1 dt sv 1 dn rf kn ∧ NW 6 H.size r r1 ∧ NW 3 H.size q q1) (fun _ _ => False) (WA w H.size) := by
  refine ct_of (by decide +kernel) (Nat.le_of_ble_eq_true rfl) ?_
  intro pg en s mi args below meth co ls fx hs hr hlk hxt hin hl
  subst hs
  obtain ⟨hx, hb, hml, hown, hts⟩ := id fx.1
  have hS : va_S (WA w s.heap.size) s.heap s.heap [] := va_S.rf
  obtain ⟨hz, hu, hm, hd, hsv⟩ := id hw
  have hAB : ∀ x : Nat, (WA w s.heap.size) x → θ.2.2.2 ≤ x := wa_b hu hz.2.1
  have hz0 := hz
  have hK := sz_K fx.2 hz
  have hlt0 := hm.lt
  have hu1 := hu.1
  have hAn : ∀ x : Nat, s.heap.size ≤ x → (WA w s.heap.size) x := fun _ h => Or.inr h
  refine lv_aload_n hx hb dX3_ofMonth_0 rfl (lv_at hl 0 rfl) ?_
  refine lv_iload_n hx hb dX3_ofMonth_1 rfl (lv_at hl 1 rfl) ?_
  obtain ⟨r1, hr1⟩ := bex (a < 0 ∨ 5 < a)
  refine c_P (As := [.int (iI a)]) (rest := [.ref (w 0)]) fx hl (pm_X3_isNo l a r1 hr1 (by omega)) dX3_ofMonth_2 k1113 k1114 k6 k1115 hd_X3_isNo rfl ⟨by decide, by decide⟩ (Nat.le_of_ble_eq_true rfl) ⟨by dsimp only; omega, by dsimp only; omega⟩ ?_
  have br1 : r1 = 0 ∨ r1 = 1 := hr1.elim (fun h => Or.inr h.1) (fun h => Or.inl h.1)
  refine lv_iload_n hx hb dX3_ofMonth_5 rfl (lv_at hl 2 rfl) ?_
  refine q_ldc (n := -119988) hx hb hown (hts _ k1156) (by decide) dX3_ofMonth_6 ?_
  refine q_ldc (n := 119999) hx hb hown (hts _ k1157) (by decide) dX3_ofMonth_8 ?_
  obtain ⟨r2, hr2⟩ := bex (m < (-119988) ∨ 119999 < m)
  refine c_P (As := [.int (iI m), .int (iI (-119988)), .int (iI 119999)]) (rest := [.int (iI r1), .ref (w 0)]) fx hl (pm_X3_isOut l m (-119988) 119999 r2 hr2 (by omega) (by omega) (by omega)) dX3_ofMonth_10 k1116 k1117 k6 k1118 hd_X3_isOut rfl ⟨by decide, by decide⟩ (Nat.le_of_ble_eq_true rfl) ⟨by dsimp only; omega, by dsimp only; omega⟩ ?_
  have br2 : r2 = 0 ∨ r2 = 1 := hr2.elim (fun h => Or.inr h.1) (fun h => Or.inl h.1)
  refine q_ine (tgt := 26) hx hb dX3_ofMonth_13 (by decide) (by omega) (fun c3 => ?_) (fun c3 => ?_)
  · refine q_con hx hb dX3_ofMonth_26 ?_
    refine lv_goto (tgt := 31) hx hb dX3_ofMonth_27 (by decide) ?_
    refine q_con hx hb dX3_ofMonth_31 ?_
    obtain ⟨t4, f5, hq1t4, hq2t4⟩ := fails_ex r1 1 0 (by omega) (by omega) (by omega)
    have hmw : MWR θ S0 w s.heap r q dt sv th dn rf kn := ⟨hz, hu, hm, hd, hsv⟩
    refine c_M (w := w) (As := [.int (iI r1), .int (iI 1), .int (iI 0)]) (rest := []) (b := w 0) (C := RX3) fx hl (mw_fails θ l S0 _ w _ _ _ _ _ _ _ _ hmw r1 1 0 t4 f5 (by omega) hq1t4 hq2t4) (ob_recv hK hm.1 rfl) dX3_ofMonth_32 k1119 k1121 ks10 k6 k1122 hd_X3_fails rfl ⟨by decide, by decide⟩ (Nat.le_of_ble_eq_true rfl) ⟨by dsimp only; omega, by dsimp only; omega⟩ hS (fun x hx => hx ▸ Or.inl (Or.inl rfl)) (fun H6 locs hmH6 hszH6 hk0H6 hS => ?_)
    have hkH6 : ∀ x : Nat, x < (s.heap).size → ¬ x = w 0 → H6[x]? = (s.heap)[x]? := hk0H6
    have hzH6 := hz0.at hAB hS
    have hltH6 := hmH6.lt
    refine q_ieq (tgt := 40) hx hb dX3_ofMonth_35 (by decide) (by omega) (fun c7 => ?_) (fun c7 => ?_)
    · exact (show False by omega).elim
    · refine q_con hx hb dX3_ofMonth_38 ?_
      obtain rfl : t4 = 1 := by omega
      have hmw : MWR θ S0 w H6 r q dt sv 1 dn rf kn := ⟨hzH6, hu, hmH6, hd, hsv⟩
      exact e_i hx hb hr hlk hS dX3_ofMonth_39 (Nat.le_of_ble_eq_true rfl) (Nat.le_of_ble_eq_true rfl) ⟨ex_i (by omega), r, q, by first | exact hmw | (subst_vars; exact hmw) | (simp only [inI_self, inI_1, inI_31] at hmw; subst_vars; exact hmw), by first | exact nw_rf | exact nw_up (by omega) | exact nw_up2 (by omega), by first | exact nw_rf | exact nw_up (by omega) | exact nw_up2 (by omega)⟩
  · refine lv_iload_n hx hb dX3_ofMonth_16 rfl (lv_at hl 3 rfl) ?_
    refine q_con hx hb dX3_ofMonth_17 ?_
    refine q_bip hx hb dX3_ofMonth_18 (by decide) ?_
    obtain ⟨r8, hr8⟩ := bex (k < 1 ∨ 31 < k)
    refine c_P (As := [.int (iI k), .int (iI 1), .int (iI 31)]) (rest := [.int (iI r1), .ref (w 0)]) fx hl (pm_X3_isOut l k 1 31 r8 hr8 (by omega) (by omega) (by omega)) dX3_ofMonth_20 k1116 k1117 k6 k1118 hd_X3_isOut rfl ⟨by decide, by decide⟩ (Nat.le_of_ble_eq_true rfl) ⟨by dsimp only; omega, by dsimp only; omega⟩ ?_
    have br8 : r8 = 0 ∨ r8 = 1 := hr8.elim (fun h => Or.inr h.1) (fun h => Or.inl h.1)
    refine q_ieq (tgt := 30) hx hb dX3_ofMonth_23 (by decide) (by omega) (fun c9 => ?_) (fun c9 => ?_)
    · refine q_con hx hb dX3_ofMonth_30 ?_
      refine q_con hx hb dX3_ofMonth_31 ?_
      obtain ⟨t10, f11, hq1t10, hq2t10⟩ := fails_ex r1 0 0 (by omega) (by omega) (by omega)
      have hmw : MWR θ S0 w s.heap r q dt sv th dn rf kn := ⟨hz, hu, hm, hd, hsv⟩
      refine c_M (w := w) (As := [.int (iI r1), .int (iI 0), .int (iI 0)]) (rest := []) (b := w 0) (C := RX3) fx hl (mw_fails θ l S0 _ w _ _ _ _ _ _ _ _ hmw r1 0 0 t10 f11 (by omega) hq1t10 hq2t10) (ob_recv hK hm.1 rfl) dX3_ofMonth_32 k1119 k1121 ks10 k6 k1122 hd_X3_fails rfl ⟨by decide, by decide⟩ (Nat.le_of_ble_eq_true rfl) ⟨by dsimp only; omega, by dsimp only; omega⟩ hS (fun x hx => hx ▸ Or.inl (Or.inl rfl)) (fun H12 locs hmH12 hszH12 hk0H12 hS => ?_)
      have hkH12 : ∀ x : Nat, x < (s.heap).size → ¬ x = w 0 → H12[x]? = (s.heap)[x]? := hk0H12
      have hzH12 := hz0.at hAB hS
      have hltH12 := hmH12.lt
      refine q_ieq (tgt := 40) hx hb dX3_ofMonth_35 (by decide) (by omega) (fun c13 => ?_) (fun c13 => ?_)
      · exact (show False by omega).elim
      · refine q_con hx hb dX3_ofMonth_38 ?_
        obtain rfl : t10 = 1 := by omega
        have hmw : MWR θ S0 w H12 r q dt sv 1 dn rf kn := ⟨hzH12, hu, hmH12, hd, hsv⟩
        exact e_i hx hb hr hlk hS dX3_ofMonth_39 (Nat.le_of_ble_eq_true rfl) (Nat.le_of_ble_eq_true rfl) ⟨ex_i (by omega), r, q, by first | exact hmw | (subst_vars; exact hmw) | (simp only [inI_self, inI_1, inI_31] at hmw; subst_vars; exact hmw), by first | exact nw_rf | exact nw_up (by omega) | exact nw_up2 (by omega), by first | exact nw_rf | exact nw_up (by omega) | exact nw_up2 (by omega)⟩
    · refine q_con hx hb dX3_ofMonth_26 ?_
      refine lv_goto (tgt := 31) hx hb dX3_ofMonth_27 (by decide) ?_
      refine q_con hx hb dX3_ofMonth_31 ?_
      obtain ⟨t14, f15, hq1t14, hq2t14⟩ := fails_ex r1 1 0 (by omega) (by omega) (by omega)
      have hmw : MWR θ S0 w s.heap r q dt sv th dn rf kn := ⟨hz, hu, hm, hd, hsv⟩
      refine c_M (w := w) (As := [.int (iI r1), .int (iI 1), .int (iI 0)]) (rest := []) (b := w 0) (C := RX3) fx hl (mw_fails θ l S0 _ w _ _ _ _ _ _ _ _ hmw r1 1 0 t14 f15 (by omega) hq1t14 hq2t14) (ob_recv hK hm.1 rfl) dX3_ofMonth_32 k1119 k1121 ks10 k6 k1122 hd_X3_fails rfl ⟨by decide, by decide⟩ (Nat.le_of_ble_eq_true rfl) ⟨by dsimp only; omega, by dsimp only; omega⟩ hS (fun x hx => hx ▸ Or.inl (Or.inl rfl)) (fun H16 locs hmH16 hszH16 hk0H16 hS => ?_)
      have hkH16 : ∀ x : Nat, x < (s.heap).size → ¬ x = w 0 → H16[x]? = (s.heap)[x]? := hk0H16
      have hzH16 := hz0.at hAB hS
      have hltH16 := hmH16.lt
      refine q_ieq (tgt := 40) hx hb dX3_ofMonth_35 (by decide) (by omega) (fun c17 => ?_) (fun c17 => ?_)
      · exact (show False by omega).elim
      · refine q_con hx hb dX3_ofMonth_38 ?_
        obtain rfl : t14 = 1 := by omega
        have hmw : MWR θ S0 w H16 r q dt sv 1 dn rf kn := ⟨hzH16, hu, hmH16, hd, hsv⟩
        exact e_i hx hb hr hlk hS dX3_ofMonth_39 (Nat.le_of_ble_eq_true rfl) (Nat.le_of_ble_eq_true rfl) ⟨ex_i (by omega), r, q, by first | exact hmw | (subst_vars; exact hmw) | (simp only [inI_self, inI_1, inI_31] at hmw; subst_vars; exact hmw), by first | exact nw_rf | exact nw_up (by omega) | exact nw_up2 (by omega), by first | exact nw_rf | exact nw_up (by omega) | exact nw_up2 (by omega)⟩

set_option maxHeartbeats 4000000 in
set_option maxRecDepth 100000 in
theorem mno2_ofMonth (θ : TH) (l : Launch) (S0 : State) (H : Heap) (w : Nat → Nat) (r q : Nat → Nat) (dt : Nat → Int) (sv : Nat → Nat → Int) (th dn rf kn : Int) (hw : MWR θ S0 w H r q dt sv th dn rf kn) (a m k : Int) (h_0 : -2147483648 ≤ a ∧ a < 2147483648) (h_1 : -2147483648 ≤ m ∧ m < 2147483648) (h_2 : -2147483648 ≤ k ∧ k < 2147483648) (h_3 : 0 ≤ a ∧ a < 6) (h_4 : ¬ (-119988 ≤ m ∧ m ≤ 119999)) : CT l yX3_ofMonth cX3_ofMonth 4 (some .int) 2 42 0 0 [.ref (w 0), .int (iI a), .int (iI m), .int (iI k)] S0 H (fun v9 H1 => v9 = some (.int (iI 0)) ∧ ∃ r1 q1 : Nat → Nat, MWR θ S0 w H1 r1 q1 dt sv 2 dn rf kn ∧ NW 6 H.size r r1 ∧ NW 3 H.size q q1) (fun _ _ => False) (WA w H.size) := by
  refine ct_of (by decide +kernel) (Nat.le_of_ble_eq_true rfl) ?_
  intro pg en s mi args below meth co ls fx hs hr hlk hxt hin hl
  subst hs
  obtain ⟨hx, hb, hml, hown, hts⟩ := id fx.1
  have hS : va_S (WA w s.heap.size) s.heap s.heap [] := va_S.rf
  obtain ⟨hz, hu, hm, hd, hsv⟩ := id hw
  have hAB : ∀ x : Nat, (WA w s.heap.size) x → θ.2.2.2 ≤ x := wa_b hu hz.2.1
  have hz0 := hz
  have hK := sz_K fx.2 hz
  have hlt0 := hm.lt
  have hu1 := hu.1
  have hAn : ∀ x : Nat, s.heap.size ≤ x → (WA w s.heap.size) x := fun _ h => Or.inr h
  refine lv_aload_n hx hb dX3_ofMonth_0 rfl (lv_at hl 0 rfl) ?_
  refine lv_iload_n hx hb dX3_ofMonth_1 rfl (lv_at hl 1 rfl) ?_
  obtain ⟨r1, hr1⟩ := bex (a < 0 ∨ 5 < a)
  refine c_P (As := [.int (iI a)]) (rest := [.ref (w 0)]) fx hl (pm_X3_isNo l a r1 hr1 (by omega)) dX3_ofMonth_2 k1113 k1114 k6 k1115 hd_X3_isNo rfl ⟨by decide, by decide⟩ (Nat.le_of_ble_eq_true rfl) ⟨by dsimp only; omega, by dsimp only; omega⟩ ?_
  have br1 : r1 = 0 ∨ r1 = 1 := hr1.elim (fun h => Or.inr h.1) (fun h => Or.inl h.1)
  refine lv_iload_n hx hb dX3_ofMonth_5 rfl (lv_at hl 2 rfl) ?_
  refine q_ldc (n := -119988) hx hb hown (hts _ k1156) (by decide) dX3_ofMonth_6 ?_
  refine q_ldc (n := 119999) hx hb hown (hts _ k1157) (by decide) dX3_ofMonth_8 ?_
  obtain ⟨r2, hr2⟩ := bex (m < (-119988) ∨ 119999 < m)
  refine c_P (As := [.int (iI m), .int (iI (-119988)), .int (iI 119999)]) (rest := [.int (iI r1), .ref (w 0)]) fx hl (pm_X3_isOut l m (-119988) 119999 r2 hr2 (by omega) (by omega) (by omega)) dX3_ofMonth_10 k1116 k1117 k6 k1118 hd_X3_isOut rfl ⟨by decide, by decide⟩ (Nat.le_of_ble_eq_true rfl) ⟨by dsimp only; omega, by dsimp only; omega⟩ ?_
  have br2 : r2 = 0 ∨ r2 = 1 := hr2.elim (fun h => Or.inr h.1) (fun h => Or.inl h.1)
  refine q_ine (tgt := 26) hx hb dX3_ofMonth_13 (by decide) (by omega) (fun c3 => ?_) (fun c3 => ?_)
  · refine q_con hx hb dX3_ofMonth_26 ?_
    refine lv_goto (tgt := 31) hx hb dX3_ofMonth_27 (by decide) ?_
    refine q_con hx hb dX3_ofMonth_31 ?_
    obtain ⟨t4, f5, hq1t4, hq2t4⟩ := fails_ex r1 1 0 (by omega) (by omega) (by omega)
    have hmw : MWR θ S0 w s.heap r q dt sv th dn rf kn := ⟨hz, hu, hm, hd, hsv⟩
    refine c_M (w := w) (As := [.int (iI r1), .int (iI 1), .int (iI 0)]) (rest := []) (b := w 0) (C := RX3) fx hl (mw_fails θ l S0 _ w _ _ _ _ _ _ _ _ hmw r1 1 0 t4 f5 (by omega) hq1t4 hq2t4) (ob_recv hK hm.1 rfl) dX3_ofMonth_32 k1119 k1121 ks10 k6 k1122 hd_X3_fails rfl ⟨by decide, by decide⟩ (Nat.le_of_ble_eq_true rfl) ⟨by dsimp only; omega, by dsimp only; omega⟩ hS (fun x hx => hx ▸ Or.inl (Or.inl rfl)) (fun H6 locs hmH6 hszH6 hk0H6 hS => ?_)
    have hkH6 : ∀ x : Nat, x < (s.heap).size → ¬ x = w 0 → H6[x]? = (s.heap)[x]? := hk0H6
    have hzH6 := hz0.at hAB hS
    have hltH6 := hmH6.lt
    refine q_ieq (tgt := 40) hx hb dX3_ofMonth_35 (by decide) (by omega) (fun c7 => ?_) (fun c7 => ?_)
    · exact (show False by omega).elim
    · refine q_con hx hb dX3_ofMonth_38 ?_
      obtain rfl : t4 = 2 := by omega
      have hmw : MWR θ S0 w H6 r q dt sv 2 dn rf kn := ⟨hzH6, hu, hmH6, hd, hsv⟩
      exact e_i hx hb hr hlk hS dX3_ofMonth_39 (Nat.le_of_ble_eq_true rfl) (Nat.le_of_ble_eq_true rfl) ⟨ex_i (by omega), r, q, by first | exact hmw | (subst_vars; exact hmw) | (simp only [inI_self, inI_1, inI_31] at hmw; subst_vars; exact hmw), by first | exact nw_rf | exact nw_up (by omega) | exact nw_up2 (by omega), by first | exact nw_rf | exact nw_up (by omega) | exact nw_up2 (by omega)⟩
  · exact (show False by omega).elim

set_option maxHeartbeats 4000000 in
set_option maxRecDepth 100000 in
theorem mno3_ofMonth (θ : TH) (l : Launch) (S0 : State) (H : Heap) (w : Nat → Nat) (r q : Nat → Nat) (dt : Nat → Int) (sv : Nat → Nat → Int) (th dn rf kn : Int) (hw : MWR θ S0 w H r q dt sv th dn rf kn) (a m k : Int) (h_0 : -2147483648 ≤ a ∧ a < 2147483648) (h_1 : -2147483648 ≤ m ∧ m < 2147483648) (h_2 : -2147483648 ≤ k ∧ k < 2147483648) (h_3 : 0 ≤ a ∧ a < 6) (h_4 : -119988 ≤ m ∧ m ≤ 119999) (h_5 : ¬ (1 ≤ k ∧ k ≤ 31)) : CT l yX3_ofMonth cX3_ofMonth 4 (some .int) 2 42 0 0 [.ref (w 0), .int (iI a), .int (iI m), .int (iI k)] S0 H (fun v9 H1 => v9 = some (.int (iI 0)) ∧ ∃ r1 q1 : Nat → Nat, MWR θ S0 w H1 r1 q1 dt sv 2 dn rf kn ∧ NW 6 H.size r r1 ∧ NW 3 H.size q q1) (fun _ _ => False) (WA w H.size) := by
  refine ct_of (by decide +kernel) (Nat.le_of_ble_eq_true rfl) ?_
  intro pg en s mi args below meth co ls fx hs hr hlk hxt hin hl
  subst hs
  obtain ⟨hx, hb, hml, hown, hts⟩ := id fx.1
  have hS : va_S (WA w s.heap.size) s.heap s.heap [] := va_S.rf
  obtain ⟨hz, hu, hm, hd, hsv⟩ := id hw
  have hAB : ∀ x : Nat, (WA w s.heap.size) x → θ.2.2.2 ≤ x := wa_b hu hz.2.1
  have hz0 := hz
  have hK := sz_K fx.2 hz
  have hlt0 := hm.lt
  have hu1 := hu.1
  have hAn : ∀ x : Nat, s.heap.size ≤ x → (WA w s.heap.size) x := fun _ h => Or.inr h
  refine lv_aload_n hx hb dX3_ofMonth_0 rfl (lv_at hl 0 rfl) ?_
  refine lv_iload_n hx hb dX3_ofMonth_1 rfl (lv_at hl 1 rfl) ?_
  obtain ⟨r1, hr1⟩ := bex (a < 0 ∨ 5 < a)
  refine c_P (As := [.int (iI a)]) (rest := [.ref (w 0)]) fx hl (pm_X3_isNo l a r1 hr1 (by omega)) dX3_ofMonth_2 k1113 k1114 k6 k1115 hd_X3_isNo rfl ⟨by decide, by decide⟩ (Nat.le_of_ble_eq_true rfl) ⟨by dsimp only; omega, by dsimp only; omega⟩ ?_
  have br1 : r1 = 0 ∨ r1 = 1 := hr1.elim (fun h => Or.inr h.1) (fun h => Or.inl h.1)
  refine lv_iload_n hx hb dX3_ofMonth_5 rfl (lv_at hl 2 rfl) ?_
  refine q_ldc (n := -119988) hx hb hown (hts _ k1156) (by decide) dX3_ofMonth_6 ?_
  refine q_ldc (n := 119999) hx hb hown (hts _ k1157) (by decide) dX3_ofMonth_8 ?_
  obtain ⟨r2, hr2⟩ := bex (m < (-119988) ∨ 119999 < m)
  refine c_P (As := [.int (iI m), .int (iI (-119988)), .int (iI 119999)]) (rest := [.int (iI r1), .ref (w 0)]) fx hl (pm_X3_isOut l m (-119988) 119999 r2 hr2 (by omega) (by omega) (by omega)) dX3_ofMonth_10 k1116 k1117 k6 k1118 hd_X3_isOut rfl ⟨by decide, by decide⟩ (Nat.le_of_ble_eq_true rfl) ⟨by dsimp only; omega, by dsimp only; omega⟩ ?_
  have br2 : r2 = 0 ∨ r2 = 1 := hr2.elim (fun h => Or.inr h.1) (fun h => Or.inl h.1)
  refine q_ine (tgt := 26) hx hb dX3_ofMonth_13 (by decide) (by omega) (fun c3 => ?_) (fun c3 => ?_)
  · exact (show False by omega).elim
  · refine lv_iload_n hx hb dX3_ofMonth_16 rfl (lv_at hl 3 rfl) ?_
    refine q_con hx hb dX3_ofMonth_17 ?_
    refine q_bip hx hb dX3_ofMonth_18 (by decide) ?_
    obtain ⟨r4, hr4⟩ := bex (k < 1 ∨ 31 < k)
    refine c_P (As := [.int (iI k), .int (iI 1), .int (iI 31)]) (rest := [.int (iI r1), .ref (w 0)]) fx hl (pm_X3_isOut l k 1 31 r4 hr4 (by omega) (by omega) (by omega)) dX3_ofMonth_20 k1116 k1117 k6 k1118 hd_X3_isOut rfl ⟨by decide, by decide⟩ (Nat.le_of_ble_eq_true rfl) ⟨by dsimp only; omega, by dsimp only; omega⟩ ?_
    have br4 : r4 = 0 ∨ r4 = 1 := hr4.elim (fun h => Or.inr h.1) (fun h => Or.inl h.1)
    refine q_ieq (tgt := 30) hx hb dX3_ofMonth_23 (by decide) (by omega) (fun c5 => ?_) (fun c5 => ?_)
    · exact (show False by omega).elim
    · refine q_con hx hb dX3_ofMonth_26 ?_
      refine lv_goto (tgt := 31) hx hb dX3_ofMonth_27 (by decide) ?_
      refine q_con hx hb dX3_ofMonth_31 ?_
      obtain ⟨t6, f7, hq1t6, hq2t6⟩ := fails_ex r1 1 0 (by omega) (by omega) (by omega)
      have hmw : MWR θ S0 w s.heap r q dt sv th dn rf kn := ⟨hz, hu, hm, hd, hsv⟩
      refine c_M (w := w) (As := [.int (iI r1), .int (iI 1), .int (iI 0)]) (rest := []) (b := w 0) (C := RX3) fx hl (mw_fails θ l S0 _ w _ _ _ _ _ _ _ _ hmw r1 1 0 t6 f7 (by omega) hq1t6 hq2t6) (ob_recv hK hm.1 rfl) dX3_ofMonth_32 k1119 k1121 ks10 k6 k1122 hd_X3_fails rfl ⟨by decide, by decide⟩ (Nat.le_of_ble_eq_true rfl) ⟨by dsimp only; omega, by dsimp only; omega⟩ hS (fun x hx => hx ▸ Or.inl (Or.inl rfl)) (fun H8 locs hmH8 hszH8 hk0H8 hS => ?_)
      have hkH8 : ∀ x : Nat, x < (s.heap).size → ¬ x = w 0 → H8[x]? = (s.heap)[x]? := hk0H8
      have hzH8 := hz0.at hAB hS
      have hltH8 := hmH8.lt
      refine q_ieq (tgt := 40) hx hb dX3_ofMonth_35 (by decide) (by omega) (fun c9 => ?_) (fun c9 => ?_)
      · exact (show False by omega).elim
      · refine q_con hx hb dX3_ofMonth_38 ?_
        obtain rfl : t6 = 2 := by omega
        have hmw : MWR θ S0 w H8 r q dt sv 2 dn rf kn := ⟨hzH8, hu, hmH8, hd, hsv⟩
        exact e_i hx hb hr hlk hS dX3_ofMonth_39 (Nat.le_of_ble_eq_true rfl) (Nat.le_of_ble_eq_true rfl) ⟨ex_i (by omega), r, q, by first | exact hmw | (subst_vars; exact hmw) | (simp only [inI_self, inI_1, inI_31] at hmw; subst_vars; exact hmw), by first | exact nw_rf | exact nw_up (by omega) | exact nw_up2 (by omega), by first | exact nw_rf | exact nw_up (by omega) | exact nw_up2 (by omega)⟩

set_option maxHeartbeats 4000000 in
set_option maxRecDepth 100000 in
theorem mok_copy (θ : TH) (l : Launch) (S0 : State) (H : Heap) (w : Nat → Nat) (r q : Nat → Nat) (dt : Nat → Int) (sv : Nat → Nat → Int) (th dn rf kn : Int) (hw : MWR θ S0 w H r q dt sv th dn rf kn) (a b : Int) (h_0 : -2147483648 ≤ a ∧ a < 2147483648) (h_1 : -2147483648 ≤ b ∧ b < 2147483648) (h_2 : 0 ≤ a ∧ a < 6) (h_3 : 0 ≤ b ∧ b < 6) : CT l yX3_copy cX3_copy 3 (some .int) 8 170 1 2 [.ref (w 0), .int (iI a), .int (iI b)] S0 H (fun v9 H1 => v9 = some (.int (iI (dt b.toNat))) ∧ ∃ r1 q1 : Nat → Nat, MWR θ S0 w H1 r1 q1 (up dt a.toNat (dt b.toNat)) sv 0 (dn + 1) rf kn ∧ NW 6 H.size r r1 ∧ NW 3 H.size q q1) (fun _ _ => False) (WA w H.size) := by
  refine ct_of (by decide +kernel) (Nat.le_of_ble_eq_true rfl) ?_
  intro pg en s mi args below meth co ls fx hs hr hlk hxt hin hl
  subst hs
  obtain ⟨hx, hb, hml, hown, hts⟩ := id fx.1
  have hS : va_S (WA w s.heap.size) s.heap s.heap [] := va_S.rf
  obtain ⟨hz, hu, hm, hd, hsv⟩ := id hw
  have hAB : ∀ x : Nat, (WA w s.heap.size) x → θ.2.2.2 ≤ x := wa_b hu hz.2.1
  have hz0 := hz
  have hK := sz_K fx.2 hz
  have hlt0 := hm.lt
  have hu1 := hu.1
  have hAn : ∀ x : Nat, s.heap.size ≤ x → (WA w s.heap.size) x := fun _ h => Or.inr h
  refine lv_aload_n hx hb dX3_copy_0 rfl (lv_at hl 0 rfl) ?_
  refine lv_iload_n hx hb dX3_copy_1 rfl (lv_at hl 1 rfl) ?_
  refine lv_iload_n hx hb dX3_copy_2 rfl (lv_at hl 2 rfl) ?_
  obtain ⟨r1, hr1⟩ := bex ((a < 0 ∨ 5 < a) ∨ (b < 0 ∨ 5 < b))
  refine c_P (As := [.int (iI a), .int (iI b)]) (rest := [.ref (w 0)]) fx hl (pm_X3_areNo l a b r1 hr1 (by omega) (by omega)) dX3_copy_3 k1162 k1163 k6 k1164 hd_X3_areNo rfl ⟨by decide, by decide⟩ (Nat.le_of_ble_eq_true rfl) ⟨by dsimp only; omega, by dsimp only; omega⟩ ?_
  have br1 : r1 = 0 ∨ r1 = 1 := hr1.elim (fun h => Or.inr h.1) (fun h => Or.inl h.1)
  refine q_con hx hb dX3_copy_6 ?_
  refine q_con hx hb dX3_copy_7 ?_
  obtain ⟨t2, f3, hq1t2, hq2t2⟩ := fails_ex r1 0 0 (by omega) (by omega) (by omega)
  have hmw : MWR θ S0 w s.heap r q dt sv th dn rf kn := ⟨hz, hu, hm, hd, hsv⟩
  refine c_M (w := w) (As := [.int (iI r1), .int (iI 0), .int (iI 0)]) (rest := []) (b := w 0) (C := RX3) fx hl (mw_fails θ l S0 _ w _ _ _ _ _ _ _ _ hmw r1 0 0 t2 f3 (by omega) hq1t2 hq2t2) (ob_recv hK hm.1 rfl) dX3_copy_8 k1119 k1121 ks10 k6 k1122 hd_X3_fails rfl ⟨by decide, by decide⟩ (Nat.le_of_ble_eq_true rfl) ⟨by dsimp only; omega, by dsimp only; omega⟩ hS (fun x hx => hx ▸ Or.inl (Or.inl rfl)) (fun H4 locs hmH4 hszH4 hk0H4 hS => ?_)
  have hkH4 : ∀ x : Nat, x < (s.heap).size → ¬ x = w 0 → H4[x]? = (s.heap)[x]? := hk0H4
  have hzH4 := hz0.at hAB hS
  have hltH4 := hmH4.lt
  refine q_ieq (tgt := 16) hx hb dX3_copy_11 (by decide) (by omega) (fun c5 => ?_) (fun c5 => ?_)
  · refine lv_aload_n hx hb dX3_copy_16 rfl (lv_at hl 0 rfl) ?_
    refine lv_iload_n hx hb dX3_copy_17 rfl (lv_at hl 1 rfl) ?_
    refine lv_aload_n hx hb dX3_copy_18 rfl (lv_at hl 0 rfl) ?_
    refine r_get (θ := θ) (C := RX3) (T := TX3) (N := 6) (ci := 9) hx hb hts gwX3 hown hK hmH4.1 rfl 4 (by decide) k1094 (fun _ h => h) (v := .ref (w 1)) rfl dX3_copy_19 ?_
    refine lv_iload_n hx hb dX3_copy_22 rfl (lv_at hl 2 rfl) ?_
    refine r_aald (θ := θ) hx hb hK hmH4.2.1 (i := b) (by omega) (by decide) dX3_copy_23 ?_
    have rw6 := (hmH4.2.2.2.1 (b.toNat) (by omega)).1
    have rw6n := (hmH4.2.2.2.1 (b.toNat) (by omega)).2
    have rw6t := hd (b.toNat) (by omega)
    have rw6l := rw6.lt
    have rw6i := inR rw6t
    have rw6m := inM rw6i
    have rw6d := dI_b (dt b.toNat)
    refine q_con hx hb dX3_copy_24 ?_
    refine r_iald (θ := θ) hx hb hK rw6 (i := 0) (by omega) (by decide) dX3_copy_25 ?_
    refine q_as (mI (dt b.toNat)) rfl ?_
    refine lv_aload_n hx hb dX3_copy_26 rfl (lv_at hl 0 rfl) ?_
    refine r_get (θ := θ) (C := RX3) (T := TX3) (N := 6) (ci := 9) hx hb hts gwX3 hown hK hmH4.1 rfl 4 (by decide) k1094 (fun _ h => h) (v := .ref (w 1)) rfl dX3_copy_27 ?_
    refine lv_iload_n hx hb dX3_copy_30 rfl (lv_at hl 2 rfl) ?_
    refine r_aald (θ := θ) hx hb hK hmH4.2.1 (i := b) (by omega) (by decide) dX3_copy_31 ?_
    have rw7 := (hmH4.2.2.2.1 (b.toNat) (by omega)).1
    have rw7n := (hmH4.2.2.2.1 (b.toNat) (by omega)).2
    have rw7t := hd (b.toNat) (by omega)
    have rw7l := rw7.lt
    have rw7i := inR rw7t
    have rw7m := inM rw7i
    have rw7d := dI_b (dt b.toNat)
    refine q_con hx hb dX3_copy_32 ?_
    refine r_iald (θ := θ) hx hb hK rw7 (i := 1) (by omega) (by decide) dX3_copy_33 ?_
    refine q_as (dI (dt b.toNat)) rfl ?_
    refine c_NR (θ := θ) (As := [.int (iI (mI (dt b.toNat))), .int (iI (dI (dt b.toNat)))]) (rest := [.int (iI a), .ref (w 0)]) fx hl (pm_X3_within θ l S0 _ hzH4 (mI (dt b.toNat)) (dI (dt b.toNat)) (by omega) (by omega)) dX3_copy_34 k1123 k1124 k6 k1125 hd_X3_within rfl ⟨by decide, by decide⟩ (Nat.le_of_ble_eq_true rfl) ⟨by dsimp only; omega, by dsimp only; omega⟩ hS (fun x hx => hAn x (Nat.le_trans hS.1 hx)) (fun q9 H8 locs hqH8 haH8 hszH8 hkH8 hS => ?_)
    have rw7_H8 := rw7.kept (hkH8 _ rw7.lt)
    have hzH8 := hz0.at hAB hS
    have hmH8 := hmH4.kept hkH8
    have hltH8 := haH8.lt
    have t0q9 := inI_s (m := (mI (dt b.toNat))) (k := (dI (dt b.toNat))) (by omega)
    refine q_con hx hb dX3_copy_37 ?_
    have hmw : MWR θ S0 w H8 r q dt sv t2 dn rf kn := ⟨hzH8, hu, hmH8, hd, hsv⟩
    refine c_M (w := w) (As := [.int (iI a), .ref q9, .int (iI 0)]) (rest := []) (b := w 0) (C := RX3) fx hl (mw_become_ok θ l S0 _ w _ _ _ _ _ _ _ _ hmw a q9 0 (inI (mI (dt b.toNat)) (dI (dt b.toNat))) haH8 ⟨by omega, by omega, by omega⟩ (by omega) (by omega) (by omega)) (ob_recv hK hmH8.1 rfl) dX3_copy_38 k1126 k1128 ks11 k6 k1129 hd_X3_become rfl ⟨by decide, by decide⟩ (Nat.le_of_ble_eq_true rfl) ⟨by dsimp only; omega, by dsimp only; omega⟩ hS (fun x hx => hx.elim (fun e => Or.inl (Or.inl e)) (fun e => Or.inl (Or.inr (Or.inl e)))) (fun H10 locs hmH10 hszH10 hk0H10 hS => ?_)
    have hkH10 : ∀ x : Nat, x < (H8).size → ¬ (x = w 0 ∨ x = w 1) → H10[x]? = (H8)[x]? := hk0H10
    have haH8_H10 := haH8.kept (hkH10 _ haH8.lt (by omega))
    have hzH10 := hz0.at hAB hS
    have hltH10 := hmH10.lt
    refine lv_pop hx hb dX3_copy_41 rfl ?_
    refine lv_aload_n hx hb dX3_copy_42 rfl (lv_at hl 0 rfl) ?_
    refine lv_iload_n hx hb dX3_copy_43 rfl (lv_at hl 1 rfl) ?_
    have hmw : MWR θ S0 w H10 (up r (Int.toNat a) q9) q (up dt (Int.toNat a) (inI (mI (dt b.toNat)) (dI (dt b.toNat)))) sv t2 (dn + 1) rf kn := ⟨hzH10, hu, hmH10, (fun j hj => by have h9 := hd j hj; show -4371587 ≤ _ ∧ _; simp only [up]; (split <;> omega)), hsv⟩
    refine c_HV (As := [.int (iI a)]) (rest := []) (b := w 0) (C := RX3) fx hl (mr_became θ l S0 _ w _ _ _ _ _ _ _ _ hmw a (by omega)) (ob_recv hK hmH10.1 rfl) dX3_copy_44 k1141 k1143 ks12 k6 k1144 hd_X3_became rfl ⟨by decide, by decide⟩ (Nat.le_of_ble_eq_true rfl) ⟨by dsimp only; omega, by dsimp only; omega⟩ ?_
    refine q_nm (fun z11 ez11 => ?_)
    obtain rfl : t2 = 0 := by omega
    have hmw : MWR θ S0 w H10 (up r (Int.toNat a) q9) q (up dt (Int.toNat a) (inI (mI (dt b.toNat)) (dI (dt b.toNat)))) sv 0 (dn + 1) rf kn := ⟨hzH10, hu, hmH10, (fun j hj => by have h9 := hd j hj; show -4371587 ≤ _ ∧ _; simp only [up]; (split <;> omega)), hsv⟩
    exact e_i hx hb hr hlk hS dX3_copy_47 (Nat.le_of_ble_eq_true rfl) (Nat.le_of_ble_eq_true rfl) ⟨ex_i (by subst_vars; first | omega | (simp only [up_s, inI_self, inI_1, inI_31]; done) | (simp only [up_s, inI_self, inI_1, inI_31]; omega) | (simp only [up_s, inI_self, inI_1, inI_31]; subst_vars; first | rfl | omega)), (up r (Int.toNat a) q9), q, by first | exact hmw | (subst_vars; exact hmw) | (simp only [inI_self, inI_1, inI_31] at hmw; subst_vars; exact hmw), by first | exact nw_rf | exact nw_up (by omega) | exact nw_up2 (by omega), by first | exact nw_rf | exact nw_up (by omega) | exact nw_up2 (by omega)⟩
  · exact (show False by omega).elim

set_option maxHeartbeats 4000000 in
set_option maxRecDepth 100000 in
theorem mno1_copy (θ : TH) (l : Launch) (S0 : State) (H : Heap) (w : Nat → Nat) (r q : Nat → Nat) (dt : Nat → Int) (sv : Nat → Nat → Int) (th dn rf kn : Int) (hw : MWR θ S0 w H r q dt sv th dn rf kn) (a b : Int) (h_0 : -2147483648 ≤ a ∧ a < 2147483648) (h_1 : -2147483648 ≤ b ∧ b < 2147483648) (h_2 : ¬ (0 ≤ a ∧ a < 6)) : CT l yX3_copy cX3_copy 3 (some .int) 3 63 0 0 [.ref (w 0), .int (iI a), .int (iI b)] S0 H (fun v9 H1 => v9 = some (.int (iI 0)) ∧ ∃ r1 q1 : Nat → Nat, MWR θ S0 w H1 r1 q1 dt sv 1 dn rf kn ∧ NW 6 H.size r r1 ∧ NW 3 H.size q q1) (fun _ _ => False) (WA w H.size) := by
  refine ct_of (by decide +kernel) (Nat.le_of_ble_eq_true rfl) ?_
  intro pg en s mi args below meth co ls fx hs hr hlk hxt hin hl
  subst hs
  obtain ⟨hx, hb, hml, hown, hts⟩ := id fx.1
  have hS : va_S (WA w s.heap.size) s.heap s.heap [] := va_S.rf
  obtain ⟨hz, hu, hm, hd, hsv⟩ := id hw
  have hAB : ∀ x : Nat, (WA w s.heap.size) x → θ.2.2.2 ≤ x := wa_b hu hz.2.1
  have hz0 := hz
  have hK := sz_K fx.2 hz
  have hlt0 := hm.lt
  have hu1 := hu.1
  have hAn : ∀ x : Nat, s.heap.size ≤ x → (WA w s.heap.size) x := fun _ h => Or.inr h
  refine lv_aload_n hx hb dX3_copy_0 rfl (lv_at hl 0 rfl) ?_
  refine lv_iload_n hx hb dX3_copy_1 rfl (lv_at hl 1 rfl) ?_
  refine lv_iload_n hx hb dX3_copy_2 rfl (lv_at hl 2 rfl) ?_
  obtain ⟨r1, hr1⟩ := bex ((a < 0 ∨ 5 < a) ∨ (b < 0 ∨ 5 < b))
  refine c_P (As := [.int (iI a), .int (iI b)]) (rest := [.ref (w 0)]) fx hl (pm_X3_areNo l a b r1 hr1 (by omega) (by omega)) dX3_copy_3 k1162 k1163 k6 k1164 hd_X3_areNo rfl ⟨by decide, by decide⟩ (Nat.le_of_ble_eq_true rfl) ⟨by dsimp only; omega, by dsimp only; omega⟩ ?_
  have br1 : r1 = 0 ∨ r1 = 1 := hr1.elim (fun h => Or.inr h.1) (fun h => Or.inl h.1)
  refine q_con hx hb dX3_copy_6 ?_
  refine q_con hx hb dX3_copy_7 ?_
  obtain ⟨t2, f3, hq1t2, hq2t2⟩ := fails_ex r1 0 0 (by omega) (by omega) (by omega)
  have hmw : MWR θ S0 w s.heap r q dt sv th dn rf kn := ⟨hz, hu, hm, hd, hsv⟩
  refine c_M (w := w) (As := [.int (iI r1), .int (iI 0), .int (iI 0)]) (rest := []) (b := w 0) (C := RX3) fx hl (mw_fails θ l S0 _ w _ _ _ _ _ _ _ _ hmw r1 0 0 t2 f3 (by omega) hq1t2 hq2t2) (ob_recv hK hm.1 rfl) dX3_copy_8 k1119 k1121 ks10 k6 k1122 hd_X3_fails rfl ⟨by decide, by decide⟩ (Nat.le_of_ble_eq_true rfl) ⟨by dsimp only; omega, by dsimp only; omega⟩ hS (fun x hx => hx ▸ Or.inl (Or.inl rfl)) (fun H4 locs hmH4 hszH4 hk0H4 hS => ?_)
  have hkH4 : ∀ x : Nat, x < (s.heap).size → ¬ x = w 0 → H4[x]? = (s.heap)[x]? := hk0H4
  have hzH4 := hz0.at hAB hS
  have hltH4 := hmH4.lt
  refine q_ieq (tgt := 16) hx hb dX3_copy_11 (by decide) (by omega) (fun c5 => ?_) (fun c5 => ?_)
  · exact (show False by omega).elim
  · refine q_con hx hb dX3_copy_14 ?_
    obtain rfl : t2 = 1 := by omega
    have hmw : MWR θ S0 w H4 r q dt sv 1 dn rf kn := ⟨hzH4, hu, hmH4, hd, hsv⟩
    exact e_i hx hb hr hlk hS dX3_copy_15 (Nat.le_of_ble_eq_true rfl) (Nat.le_of_ble_eq_true rfl) ⟨ex_i (by omega), r, q, by first | exact hmw | (subst_vars; exact hmw) | (simp only [inI_self, inI_1, inI_31] at hmw; subst_vars; exact hmw), by first | exact nw_rf | exact nw_up (by omega) | exact nw_up2 (by omega), by first | exact nw_rf | exact nw_up (by omega) | exact nw_up2 (by omega)⟩

set_option maxHeartbeats 4000000 in
set_option maxRecDepth 100000 in
theorem mno2_copy (θ : TH) (l : Launch) (S0 : State) (H : Heap) (w : Nat → Nat) (r q : Nat → Nat) (dt : Nat → Int) (sv : Nat → Nat → Int) (th dn rf kn : Int) (hw : MWR θ S0 w H r q dt sv th dn rf kn) (a b : Int) (h_0 : -2147483648 ≤ a ∧ a < 2147483648) (h_1 : -2147483648 ≤ b ∧ b < 2147483648) (h_2 : 0 ≤ a ∧ a < 6) (h_3 : ¬ (0 ≤ b ∧ b < 6)) : CT l yX3_copy cX3_copy 3 (some .int) 3 63 0 0 [.ref (w 0), .int (iI a), .int (iI b)] S0 H (fun v9 H1 => v9 = some (.int (iI 0)) ∧ ∃ r1 q1 : Nat → Nat, MWR θ S0 w H1 r1 q1 dt sv 1 dn rf kn ∧ NW 6 H.size r r1 ∧ NW 3 H.size q q1) (fun _ _ => False) (WA w H.size) := by
  refine ct_of (by decide +kernel) (Nat.le_of_ble_eq_true rfl) ?_
  intro pg en s mi args below meth co ls fx hs hr hlk hxt hin hl
  subst hs
  obtain ⟨hx, hb, hml, hown, hts⟩ := id fx.1
  have hS : va_S (WA w s.heap.size) s.heap s.heap [] := va_S.rf
  obtain ⟨hz, hu, hm, hd, hsv⟩ := id hw
  have hAB : ∀ x : Nat, (WA w s.heap.size) x → θ.2.2.2 ≤ x := wa_b hu hz.2.1
  have hz0 := hz
  have hK := sz_K fx.2 hz
  have hlt0 := hm.lt
  have hu1 := hu.1
  have hAn : ∀ x : Nat, s.heap.size ≤ x → (WA w s.heap.size) x := fun _ h => Or.inr h
  refine lv_aload_n hx hb dX3_copy_0 rfl (lv_at hl 0 rfl) ?_
  refine lv_iload_n hx hb dX3_copy_1 rfl (lv_at hl 1 rfl) ?_
  refine lv_iload_n hx hb dX3_copy_2 rfl (lv_at hl 2 rfl) ?_
  obtain ⟨r1, hr1⟩ := bex ((a < 0 ∨ 5 < a) ∨ (b < 0 ∨ 5 < b))
  refine c_P (As := [.int (iI a), .int (iI b)]) (rest := [.ref (w 0)]) fx hl (pm_X3_areNo l a b r1 hr1 (by omega) (by omega)) dX3_copy_3 k1162 k1163 k6 k1164 hd_X3_areNo rfl ⟨by decide, by decide⟩ (Nat.le_of_ble_eq_true rfl) ⟨by dsimp only; omega, by dsimp only; omega⟩ ?_
  have br1 : r1 = 0 ∨ r1 = 1 := hr1.elim (fun h => Or.inr h.1) (fun h => Or.inl h.1)
  refine q_con hx hb dX3_copy_6 ?_
  refine q_con hx hb dX3_copy_7 ?_
  obtain ⟨t2, f3, hq1t2, hq2t2⟩ := fails_ex r1 0 0 (by omega) (by omega) (by omega)
  have hmw : MWR θ S0 w s.heap r q dt sv th dn rf kn := ⟨hz, hu, hm, hd, hsv⟩
  refine c_M (w := w) (As := [.int (iI r1), .int (iI 0), .int (iI 0)]) (rest := []) (b := w 0) (C := RX3) fx hl (mw_fails θ l S0 _ w _ _ _ _ _ _ _ _ hmw r1 0 0 t2 f3 (by omega) hq1t2 hq2t2) (ob_recv hK hm.1 rfl) dX3_copy_8 k1119 k1121 ks10 k6 k1122 hd_X3_fails rfl ⟨by decide, by decide⟩ (Nat.le_of_ble_eq_true rfl) ⟨by dsimp only; omega, by dsimp only; omega⟩ hS (fun x hx => hx ▸ Or.inl (Or.inl rfl)) (fun H4 locs hmH4 hszH4 hk0H4 hS => ?_)
  have hkH4 : ∀ x : Nat, x < (s.heap).size → ¬ x = w 0 → H4[x]? = (s.heap)[x]? := hk0H4
  have hzH4 := hz0.at hAB hS
  have hltH4 := hmH4.lt
  refine q_ieq (tgt := 16) hx hb dX3_copy_11 (by decide) (by omega) (fun c5 => ?_) (fun c5 => ?_)
  · exact (show False by omega).elim
  · refine q_con hx hb dX3_copy_14 ?_
    obtain rfl : t2 = 1 := by omega
    have hmw : MWR θ S0 w H4 r q dt sv 1 dn rf kn := ⟨hzH4, hu, hmH4, hd, hsv⟩
    exact e_i hx hb hr hlk hS dX3_copy_15 (Nat.le_of_ble_eq_true rfl) (Nat.le_of_ble_eq_true rfl) ⟨ex_i (by omega), r, q, by first | exact hmw | (subst_vars; exact hmw) | (simp only [inI_self, inI_1, inI_31] at hmw; subst_vars; exact hmw), by first | exact nw_rf | exact nw_up (by omega) | exact nw_up2 (by omega), by first | exact nw_rf | exact nw_up (by omega) | exact nw_up2 (by omega)⟩

set_option maxHeartbeats 4000000 in
set_option maxRecDepth 100000 in
theorem mok_first (θ : TH) (l : Launch) (S0 : State) (H : Heap) (w : Nat → Nat) (r q : Nat → Nat) (dt : Nat → Int) (sv : Nat → Nat → Int) (th dn rf kn : Int) (hw : MWR θ S0 w H r q dt sv th dn rf kn) (a : Int) (h_0 : -2147483648 ≤ a ∧ a < 2147483648) (h_1 : 0 ≤ a ∧ a < 6) : CT l yX3_first cX3_first 3 (some .int) 8 170 1 2 [.ref (w 0), .int (iI a)] S0 H (fun v9 H1 => v9 = some (.int (iI (dt a.toNat - fI (mI (dt a.toNat))))) ∧ ∃ r1 q1 : Nat → Nat, MWR θ S0 w H1 r1 q1 (up dt a.toNat (fI (mI (dt a.toNat)))) sv 0 (dn + 1) rf kn ∧ NW 6 H.size r r1 ∧ NW 3 H.size q q1) (fun _ _ => False) (WA w H.size) := by
  refine ct_of (by decide +kernel) (Nat.le_of_ble_eq_true rfl) ?_
  intro pg en s mi args below meth co ls fx hs hr hlk hxt hin hl
  subst hs
  obtain ⟨hx, hb, hml, hown, hts⟩ := id fx.1
  have hS : va_S (WA w s.heap.size) s.heap s.heap [] := va_S.rf
  obtain ⟨hz, hu, hm, hd, hsv⟩ := id hw
  have hAB : ∀ x : Nat, (WA w s.heap.size) x → θ.2.2.2 ≤ x := wa_b hu hz.2.1
  have hz0 := hz
  have hK := sz_K fx.2 hz
  have hlt0 := hm.lt
  have hu1 := hu.1
  have hAn : ∀ x : Nat, s.heap.size ≤ x → (WA w s.heap.size) x := fun _ h => Or.inr h
  have tt1 := inM (inR (hd a.toNat (by omega)))
  refine lv_aload_n hx hb dX3_first_0 rfl (lv_at hl 0 rfl) ?_
  refine lv_iload_n hx hb dX3_first_1 rfl (lv_at hl 1 rfl) ?_
  obtain ⟨r1, hr1⟩ := bex (a < 0 ∨ 5 < a)
  refine c_P (As := [.int (iI a)]) (rest := [.ref (w 0)]) fx hl (pm_X3_isNo l a r1 hr1 (by omega)) dX3_first_2 k1113 k1114 k6 k1115 hd_X3_isNo rfl ⟨by decide, by decide⟩ (Nat.le_of_ble_eq_true rfl) ⟨by dsimp only; omega, by dsimp only; omega⟩ ?_
  have br1 : r1 = 0 ∨ r1 = 1 := hr1.elim (fun h => Or.inr h.1) (fun h => Or.inl h.1)
  refine q_con hx hb dX3_first_5 ?_
  refine q_con hx hb dX3_first_6 ?_
  obtain ⟨t2, f3, hq1t2, hq2t2⟩ := fails_ex r1 0 0 (by omega) (by omega) (by omega)
  have hmw : MWR θ S0 w s.heap r q dt sv th dn rf kn := ⟨hz, hu, hm, hd, hsv⟩
  refine c_M (w := w) (As := [.int (iI r1), .int (iI 0), .int (iI 0)]) (rest := []) (b := w 0) (C := RX3) fx hl (mw_fails θ l S0 _ w _ _ _ _ _ _ _ _ hmw r1 0 0 t2 f3 (by omega) hq1t2 hq2t2) (ob_recv hK hm.1 rfl) dX3_first_7 k1119 k1121 ks10 k6 k1122 hd_X3_fails rfl ⟨by decide, by decide⟩ (Nat.le_of_ble_eq_true rfl) ⟨by dsimp only; omega, by dsimp only; omega⟩ hS (fun x hx => hx ▸ Or.inl (Or.inl rfl)) (fun H4 locs hmH4 hszH4 hk0H4 hS => ?_)
  have hkH4 : ∀ x : Nat, x < (s.heap).size → ¬ x = w 0 → H4[x]? = (s.heap)[x]? := hk0H4
  have hzH4 := hz0.at hAB hS
  have hltH4 := hmH4.lt
  refine q_ieq (tgt := 15) hx hb dX3_first_10 (by decide) (by omega) (fun c5 => ?_) (fun c5 => ?_)
  · refine lv_aload_n hx hb dX3_first_15 rfl (lv_at hl 0 rfl) ?_
    refine r_get (θ := θ) (C := RX3) (T := TX3) (N := 6) (ci := 9) hx hb hts gwX3 hown hK hmH4.1 rfl 4 (by decide) k1094 (fun _ h => h) (v := .ref (w 1)) rfl dX3_first_16 ?_
    refine lv_iload_n hx hb dX3_first_19 rfl (lv_at hl 1 rfl) ?_
    refine r_aald (θ := θ) hx hb hK hmH4.2.1 (i := a) (by omega) (by decide) dX3_first_20 ?_
    have rw6 := (hmH4.2.2.2.1 (a.toNat) (by omega)).1
    have rw6n := (hmH4.2.2.2.1 (a.toNat) (by omega)).2
    have rw6t := hd (a.toNat) (by omega)
    have rw6l := rw6.lt
    have rw6i := inR rw6t
    have rw6m := inM rw6i
    have rw6d := dI_b (dt a.toNat)
    refine q_con hx hb dX3_first_21 ?_
    refine r_iald (θ := θ) hx hb hK rw6 (i := 1) (by omega) (by decide) dX3_first_22 ?_
    refine q_as (dI (dt a.toNat)) rfl ?_
    refine lv_istore_n (lv' := [(2, .int (iI (dI (dt a.toNat)))), (0, .ref (w 0)), (1, .int (iI a))]) hx hb dX3_first_23 rfl hl (by decide) rfl (fun ls hl => ?_)
    refine lv_aload_n hx hb dX3_first_24 rfl (lv_at hl 1 rfl) ?_
    refine lv_iload_n hx hb dX3_first_25 rfl (lv_at hl 2 rfl) ?_
    refine lv_aload_n hx hb dX3_first_26 rfl (lv_at hl 1 rfl) ?_
    refine r_get (θ := θ) (C := RX3) (T := TX3) (N := 6) (ci := 9) hx hb hts gwX3 hown hK hmH4.1 rfl 4 (by decide) k1094 (fun _ h => h) (v := .ref (w 1)) rfl dX3_first_27 ?_
    refine lv_iload_n hx hb dX3_first_30 rfl (lv_at hl 2 rfl) ?_
    refine r_aald (θ := θ) hx hb hK hmH4.2.1 (i := a) (by omega) (by decide) dX3_first_31 ?_
    have rw7 := (hmH4.2.2.2.1 (a.toNat) (by omega)).1
    have rw7n := (hmH4.2.2.2.1 (a.toNat) (by omega)).2
    have rw7t := hd (a.toNat) (by omega)
    have rw7l := rw7.lt
    have rw7i := inR rw7t
    have rw7m := inM rw7i
    have rw7d := dI_b (dt a.toNat)
    refine q_con hx hb dX3_first_32 ?_
    refine r_iald (θ := θ) hx hb hK rw7 (i := 0) (by omega) (by decide) dX3_first_33 ?_
    refine q_as (mI (dt a.toNat)) rfl ?_
    refine q_con hx hb dX3_first_34 ?_
    refine c_NR (θ := θ) (As := [.int (iI (mI (dt a.toNat))), .int (iI 1)]) (rest := [.int (iI a), .ref (w 0)]) fx hl (pm_X3_within θ l S0 _ hzH4 (mI (dt a.toNat)) 1 (by omega) (by omega)) dX3_first_35 k1123 k1124 k6 k1125 hd_X3_within rfl ⟨by decide, by decide⟩ (Nat.le_of_ble_eq_true rfl) ⟨by dsimp only; omega, by dsimp only; omega⟩ hS (fun x hx => hAn x (Nat.le_trans hS.1 hx)) (fun q9 H8 locs hqH8 haH8 hszH8 hkH8 hS => ?_)
    have rw7_H8 := rw7.kept (hkH8 _ rw7.lt)
    have hzH8 := hz0.at hAB hS
    have hmH8 := hmH4.kept hkH8
    have hltH8 := haH8.lt
    have t0q9 := inI_s (m := (mI (dt a.toNat))) (k := 1) (by omega)
    refine q_con hx hb dX3_first_38 ?_
    have hmw : MWR θ S0 w H8 r q dt sv t2 dn rf kn := ⟨hzH8, hu, hmH8, hd, hsv⟩
    refine c_M (w := w) (As := [.int (iI a), .ref q9, .int (iI 0)]) (rest := []) (b := w 0) (C := RX3) fx hl (mw_become_ok θ l S0 _ w _ _ _ _ _ _ _ _ hmw a q9 0 (inI (mI (dt a.toNat)) 1) haH8 ⟨by omega, by omega, by omega⟩ (by omega) (by omega) (by omega)) (ob_recv hK hmH8.1 rfl) dX3_first_39 k1126 k1128 ks11 k6 k1129 hd_X3_become rfl ⟨by decide, by decide⟩ (Nat.le_of_ble_eq_true rfl) ⟨by dsimp only; omega, by dsimp only; omega⟩ hS (fun x hx => hx.elim (fun e => Or.inl (Or.inl e)) (fun e => Or.inl (Or.inr (Or.inl e)))) (fun H10 locs hmH10 hszH10 hk0H10 hS => ?_)
    have hkH10 : ∀ x : Nat, x < (H8).size → ¬ (x = w 0 ∨ x = w 1) → H10[x]? = (H8)[x]? := hk0H10
    have haH8_H10 := haH8.kept (hkH10 _ haH8.lt (by omega))
    have hzH10 := hz0.at hAB hS
    have hltH10 := hmH10.lt
    refine lv_pop hx hb dX3_first_42 rfl ?_
    refine lv_iload_n hx hb dX3_first_43 rfl (lv_at hl 0 rfl) ?_
    refine q_con hx hb dX3_first_44 ?_
    refine q_sub hx hb dX3_first_45 ?_
    obtain rfl : t2 = 0 := by omega
    have hmw : MWR θ S0 w H10 (up r (Int.toNat a) q9) q (up dt (Int.toNat a) (inI (mI (dt a.toNat)) 1)) sv 0 (dn + 1) rf kn := ⟨hzH10, hu, hmH10, (fun j hj => by have h9 := hd j hj; show -4371587 ≤ _ ∧ _; simp only [up]; (split <;> omega)), hsv⟩
    exact e_i hx hb hr hlk hS dX3_first_46 (Nat.le_of_ble_eq_true rfl) (Nat.le_of_ble_eq_true rfl) ⟨ex_i (by subst_vars; first | omega | (simp only [up_s, inI_self, inI_1, inI_31]; done) | (simp only [up_s, inI_self, inI_1, inI_31]; omega) | (simp only [up_s, inI_self, inI_1, inI_31]; subst_vars; first | rfl | omega)), (up r (Int.toNat a) q9), q, by first | exact hmw | (subst_vars; exact hmw) | (simp only [inI_self, inI_1, inI_31] at hmw; subst_vars; exact hmw), by first | exact nw_rf | exact nw_up (by omega) | exact nw_up2 (by omega), by first | exact nw_rf | exact nw_up (by omega) | exact nw_up2 (by omega)⟩
  · exact (show False by omega).elim

set_option maxHeartbeats 4000000 in
set_option maxRecDepth 100000 in
theorem mno1_first (θ : TH) (l : Launch) (S0 : State) (H : Heap) (w : Nat → Nat) (r q : Nat → Nat) (dt : Nat → Int) (sv : Nat → Nat → Int) (th dn rf kn : Int) (hw : MWR θ S0 w H r q dt sv th dn rf kn) (a : Int) (h_0 : -2147483648 ≤ a ∧ a < 2147483648) (h_1 : ¬ (0 ≤ a ∧ a < 6)) : CT l yX3_first cX3_first 3 (some .int) 2 42 0 0 [.ref (w 0), .int (iI a)] S0 H (fun v9 H1 => v9 = some (.int (iI 0)) ∧ ∃ r1 q1 : Nat → Nat, MWR θ S0 w H1 r1 q1 dt sv 1 dn rf kn ∧ NW 6 H.size r r1 ∧ NW 3 H.size q q1) (fun _ _ => False) (WA w H.size) := by
  refine ct_of (by decide +kernel) (Nat.le_of_ble_eq_true rfl) ?_
  intro pg en s mi args below meth co ls fx hs hr hlk hxt hin hl
  subst hs
  obtain ⟨hx, hb, hml, hown, hts⟩ := id fx.1
  have hS : va_S (WA w s.heap.size) s.heap s.heap [] := va_S.rf
  obtain ⟨hz, hu, hm, hd, hsv⟩ := id hw
  have hAB : ∀ x : Nat, (WA w s.heap.size) x → θ.2.2.2 ≤ x := wa_b hu hz.2.1
  have hz0 := hz
  have hK := sz_K fx.2 hz
  have hlt0 := hm.lt
  have hu1 := hu.1
  have hAn : ∀ x : Nat, s.heap.size ≤ x → (WA w s.heap.size) x := fun _ h => Or.inr h
  refine lv_aload_n hx hb dX3_first_0 rfl (lv_at hl 0 rfl) ?_
  refine lv_iload_n hx hb dX3_first_1 rfl (lv_at hl 1 rfl) ?_
  obtain ⟨r1, hr1⟩ := bex (a < 0 ∨ 5 < a)
  refine c_P (As := [.int (iI a)]) (rest := [.ref (w 0)]) fx hl (pm_X3_isNo l a r1 hr1 (by omega)) dX3_first_2 k1113 k1114 k6 k1115 hd_X3_isNo rfl ⟨by decide, by decide⟩ (Nat.le_of_ble_eq_true rfl) ⟨by dsimp only; omega, by dsimp only; omega⟩ ?_
  have br1 : r1 = 0 ∨ r1 = 1 := hr1.elim (fun h => Or.inr h.1) (fun h => Or.inl h.1)
  refine q_con hx hb dX3_first_5 ?_
  refine q_con hx hb dX3_first_6 ?_
  obtain ⟨t2, f3, hq1t2, hq2t2⟩ := fails_ex r1 0 0 (by omega) (by omega) (by omega)
  have hmw : MWR θ S0 w s.heap r q dt sv th dn rf kn := ⟨hz, hu, hm, hd, hsv⟩
  refine c_M (w := w) (As := [.int (iI r1), .int (iI 0), .int (iI 0)]) (rest := []) (b := w 0) (C := RX3) fx hl (mw_fails θ l S0 _ w _ _ _ _ _ _ _ _ hmw r1 0 0 t2 f3 (by omega) hq1t2 hq2t2) (ob_recv hK hm.1 rfl) dX3_first_7 k1119 k1121 ks10 k6 k1122 hd_X3_fails rfl ⟨by decide, by decide⟩ (Nat.le_of_ble_eq_true rfl) ⟨by dsimp only; omega, by dsimp only; omega⟩ hS (fun x hx => hx ▸ Or.inl (Or.inl rfl)) (fun H4 locs hmH4 hszH4 hk0H4 hS => ?_)
  have hkH4 : ∀ x : Nat, x < (s.heap).size → ¬ x = w 0 → H4[x]? = (s.heap)[x]? := hk0H4
  have hzH4 := hz0.at hAB hS
  have hltH4 := hmH4.lt
  refine q_ieq (tgt := 15) hx hb dX3_first_10 (by decide) (by omega) (fun c5 => ?_) (fun c5 => ?_)
  · exact (show False by omega).elim
  · refine q_con hx hb dX3_first_13 ?_
    obtain rfl : t2 = 1 := by omega
    have hmw : MWR θ S0 w H4 r q dt sv 1 dn rf kn := ⟨hzH4, hu, hmH4, hd, hsv⟩
    exact e_i hx hb hr hlk hS dX3_first_14 (Nat.le_of_ble_eq_true rfl) (Nat.le_of_ble_eq_true rfl) ⟨ex_i (by omega), r, q, by first | exact hmw | (subst_vars; exact hmw) | (simp only [inI_self, inI_1, inI_31] at hmw; subst_vars; exact hmw), by first | exact nw_rf | exact nw_up (by omega) | exact nw_up2 (by omega), by first | exact nw_rf | exact nw_up (by omega) | exact nw_up2 (by omega)⟩

set_option maxHeartbeats 4000000 in
set_option maxRecDepth 100000 in
theorem mok_last (θ : TH) (l : Launch) (S0 : State) (H : Heap) (w : Nat → Nat) (r q : Nat → Nat) (dt : Nat → Int) (sv : Nat → Nat → Int) (th dn rf kn : Int) (hw : MWR θ S0 w H r q dt sv th dn rf kn) (a : Int) (h_0 : -2147483648 ≤ a ∧ a < 2147483648) (h_1 : 0 ≤ a ∧ a < 6) : CT l yX3_last cX3_last 3 (some .int) 8 170 1 2 [.ref (w 0), .int (iI a)] S0 H (fun v9 H1 => v9 = some (.int (iI (fI (mI (dt a.toNat) + 1) - 1 - dt a.toNat))) ∧ ∃ r1 q1 : Nat → Nat, MWR θ S0 w H1 r1 q1 (up dt a.toNat (fI (mI (dt a.toNat) + 1) - 1)) sv 0 (dn + 1) rf kn ∧ NW 6 H.size r r1 ∧ NW 3 H.size q q1) (fun _ _ => False) (WA w H.size) := by
  refine ct_of (by decide +kernel) (Nat.le_of_ble_eq_true rfl) ?_
  intro pg en s mi args below meth co ls fx hs hr hlk hxt hin hl
  subst hs
  obtain ⟨hx, hb, hml, hown, hts⟩ := id fx.1
  have hS : va_S (WA w s.heap.size) s.heap s.heap [] := va_S.rf
  obtain ⟨hz, hu, hm, hd, hsv⟩ := id hw
  have hAB : ∀ x : Nat, (WA w s.heap.size) x → θ.2.2.2 ≤ x := wa_b hu hz.2.1
  have hz0 := hz
  have hK := sz_K fx.2 hz
  have hlt0 := hm.lt
  have hu1 := hu.1
  have hAn : ∀ x : Nat, s.heap.size ≤ x → (WA w s.heap.size) x := fun _ h => Or.inr h
  have tt1 := inM (inR (hd a.toNat (by omega)))
  have tt3 := len_b (mI (dt a.toNat))
  have tt2 := dI_of (d := fI (mI (dt a.toNat) + 1) - 1) (m := mI (dt a.toNat)) (by omega)
  have tt4 := dI_b (dt a.toNat)
  refine lv_aload_n hx hb dX3_last_0 rfl (lv_at hl 0 rfl) ?_
  refine lv_iload_n hx hb dX3_last_1 rfl (lv_at hl 1 rfl) ?_
  obtain ⟨r1, hr1⟩ := bex (a < 0 ∨ 5 < a)
  refine c_P (As := [.int (iI a)]) (rest := [.ref (w 0)]) fx hl (pm_X3_isNo l a r1 hr1 (by omega)) dX3_last_2 k1113 k1114 k6 k1115 hd_X3_isNo rfl ⟨by decide, by decide⟩ (Nat.le_of_ble_eq_true rfl) ⟨by dsimp only; omega, by dsimp only; omega⟩ ?_
  have br1 : r1 = 0 ∨ r1 = 1 := hr1.elim (fun h => Or.inr h.1) (fun h => Or.inl h.1)
  refine q_con hx hb dX3_last_5 ?_
  refine q_con hx hb dX3_last_6 ?_
  obtain ⟨t2, f3, hq1t2, hq2t2⟩ := fails_ex r1 0 0 (by omega) (by omega) (by omega)
  have hmw : MWR θ S0 w s.heap r q dt sv th dn rf kn := ⟨hz, hu, hm, hd, hsv⟩
  refine c_M (w := w) (As := [.int (iI r1), .int (iI 0), .int (iI 0)]) (rest := []) (b := w 0) (C := RX3) fx hl (mw_fails θ l S0 _ w _ _ _ _ _ _ _ _ hmw r1 0 0 t2 f3 (by omega) hq1t2 hq2t2) (ob_recv hK hm.1 rfl) dX3_last_7 k1119 k1121 ks10 k6 k1122 hd_X3_fails rfl ⟨by decide, by decide⟩ (Nat.le_of_ble_eq_true rfl) ⟨by dsimp only; omega, by dsimp only; omega⟩ hS (fun x hx => hx ▸ Or.inl (Or.inl rfl)) (fun H4 locs hmH4 hszH4 hk0H4 hS => ?_)
  have hkH4 : ∀ x : Nat, x < (s.heap).size → ¬ x = w 0 → H4[x]? = (s.heap)[x]? := hk0H4
  have hzH4 := hz0.at hAB hS
  have hltH4 := hmH4.lt
  refine q_ieq (tgt := 15) hx hb dX3_last_10 (by decide) (by omega) (fun c5 => ?_) (fun c5 => ?_)
  · refine lv_aload_n hx hb dX3_last_15 rfl (lv_at hl 0 rfl) ?_
    refine r_get (θ := θ) (C := RX3) (T := TX3) (N := 6) (ci := 9) hx hb hts gwX3 hown hK hmH4.1 rfl 4 (by decide) k1094 (fun _ h => h) (v := .ref (w 1)) rfl dX3_last_16 ?_
    refine lv_iload_n hx hb dX3_last_19 rfl (lv_at hl 1 rfl) ?_
    refine r_aald (θ := θ) hx hb hK hmH4.2.1 (i := a) (by omega) (by decide) dX3_last_20 ?_
    have rw6 := (hmH4.2.2.2.1 (a.toNat) (by omega)).1
    have rw6n := (hmH4.2.2.2.1 (a.toNat) (by omega)).2
    have rw6t := hd (a.toNat) (by omega)
    have rw6l := rw6.lt
    have rw6i := inR rw6t
    have rw6m := inM rw6i
    have rw6d := dI_b (dt a.toNat)
    refine q_con hx hb dX3_last_21 ?_
    refine r_iald (θ := θ) hx hb hK rw6 (i := 1) (by omega) (by decide) dX3_last_22 ?_
    refine q_as (dI (dt a.toNat)) rfl ?_
    refine lv_istore_n (lv' := [(2, .int (iI (dI (dt a.toNat)))), (0, .ref (w 0)), (1, .int (iI a))]) hx hb dX3_last_23 rfl hl (by decide) rfl (fun ls hl => ?_)
    refine lv_aload_n hx hb dX3_last_24 rfl (lv_at hl 1 rfl) ?_
    refine lv_iload_n hx hb dX3_last_25 rfl (lv_at hl 2 rfl) ?_
    refine lv_aload_n hx hb dX3_last_26 rfl (lv_at hl 1 rfl) ?_
    refine r_get (θ := θ) (C := RX3) (T := TX3) (N := 6) (ci := 9) hx hb hts gwX3 hown hK hmH4.1 rfl 4 (by decide) k1094 (fun _ h => h) (v := .ref (w 1)) rfl dX3_last_27 ?_
    refine lv_iload_n hx hb dX3_last_30 rfl (lv_at hl 2 rfl) ?_
    refine r_aald (θ := θ) hx hb hK hmH4.2.1 (i := a) (by omega) (by decide) dX3_last_31 ?_
    have rw7 := (hmH4.2.2.2.1 (a.toNat) (by omega)).1
    have rw7n := (hmH4.2.2.2.1 (a.toNat) (by omega)).2
    have rw7t := hd (a.toNat) (by omega)
    have rw7l := rw7.lt
    have rw7i := inR rw7t
    have rw7m := inM rw7i
    have rw7d := dI_b (dt a.toNat)
    refine q_con hx hb dX3_last_32 ?_
    refine r_iald (θ := θ) hx hb hK rw7 (i := 0) (by omega) (by decide) dX3_last_33 ?_
    refine q_as (mI (dt a.toNat)) rfl ?_
    refine q_bip hx hb dX3_last_34 (by decide) ?_
    refine c_NR (θ := θ) (As := [.int (iI (mI (dt a.toNat))), .int (iI 31)]) (rest := [.int (iI a), .ref (w 0)]) fx hl (pm_X3_within θ l S0 _ hzH4 (mI (dt a.toNat)) 31 (by omega) (by omega)) dX3_last_36 k1123 k1124 k6 k1125 hd_X3_within rfl ⟨by decide, by decide⟩ (Nat.le_of_ble_eq_true rfl) ⟨by dsimp only; omega, by dsimp only; omega⟩ hS (fun x hx => hAn x (Nat.le_trans hS.1 hx)) (fun q9 H8 locs hqH8 haH8 hszH8 hkH8 hS => ?_)
    have rw7_H8 := rw7.kept (hkH8 _ rw7.lt)
    have hzH8 := hz0.at hAB hS
    have hmH8 := hmH4.kept hkH8
    have hltH8 := haH8.lt
    have t0q9 := inI_s (m := (mI (dt a.toNat))) (k := 31) (by omega)
    refine q_con hx hb dX3_last_39 ?_
    have hmw : MWR θ S0 w H8 r q dt sv t2 dn rf kn := ⟨hzH8, hu, hmH8, hd, hsv⟩
    refine c_M (w := w) (As := [.int (iI a), .ref q9, .int (iI 0)]) (rest := []) (b := w 0) (C := RX3) fx hl (mw_become_ok θ l S0 _ w _ _ _ _ _ _ _ _ hmw a q9 0 (inI (mI (dt a.toNat)) 31) haH8 ⟨by omega, by omega, by omega⟩ (by omega) (by omega) (by omega)) (ob_recv hK hmH8.1 rfl) dX3_last_40 k1126 k1128 ks11 k6 k1129 hd_X3_become rfl ⟨by decide, by decide⟩ (Nat.le_of_ble_eq_true rfl) ⟨by dsimp only; omega, by dsimp only; omega⟩ hS (fun x hx => hx.elim (fun e => Or.inl (Or.inl e)) (fun e => Or.inl (Or.inr (Or.inl e)))) (fun H10 locs hmH10 hszH10 hk0H10 hS => ?_)
    have hkH10 : ∀ x : Nat, x < (H8).size → ¬ (x = w 0 ∨ x = w 1) → H10[x]? = (H8)[x]? := hk0H10
    have haH8_H10 := haH8.kept (hkH10 _ haH8.lt (by omega))
    have hzH10 := hz0.at hAB hS
    have hltH10 := hmH10.lt
    refine lv_pop hx hb dX3_last_43 rfl ?_
    refine lv_aload_n hx hb dX3_last_44 rfl (lv_at hl 1 rfl) ?_
    refine r_get (θ := θ) (C := RX3) (T := TX3) (N := 6) (ci := 9) hx hb hts gwX3 hown hK hmH10.1 rfl 4 (by decide) k1094 (fun _ h => h) (v := .ref (w 1)) rfl dX3_last_45 ?_
    refine lv_iload_n hx hb dX3_last_48 rfl (lv_at hl 2 rfl) ?_
    refine r_aald (θ := θ) hx hb hK hmH10.2.1 (i := a) (by omega) (by decide) dX3_last_49 ?_
    have rw11 := (hmH10.2.2.2.1 (a.toNat) (by omega)).1
    have rw11n := (hmH10.2.2.2.1 (a.toNat) (by omega)).2
    have rw11l := rw11.lt
    refine q_con hx hb dX3_last_50 ?_
    refine r_iald (θ := θ) hx hb hK rw11 (i := 1) (by omega) (by decide) dX3_last_51 ?_
    refine q_as (dI ((up dt (Int.toNat a) (inI (mI (dt a.toNat)) 31)) a.toNat)) rfl ?_
    refine lv_iload_n hx hb dX3_last_52 rfl (lv_at hl 0 rfl) ?_
    refine q_sub hx hb dX3_last_53 ?_
    obtain rfl : t2 = 0 := by omega
    have hmw : MWR θ S0 w H10 (up r (Int.toNat a) q9) q (up dt (Int.toNat a) (inI (mI (dt a.toNat)) 31)) sv 0 (dn + 1) rf kn := ⟨hzH10, hu, hmH10, (fun j hj => by have h9 := hd j hj; show -4371587 ≤ _ ∧ _; simp only [up]; (split <;> omega)), hsv⟩
    exact e_i hx hb hr hlk hS dX3_last_54 (Nat.le_of_ble_eq_true rfl) (Nat.le_of_ble_eq_true rfl) ⟨ex_i (by subst_vars; first | omega | (simp only [up_s, inI_self, inI_1, inI_31]; done) | (simp only [up_s, inI_self, inI_1, inI_31]; omega) | (simp only [up_s, inI_self, inI_1, inI_31]; subst_vars; first | rfl | omega)), (up r (Int.toNat a) q9), q, by first | exact hmw | (subst_vars; exact hmw) | (simp only [inI_self, inI_1, inI_31] at hmw; subst_vars; exact hmw), by first | exact nw_rf | exact nw_up (by omega) | exact nw_up2 (by omega), by first | exact nw_rf | exact nw_up (by omega) | exact nw_up2 (by omega)⟩
  · exact (show False by omega).elim

set_option maxHeartbeats 4000000 in
set_option maxRecDepth 100000 in
theorem mno1_last (θ : TH) (l : Launch) (S0 : State) (H : Heap) (w : Nat → Nat) (r q : Nat → Nat) (dt : Nat → Int) (sv : Nat → Nat → Int) (th dn rf kn : Int) (hw : MWR θ S0 w H r q dt sv th dn rf kn) (a : Int) (h_0 : -2147483648 ≤ a ∧ a < 2147483648) (h_1 : ¬ (0 ≤ a ∧ a < 6)) : CT l yX3_last cX3_last 3 (some .int) 2 42 0 0 [.ref (w 0), .int (iI a)] S0 H (fun v9 H1 => v9 = some (.int (iI 0)) ∧ ∃ r1 q1 : Nat → Nat, MWR θ S0 w H1 r1 q1 dt sv 1 dn rf kn ∧ NW 6 H.size r r1 ∧ NW 3 H.size q q1) (fun _ _ => False) (WA w H.size) := by
  refine ct_of (by decide +kernel) (Nat.le_of_ble_eq_true rfl) ?_
  intro pg en s mi args below meth co ls fx hs hr hlk hxt hin hl
  subst hs
  obtain ⟨hx, hb, hml, hown, hts⟩ := id fx.1
  have hS : va_S (WA w s.heap.size) s.heap s.heap [] := va_S.rf
  obtain ⟨hz, hu, hm, hd, hsv⟩ := id hw
  have hAB : ∀ x : Nat, (WA w s.heap.size) x → θ.2.2.2 ≤ x := wa_b hu hz.2.1
  have hz0 := hz
  have hK := sz_K fx.2 hz
  have hlt0 := hm.lt
  have hu1 := hu.1
  have hAn : ∀ x : Nat, s.heap.size ≤ x → (WA w s.heap.size) x := fun _ h => Or.inr h
  refine lv_aload_n hx hb dX3_last_0 rfl (lv_at hl 0 rfl) ?_
  refine lv_iload_n hx hb dX3_last_1 rfl (lv_at hl 1 rfl) ?_
  obtain ⟨r1, hr1⟩ := bex (a < 0 ∨ 5 < a)
  refine c_P (As := [.int (iI a)]) (rest := [.ref (w 0)]) fx hl (pm_X3_isNo l a r1 hr1 (by omega)) dX3_last_2 k1113 k1114 k6 k1115 hd_X3_isNo rfl ⟨by decide, by decide⟩ (Nat.le_of_ble_eq_true rfl) ⟨by dsimp only; omega, by dsimp only; omega⟩ ?_
  have br1 : r1 = 0 ∨ r1 = 1 := hr1.elim (fun h => Or.inr h.1) (fun h => Or.inl h.1)
  refine q_con hx hb dX3_last_5 ?_
  refine q_con hx hb dX3_last_6 ?_
  obtain ⟨t2, f3, hq1t2, hq2t2⟩ := fails_ex r1 0 0 (by omega) (by omega) (by omega)
  have hmw : MWR θ S0 w s.heap r q dt sv th dn rf kn := ⟨hz, hu, hm, hd, hsv⟩
  refine c_M (w := w) (As := [.int (iI r1), .int (iI 0), .int (iI 0)]) (rest := []) (b := w 0) (C := RX3) fx hl (mw_fails θ l S0 _ w _ _ _ _ _ _ _ _ hmw r1 0 0 t2 f3 (by omega) hq1t2 hq2t2) (ob_recv hK hm.1 rfl) dX3_last_7 k1119 k1121 ks10 k6 k1122 hd_X3_fails rfl ⟨by decide, by decide⟩ (Nat.le_of_ble_eq_true rfl) ⟨by dsimp only; omega, by dsimp only; omega⟩ hS (fun x hx => hx ▸ Or.inl (Or.inl rfl)) (fun H4 locs hmH4 hszH4 hk0H4 hS => ?_)
  have hkH4 : ∀ x : Nat, x < (s.heap).size → ¬ x = w 0 → H4[x]? = (s.heap)[x]? := hk0H4
  have hzH4 := hz0.at hAB hS
  have hltH4 := hmH4.lt
  refine q_ieq (tgt := 15) hx hb dX3_last_10 (by decide) (by omega) (fun c5 => ?_) (fun c5 => ?_)
  · exact (show False by omega).elim
  · refine q_con hx hb dX3_last_13 ?_
    obtain rfl : t2 = 1 := by omega
    have hmw : MWR θ S0 w H4 r q dt sv 1 dn rf kn := ⟨hzH4, hu, hmH4, hd, hsv⟩
    exact e_i hx hb hr hlk hS dX3_last_14 (Nat.le_of_ble_eq_true rfl) (Nat.le_of_ble_eq_true rfl) ⟨ex_i (by omega), r, q, by first | exact hmw | (subst_vars; exact hmw) | (simp only [inI_self, inI_1, inI_31] at hmw; subst_vars; exact hmw), by first | exact nw_rf | exact nw_up (by omega) | exact nw_up2 (by omega), by first | exact nw_rf | exact nw_up (by omega) | exact nw_up2 (by omega)⟩

set_option maxHeartbeats 4000000 in
set_option maxRecDepth 100000 in
theorem mok_withDay (θ : TH) (l : Launch) (S0 : State) (H : Heap) (w : Nat → Nat) (r q : Nat → Nat) (dt : Nat → Int) (sv : Nat → Nat → Int) (th dn rf kn : Int) (hw : MWR θ S0 w H r q dt sv th dn rf kn) (a k : Int) (h_0 : -2147483648 ≤ a ∧ a < 2147483648) (h_1 : -2147483648 ≤ k ∧ k < 2147483648) (h_2 : 0 ≤ a ∧ a < 6) (h_3 : 1 ≤ k ∧ k ≤ 31) (h_4 : k ≤ fI (mI (dt a.toNat) + 1) - fI (mI (dt a.toNat))) : CT l yX3_withDay cX3_withDay 3 (some .int) 8 170 1 2 [.ref (w 0), .int (iI a), .int (iI k)] S0 H (fun v9 H1 => v9 = some (.int (iI (inI (mI (dt a.toNat)) k))) ∧ ∃ r1 q1 : Nat → Nat, MWR θ S0 w H1 r1 q1 (up dt a.toNat (inI (mI (dt a.toNat)) k)) sv 0 (dn + 1) rf kn ∧ NW 6 H.size r r1 ∧ NW 3 H.size q q1) (fun _ _ => False) (WA w H.size) := by
  refine ct_of (by decide +kernel) (Nat.le_of_ble_eq_true rfl) ?_
  intro pg en s mi args below meth co ls fx hs hr hlk hxt hin hl
  subst hs
  obtain ⟨hx, hb, hml, hown, hts⟩ := id fx.1
  have hS : va_S (WA w s.heap.size) s.heap s.heap [] := va_S.rf
  obtain ⟨hz, hu, hm, hd, hsv⟩ := id hw
  have hAB : ∀ x : Nat, (WA w s.heap.size) x → θ.2.2.2 ≤ x := wa_b hu hz.2.1
  have hz0 := hz
  have hK := sz_K fx.2 hz
  have hlt0 := hm.lt
  have hu1 := hu.1
  have hAn : ∀ x : Nat, s.heap.size ≤ x → (WA w s.heap.size) x := fun _ h => Or.inr h
  have tt1 := inM (inR (hd a.toNat (by omega)))
  refine lv_aload_n hx hb dX3_withDay_0 rfl (lv_at hl 0 rfl) ?_
  refine lv_iload_n hx hb dX3_withDay_1 rfl (lv_at hl 1 rfl) ?_
  obtain ⟨r1, hr1⟩ := bex (a < 0 ∨ 5 < a)
  refine c_P (As := [.int (iI a)]) (rest := [.ref (w 0)]) fx hl (pm_X3_isNo l a r1 hr1 (by omega)) dX3_withDay_2 k1113 k1114 k6 k1115 hd_X3_isNo rfl ⟨by decide, by decide⟩ (Nat.le_of_ble_eq_true rfl) ⟨by dsimp only; omega, by dsimp only; omega⟩ ?_
  have br1 : r1 = 0 ∨ r1 = 1 := hr1.elim (fun h => Or.inr h.1) (fun h => Or.inl h.1)
  refine lv_iload_n hx hb dX3_withDay_5 rfl (lv_at hl 2 rfl) ?_
  refine q_con hx hb dX3_withDay_6 ?_
  refine q_bip hx hb dX3_withDay_7 (by decide) ?_
  obtain ⟨r2, hr2⟩ := bex (k < 1 ∨ 31 < k)
  refine c_P (As := [.int (iI k), .int (iI 1), .int (iI 31)]) (rest := [.int (iI r1), .ref (w 0)]) fx hl (pm_X3_isOut l k 1 31 r2 hr2 (by omega) (by omega) (by omega)) dX3_withDay_9 k1116 k1117 k6 k1118 hd_X3_isOut rfl ⟨by decide, by decide⟩ (Nat.le_of_ble_eq_true rfl) ⟨by dsimp only; omega, by dsimp only; omega⟩ ?_
  have br2 : r2 = 0 ∨ r2 = 1 := hr2.elim (fun h => Or.inr h.1) (fun h => Or.inl h.1)
  refine lv_iload_n hx hb dX3_withDay_12 rfl (lv_at hl 1 rfl) ?_
  obtain ⟨r3, hr3⟩ := bex (a < 0 ∨ 5 < a)
  refine c_P (As := [.int (iI a)]) (rest := [.int (iI r2), .int (iI r1), .ref (w 0)]) fx hl (pm_X3_isNo l a r3 hr3 (by omega)) dX3_withDay_13 k1113 k1114 k6 k1115 hd_X3_isNo rfl ⟨by decide, by decide⟩ (Nat.le_of_ble_eq_true rfl) ⟨by dsimp only; omega, by dsimp only; omega⟩ ?_
  have br3 : r3 = 0 ∨ r3 = 1 := hr3.elim (fun h => Or.inr h.1) (fun h => Or.inl h.1)
  refine q_ine (tgt := 38) hx hb dX3_withDay_16 (by decide) (by omega) (fun c4 => ?_) (fun c4 => ?_)
  · exact (show False by omega).elim
  · refine lv_iload_n hx hb dX3_withDay_19 rfl (lv_at hl 2 rfl) ?_
    refine lv_aload_n hx hb dX3_withDay_20 rfl (lv_at hl 0 rfl) ?_
    refine r_get (θ := θ) (C := RX3) (T := TX3) (N := 6) (ci := 9) hx hb hts gwX3 hown hK hm.1 rfl 4 (by decide) k1094 (fun _ h => h) (v := .ref (w 1)) rfl dX3_withDay_21 ?_
    refine lv_iload_n hx hb dX3_withDay_24 rfl (lv_at hl 1 rfl) ?_
    refine r_aald (θ := θ) hx hb hK hm.2.1 (i := a) (by omega) (by decide) dX3_withDay_25 ?_
    have rw5 := (hm.2.2.2.1 (a.toNat) (by omega)).1
    have rw5n := (hm.2.2.2.1 (a.toNat) (by omega)).2
    have rw5t := hd (a.toNat) (by omega)
    have rw5l := rw5.lt
    have rw5i := inR rw5t
    have rw5m := inM rw5i
    have rw5d := dI_b (dt a.toNat)
    refine q_con hx hb dX3_withDay_26 ?_
    refine r_iald (θ := θ) hx hb hK rw5 (i := 0) (by omega) (by decide) dX3_withDay_27 ?_
    refine q_as (mI (dt a.toNat)) rfl ?_
    refine c_H (As := [.int (iI (mI (dt a.toNat)))]) (rest := [.int (iI k), .int (iI r2), .int (iI r1), .ref (w 0)]) fx hl (pm_X3_length θ l S0 _ hz (mI (dt a.toNat)) (by omega)) dX3_withDay_28 k1085 k1086 k6 k1087 hd_X3_length rfl ⟨by decide, by decide⟩ (Nat.le_of_ble_eq_true rfl) ⟨by dsimp only; omega, by dsimp only; omega⟩ ?_
    refine q_nm (fun z6 ez6 => ?_)
    have t0z6 := len_b (mI (dt a.toNat))
    refine q_cle (tgt := 38) hx hb dX3_withDay_31 (by decide) (by omega) (by omega) (fun c7 => ?_) (fun c7 => ?_)
    · refine q_con hx hb dX3_withDay_38 ?_
      obtain ⟨t8, f9, hq1t8, hq2t8⟩ := fails_ex r1 r2 0 (by omega) (by omega) (by omega)
      have hmw : MWR θ S0 w s.heap r q dt sv th dn rf kn := ⟨hz, hu, hm, hd, hsv⟩
      refine c_M (w := w) (As := [.int (iI r1), .int (iI r2), .int (iI 0)]) (rest := []) (b := w 0) (C := RX3) fx hl (mw_fails θ l S0 _ w _ _ _ _ _ _ _ _ hmw r1 r2 0 t8 f9 (by omega) hq1t8 hq2t8) (ob_recv hK hm.1 rfl) dX3_withDay_39 k1119 k1121 ks10 k6 k1122 hd_X3_fails rfl ⟨by decide, by decide⟩ (Nat.le_of_ble_eq_true rfl) ⟨by dsimp only; omega, by dsimp only; omega⟩ hS (fun x hx => hx ▸ Or.inl (Or.inl rfl)) (fun H10 locs hmH10 hszH10 hk0H10 hS => ?_)
      have hkH10 : ∀ x : Nat, x < (s.heap).size → ¬ x = w 0 → H10[x]? = (s.heap)[x]? := hk0H10
      have hzH10 := hz0.at hAB hS
      have hltH10 := hmH10.lt
      refine q_ieq (tgt := 47) hx hb dX3_withDay_42 (by decide) (by omega) (fun c11 => ?_) (fun c11 => ?_)
      · refine lv_aload_n hx hb dX3_withDay_47 rfl (lv_at hl 0 rfl) ?_
        refine lv_iload_n hx hb dX3_withDay_48 rfl (lv_at hl 1 rfl) ?_
        refine lv_aload_n hx hb dX3_withDay_49 rfl (lv_at hl 0 rfl) ?_
        refine r_get (θ := θ) (C := RX3) (T := TX3) (N := 6) (ci := 9) hx hb hts gwX3 hown hK hmH10.1 rfl 4 (by decide) k1094 (fun _ h => h) (v := .ref (w 1)) rfl dX3_withDay_50 ?_
        refine lv_iload_n hx hb dX3_withDay_53 rfl (lv_at hl 1 rfl) ?_
        refine r_aald (θ := θ) hx hb hK hmH10.2.1 (i := a) (by omega) (by decide) dX3_withDay_54 ?_
        have rw12 := (hmH10.2.2.2.1 (a.toNat) (by omega)).1
        have rw12n := (hmH10.2.2.2.1 (a.toNat) (by omega)).2
        have rw12t := hd (a.toNat) (by omega)
        have rw12l := rw12.lt
        have rw12i := inR rw12t
        have rw12m := inM rw12i
        have rw12d := dI_b (dt a.toNat)
        refine q_con hx hb dX3_withDay_55 ?_
        refine r_iald (θ := θ) hx hb hK rw12 (i := 0) (by omega) (by decide) dX3_withDay_56 ?_
        refine q_as (mI (dt a.toNat)) rfl ?_
        refine lv_iload_n hx hb dX3_withDay_57 rfl (lv_at hl 2 rfl) ?_
        refine c_NR (θ := θ) (As := [.int (iI (mI (dt a.toNat))), .int (iI k)]) (rest := [.int (iI a), .ref (w 0)]) fx hl (pm_X3_within θ l S0 _ hzH10 (mI (dt a.toNat)) k (by omega) (by omega)) dX3_withDay_58 k1123 k1124 k6 k1125 hd_X3_within rfl ⟨by decide, by decide⟩ (Nat.le_of_ble_eq_true rfl) ⟨by dsimp only; omega, by dsimp only; omega⟩ hS (fun x hx => hAn x (Nat.le_trans hS.1 hx)) (fun q14 H13 locs hqH13 haH13 hszH13 hkH13 hS => ?_)
        have rw12_H13 := rw12.kept (hkH13 _ rw12.lt)
        have hzH13 := hz0.at hAB hS
        have hmH13 := hmH10.kept hkH13
        have hltH13 := haH13.lt
        have t0q14 := inI_s (m := (mI (dt a.toNat))) (k := k) (by omega)
        refine q_con hx hb dX3_withDay_61 ?_
        have hmw : MWR θ S0 w H13 r q dt sv t8 dn rf kn := ⟨hzH13, hu, hmH13, hd, hsv⟩
        refine c_M (w := w) (As := [.int (iI a), .ref q14, .int (iI 0)]) (rest := []) (b := w 0) (C := RX3) fx hl (mw_become_ok θ l S0 _ w _ _ _ _ _ _ _ _ hmw a q14 0 (inI (mI (dt a.toNat)) k) haH13 ⟨by omega, by omega, by omega⟩ (by omega) (by omega) (by omega)) (ob_recv hK hmH13.1 rfl) dX3_withDay_62 k1126 k1128 ks11 k6 k1129 hd_X3_become rfl ⟨by decide, by decide⟩ (Nat.le_of_ble_eq_true rfl) ⟨by dsimp only; omega, by dsimp only; omega⟩ hS (fun x hx => hx.elim (fun e => Or.inl (Or.inl e)) (fun e => Or.inl (Or.inr (Or.inl e)))) (fun H15 locs hmH15 hszH15 hk0H15 hS => ?_)
        have hkH15 : ∀ x : Nat, x < (H13).size → ¬ (x = w 0 ∨ x = w 1) → H15[x]? = (H13)[x]? := hk0H15
        have haH13_H15 := haH13.kept (hkH15 _ haH13.lt (by omega))
        have hzH15 := hz0.at hAB hS
        have hltH15 := hmH15.lt
        refine lv_pop hx hb dX3_withDay_65 rfl ?_
        refine lv_aload_n hx hb dX3_withDay_66 rfl (lv_at hl 0 rfl) ?_
        refine lv_iload_n hx hb dX3_withDay_67 rfl (lv_at hl 1 rfl) ?_
        have hmw : MWR θ S0 w H15 (up r (Int.toNat a) q14) q (up dt (Int.toNat a) (inI (mI (dt a.toNat)) k)) sv t8 (dn + 1) rf kn := ⟨hzH15, hu, hmH15, (fun j hj => by have h9 := hd j hj; show -4371587 ≤ _ ∧ _; simp only [up]; (split <;> omega)), hsv⟩
        refine c_HV (As := [.int (iI a)]) (rest := []) (b := w 0) (C := RX3) fx hl (mr_became θ l S0 _ w _ _ _ _ _ _ _ _ hmw a (by omega)) (ob_recv hK hmH15.1 rfl) dX3_withDay_68 k1141 k1143 ks12 k6 k1144 hd_X3_became rfl ⟨by decide, by decide⟩ (Nat.le_of_ble_eq_true rfl) ⟨by dsimp only; omega, by dsimp only; omega⟩ ?_
        refine q_nm (fun z16 ez16 => ?_)
        obtain rfl : t8 = 0 := by omega
        have hmw : MWR θ S0 w H15 (up r (Int.toNat a) q14) q (up dt (Int.toNat a) (inI (mI (dt a.toNat)) k)) sv 0 (dn + 1) rf kn := ⟨hzH15, hu, hmH15, (fun j hj => by have h9 := hd j hj; show -4371587 ≤ _ ∧ _; simp only [up]; (split <;> omega)), hsv⟩
        exact e_i hx hb hr hlk hS dX3_withDay_71 (Nat.le_of_ble_eq_true rfl) (Nat.le_of_ble_eq_true rfl) ⟨ex_i (by subst_vars; first | omega | (simp only [up_s, inI_self, inI_1, inI_31]; done) | (simp only [up_s, inI_self, inI_1, inI_31]; omega) | (simp only [up_s, inI_self, inI_1, inI_31]; subst_vars; first | rfl | omega)), (up r (Int.toNat a) q14), q, by first | exact hmw | (subst_vars; exact hmw) | (simp only [inI_self, inI_1, inI_31] at hmw; subst_vars; exact hmw), by first | exact nw_rf | exact nw_up (by omega) | exact nw_up2 (by omega), by first | exact nw_rf | exact nw_up (by omega) | exact nw_up2 (by omega)⟩
      · exact (show False by omega).elim
    · refine q_con hx hb dX3_withDay_34 ?_
      refine lv_goto (tgt := 39) hx hb dX3_withDay_35 (by decide) ?_
      obtain ⟨t17, f18, hq1t17, hq2t17⟩ := fails_ex r1 r2 1 (by omega) (by omega) (by omega)
      have hmw : MWR θ S0 w s.heap r q dt sv th dn rf kn := ⟨hz, hu, hm, hd, hsv⟩
      refine c_M (w := w) (As := [.int (iI r1), .int (iI r2), .int (iI 1)]) (rest := []) (b := w 0) (C := RX3) fx hl (mw_fails θ l S0 _ w _ _ _ _ _ _ _ _ hmw r1 r2 1 t17 f18 (by omega) hq1t17 hq2t17) (ob_recv hK hm.1 rfl) dX3_withDay_39 k1119 k1121 ks10 k6 k1122 hd_X3_fails rfl ⟨by decide, by decide⟩ (Nat.le_of_ble_eq_true rfl) ⟨by dsimp only; omega, by dsimp only; omega⟩ hS (fun x hx => hx ▸ Or.inl (Or.inl rfl)) (fun H19 locs hmH19 hszH19 hk0H19 hS => ?_)
      have hkH19 : ∀ x : Nat, x < (s.heap).size → ¬ x = w 0 → H19[x]? = (s.heap)[x]? := hk0H19
      have hzH19 := hz0.at hAB hS
      have hltH19 := hmH19.lt
      refine q_ieq (tgt := 47) hx hb dX3_withDay_42 (by decide) (by omega) (fun c20 => ?_) (fun c20 => ?_)
      · refine lv_aload_n hx hb dX3_withDay_47 rfl (lv_at hl 0 rfl) ?_
        refine lv_iload_n hx hb dX3_withDay_48 rfl (lv_at hl 1 rfl) ?_
        refine lv_aload_n hx hb dX3_withDay_49 rfl (lv_at hl 0 rfl) ?_
        refine r_get (θ := θ) (C := RX3) (T := TX3) (N := 6) (ci := 9) hx hb hts gwX3 hown hK hmH19.1 rfl 4 (by decide) k1094 (fun _ h => h) (v := .ref (w 1)) rfl dX3_withDay_50 ?_
        refine lv_iload_n hx hb dX3_withDay_53 rfl (lv_at hl 1 rfl) ?_
        refine r_aald (θ := θ) hx hb hK hmH19.2.1 (i := a) (by omega) (by decide) dX3_withDay_54 ?_
        have rw21 := (hmH19.2.2.2.1 (a.toNat) (by omega)).1
        have rw21n := (hmH19.2.2.2.1 (a.toNat) (by omega)).2
        have rw21t := hd (a.toNat) (by omega)
        have rw21l := rw21.lt
        have rw21i := inR rw21t
        have rw21m := inM rw21i
        have rw21d := dI_b (dt a.toNat)
        refine q_con hx hb dX3_withDay_55 ?_
        refine r_iald (θ := θ) hx hb hK rw21 (i := 0) (by omega) (by decide) dX3_withDay_56 ?_
        refine q_as (mI (dt a.toNat)) rfl ?_
        refine lv_iload_n hx hb dX3_withDay_57 rfl (lv_at hl 2 rfl) ?_
        refine c_NR (θ := θ) (As := [.int (iI (mI (dt a.toNat))), .int (iI k)]) (rest := [.int (iI a), .ref (w 0)]) fx hl (pm_X3_within θ l S0 _ hzH19 (mI (dt a.toNat)) k (by omega) (by omega)) dX3_withDay_58 k1123 k1124 k6 k1125 hd_X3_within rfl ⟨by decide, by decide⟩ (Nat.le_of_ble_eq_true rfl) ⟨by dsimp only; omega, by dsimp only; omega⟩ hS (fun x hx => hAn x (Nat.le_trans hS.1 hx)) (fun q23 H22 locs hqH22 haH22 hszH22 hkH22 hS => ?_)
        have rw21_H22 := rw21.kept (hkH22 _ rw21.lt)
        have hzH22 := hz0.at hAB hS
        have hmH22 := hmH19.kept hkH22
        have hltH22 := haH22.lt
        have t0q23 := inI_s (m := (mI (dt a.toNat))) (k := k) (by omega)
        refine q_con hx hb dX3_withDay_61 ?_
        have hmw : MWR θ S0 w H22 r q dt sv t17 dn rf kn := ⟨hzH22, hu, hmH22, hd, hsv⟩
        refine c_M (w := w) (As := [.int (iI a), .ref q23, .int (iI 0)]) (rest := []) (b := w 0) (C := RX3) fx hl (mw_become_ok θ l S0 _ w _ _ _ _ _ _ _ _ hmw a q23 0 (inI (mI (dt a.toNat)) k) haH22 ⟨by omega, by omega, by omega⟩ (by omega) (by omega) (by omega)) (ob_recv hK hmH22.1 rfl) dX3_withDay_62 k1126 k1128 ks11 k6 k1129 hd_X3_become rfl ⟨by decide, by decide⟩ (Nat.le_of_ble_eq_true rfl) ⟨by dsimp only; omega, by dsimp only; omega⟩ hS (fun x hx => hx.elim (fun e => Or.inl (Or.inl e)) (fun e => Or.inl (Or.inr (Or.inl e)))) (fun H24 locs hmH24 hszH24 hk0H24 hS => ?_)
        have hkH24 : ∀ x : Nat, x < (H22).size → ¬ (x = w 0 ∨ x = w 1) → H24[x]? = (H22)[x]? := hk0H24
        have haH22_H24 := haH22.kept (hkH24 _ haH22.lt (by omega))
        have hzH24 := hz0.at hAB hS
        have hltH24 := hmH24.lt
        refine lv_pop hx hb dX3_withDay_65 rfl ?_
        refine lv_aload_n hx hb dX3_withDay_66 rfl (lv_at hl 0 rfl) ?_
        refine lv_iload_n hx hb dX3_withDay_67 rfl (lv_at hl 1 rfl) ?_
        have hmw : MWR θ S0 w H24 (up r (Int.toNat a) q23) q (up dt (Int.toNat a) (inI (mI (dt a.toNat)) k)) sv t17 (dn + 1) rf kn := ⟨hzH24, hu, hmH24, (fun j hj => by have h9 := hd j hj; show -4371587 ≤ _ ∧ _; simp only [up]; (split <;> omega)), hsv⟩
        refine c_HV (As := [.int (iI a)]) (rest := []) (b := w 0) (C := RX3) fx hl (mr_became θ l S0 _ w _ _ _ _ _ _ _ _ hmw a (by omega)) (ob_recv hK hmH24.1 rfl) dX3_withDay_68 k1141 k1143 ks12 k6 k1144 hd_X3_became rfl ⟨by decide, by decide⟩ (Nat.le_of_ble_eq_true rfl) ⟨by dsimp only; omega, by dsimp only; omega⟩ ?_
        refine q_nm (fun z25 ez25 => ?_)
        obtain rfl : t17 = 0 := by omega
        have hmw : MWR θ S0 w H24 (up r (Int.toNat a) q23) q (up dt (Int.toNat a) (inI (mI (dt a.toNat)) k)) sv 0 (dn + 1) rf kn := ⟨hzH24, hu, hmH24, (fun j hj => by have h9 := hd j hj; show -4371587 ≤ _ ∧ _; simp only [up]; (split <;> omega)), hsv⟩
        exact e_i hx hb hr hlk hS dX3_withDay_71 (Nat.le_of_ble_eq_true rfl) (Nat.le_of_ble_eq_true rfl) ⟨ex_i (by subst_vars; first | omega | (simp only [up_s, inI_self, inI_1, inI_31]; done) | (simp only [up_s, inI_self, inI_1, inI_31]; omega) | (simp only [up_s, inI_self, inI_1, inI_31]; subst_vars; first | rfl | omega)), (up r (Int.toNat a) q23), q, by first | exact hmw | (subst_vars; exact hmw) | (simp only [inI_self, inI_1, inI_31] at hmw; subst_vars; exact hmw), by first | exact nw_rf | exact nw_up (by omega) | exact nw_up2 (by omega), by first | exact nw_rf | exact nw_up (by omega) | exact nw_up2 (by omega)⟩
      · exact (show False by omega).elim

set_option maxHeartbeats 4000000 in
set_option maxRecDepth 100000 in
theorem mno1_withDay (θ : TH) (l : Launch) (S0 : State) (H : Heap) (w : Nat → Nat) (r q : Nat → Nat) (dt : Nat → Int) (sv : Nat → Nat → Int) (th dn rf kn : Int) (hw : MWR θ S0 w H r q dt sv th dn rf kn) (a k : Int) (h_0 : -2147483648 ≤ a ∧ a < 2147483648) (h_1 : -2147483648 ≤ k ∧ k < 2147483648) (h_2 : ¬ (0 ≤ a ∧ a < 6)) : CT l yX3_withDay cX3_withDay 3 (some .int) 2 42 0 0 [.ref (w 0), .int (iI a), .int (iI k)] S0 H (fun v9 H1 => v9 = some (.int (iI 0)) ∧ ∃ r1 q1 : Nat → Nat, MWR θ S0 w H1 r1 q1 dt sv 1 dn rf kn ∧ NW 6 H.size r r1 ∧ NW 3 H.size q q1) (fun _ _ => False) (WA w H.size) := by
  refine ct_of (by decide +kernel) (Nat.le_of_ble_eq_true rfl) ?_
  intro pg en s mi args below meth co ls fx hs hr hlk hxt hin hl
  subst hs
  obtain ⟨hx, hb, hml, hown, hts⟩ := id fx.1
  have hS : va_S (WA w s.heap.size) s.heap s.heap [] := va_S.rf
  obtain ⟨hz, hu, hm, hd, hsv⟩ := id hw
  have hAB : ∀ x : Nat, (WA w s.heap.size) x → θ.2.2.2 ≤ x := wa_b hu hz.2.1
  have hz0 := hz
  have hK := sz_K fx.2 hz
  have hlt0 := hm.lt
  have hu1 := hu.1
  have hAn : ∀ x : Nat, s.heap.size ≤ x → (WA w s.heap.size) x := fun _ h => Or.inr h
  refine lv_aload_n hx hb dX3_withDay_0 rfl (lv_at hl 0 rfl) ?_
  refine lv_iload_n hx hb dX3_withDay_1 rfl (lv_at hl 1 rfl) ?_
  obtain ⟨r1, hr1⟩ := bex (a < 0 ∨ 5 < a)
  refine c_P (As := [.int (iI a)]) (rest := [.ref (w 0)]) fx hl (pm_X3_isNo l a r1 hr1 (by omega)) dX3_withDay_2 k1113 k1114 k6 k1115 hd_X3_isNo rfl ⟨by decide, by decide⟩ (Nat.le_of_ble_eq_true rfl) ⟨by dsimp only; omega, by dsimp only; omega⟩ ?_
  have br1 : r1 = 0 ∨ r1 = 1 := hr1.elim (fun h => Or.inr h.1) (fun h => Or.inl h.1)
  refine lv_iload_n hx hb dX3_withDay_5 rfl (lv_at hl 2 rfl) ?_
  refine q_con hx hb dX3_withDay_6 ?_
  refine q_bip hx hb dX3_withDay_7 (by decide) ?_
  obtain ⟨r2, hr2⟩ := bex (k < 1 ∨ 31 < k)
  refine c_P (As := [.int (iI k), .int (iI 1), .int (iI 31)]) (rest := [.int (iI r1), .ref (w 0)]) fx hl (pm_X3_isOut l k 1 31 r2 hr2 (by omega) (by omega) (by omega)) dX3_withDay_9 k1116 k1117 k6 k1118 hd_X3_isOut rfl ⟨by decide, by decide⟩ (Nat.le_of_ble_eq_true rfl) ⟨by dsimp only; omega, by dsimp only; omega⟩ ?_
  have br2 : r2 = 0 ∨ r2 = 1 := hr2.elim (fun h => Or.inr h.1) (fun h => Or.inl h.1)
  refine lv_iload_n hx hb dX3_withDay_12 rfl (lv_at hl 1 rfl) ?_
  obtain ⟨r3, hr3⟩ := bex (a < 0 ∨ 5 < a)
  refine c_P (As := [.int (iI a)]) (rest := [.int (iI r2), .int (iI r1), .ref (w 0)]) fx hl (pm_X3_isNo l a r3 hr3 (by omega)) dX3_withDay_13 k1113 k1114 k6 k1115 hd_X3_isNo rfl ⟨by decide, by decide⟩ (Nat.le_of_ble_eq_true rfl) ⟨by dsimp only; omega, by dsimp only; omega⟩ ?_
  have br3 : r3 = 0 ∨ r3 = 1 := hr3.elim (fun h => Or.inr h.1) (fun h => Or.inl h.1)
  refine q_ine (tgt := 38) hx hb dX3_withDay_16 (by decide) (by omega) (fun c4 => ?_) (fun c4 => ?_)
  · refine q_con hx hb dX3_withDay_38 ?_
    obtain ⟨t5, f6, hq1t5, hq2t5⟩ := fails_ex r1 r2 0 (by omega) (by omega) (by omega)
    have hmw : MWR θ S0 w s.heap r q dt sv th dn rf kn := ⟨hz, hu, hm, hd, hsv⟩
    refine c_M (w := w) (As := [.int (iI r1), .int (iI r2), .int (iI 0)]) (rest := []) (b := w 0) (C := RX3) fx hl (mw_fails θ l S0 _ w _ _ _ _ _ _ _ _ hmw r1 r2 0 t5 f6 (by omega) hq1t5 hq2t5) (ob_recv hK hm.1 rfl) dX3_withDay_39 k1119 k1121 ks10 k6 k1122 hd_X3_fails rfl ⟨by decide, by decide⟩ (Nat.le_of_ble_eq_true rfl) ⟨by dsimp only; omega, by dsimp only; omega⟩ hS (fun x hx => hx ▸ Or.inl (Or.inl rfl)) (fun H7 locs hmH7 hszH7 hk0H7 hS => ?_)
    have hkH7 : ∀ x : Nat, x < (s.heap).size → ¬ x = w 0 → H7[x]? = (s.heap)[x]? := hk0H7
    have hzH7 := hz0.at hAB hS
    have hltH7 := hmH7.lt
    refine q_ieq (tgt := 47) hx hb dX3_withDay_42 (by decide) (by omega) (fun c8 => ?_) (fun c8 => ?_)
    · exact (show False by omega).elim
    · refine q_con hx hb dX3_withDay_45 ?_
      obtain rfl : t5 = 1 := by omega
      have hmw : MWR θ S0 w H7 r q dt sv 1 dn rf kn := ⟨hzH7, hu, hmH7, hd, hsv⟩
      exact e_i hx hb hr hlk hS dX3_withDay_46 (Nat.le_of_ble_eq_true rfl) (Nat.le_of_ble_eq_true rfl) ⟨ex_i (by omega), r, q, by first | exact hmw | (subst_vars; exact hmw) | (simp only [inI_self, inI_1, inI_31] at hmw; subst_vars; exact hmw), by first | exact nw_rf | exact nw_up (by omega) | exact nw_up2 (by omega), by first | exact nw_rf | exact nw_up (by omega) | exact nw_up2 (by omega)⟩
  · exact (show False by omega).elim

set_option maxHeartbeats 4000000 in
set_option maxRecDepth 100000 in
theorem mno2_withDay (θ : TH) (l : Launch) (S0 : State) (H : Heap) (w : Nat → Nat) (r q : Nat → Nat) (dt : Nat → Int) (sv : Nat → Nat → Int) (th dn rf kn : Int) (hw : MWR θ S0 w H r q dt sv th dn rf kn) (a k : Int) (h_0 : -2147483648 ≤ a ∧ a < 2147483648) (h_1 : -2147483648 ≤ k ∧ k < 2147483648) (h_2 : 0 ≤ a ∧ a < 6) (h_3 : ¬ (1 ≤ k ∧ k ≤ 31)) : CT l yX3_withDay cX3_withDay 3 (some .int) 4 83 0 0 [.ref (w 0), .int (iI a), .int (iI k)] S0 H (fun v9 H1 => v9 = some (.int (iI 0)) ∧ ∃ r1 q1 : Nat → Nat, MWR θ S0 w H1 r1 q1 dt sv 2 dn rf kn ∧ NW 6 H.size r r1 ∧ NW 3 H.size q q1) (fun _ _ => False) (WA w H.size) := by
  refine ct_of (by decide +kernel) (Nat.le_of_ble_eq_true rfl) ?_
  intro pg en s mi args below meth co ls fx hs hr hlk hxt hin hl
  subst hs
  obtain ⟨hx, hb, hml, hown, hts⟩ := id fx.1
  have hS : va_S (WA w s.heap.size) s.heap s.heap [] := va_S.rf
  obtain ⟨hz, hu, hm, hd, hsv⟩ := id hw
  have hAB : ∀ x : Nat, (WA w s.heap.size) x → θ.2.2.2 ≤ x := wa_b hu hz.2.1
  have hz0 := hz
  have hK := sz_K fx.2 hz
  have hlt0 := hm.lt
  have hu1 := hu.1
  have hAn : ∀ x : Nat, s.heap.size ≤ x → (WA w s.heap.size) x := fun _ h => Or.inr h
  refine lv_aload_n hx hb dX3_withDay_0 rfl (lv_at hl 0 rfl) ?_
  refine lv_iload_n hx hb dX3_withDay_1 rfl (lv_at hl 1 rfl) ?_
  obtain ⟨r1, hr1⟩ := bex (a < 0 ∨ 5 < a)
  refine c_P (As := [.int (iI a)]) (rest := [.ref (w 0)]) fx hl (pm_X3_isNo l a r1 hr1 (by omega)) dX3_withDay_2 k1113 k1114 k6 k1115 hd_X3_isNo rfl ⟨by decide, by decide⟩ (Nat.le_of_ble_eq_true rfl) ⟨by dsimp only; omega, by dsimp only; omega⟩ ?_
  have br1 : r1 = 0 ∨ r1 = 1 := hr1.elim (fun h => Or.inr h.1) (fun h => Or.inl h.1)
  refine lv_iload_n hx hb dX3_withDay_5 rfl (lv_at hl 2 rfl) ?_
  refine q_con hx hb dX3_withDay_6 ?_
  refine q_bip hx hb dX3_withDay_7 (by decide) ?_
  obtain ⟨r2, hr2⟩ := bex (k < 1 ∨ 31 < k)
  refine c_P (As := [.int (iI k), .int (iI 1), .int (iI 31)]) (rest := [.int (iI r1), .ref (w 0)]) fx hl (pm_X3_isOut l k 1 31 r2 hr2 (by omega) (by omega) (by omega)) dX3_withDay_9 k1116 k1117 k6 k1118 hd_X3_isOut rfl ⟨by decide, by decide⟩ (Nat.le_of_ble_eq_true rfl) ⟨by dsimp only; omega, by dsimp only; omega⟩ ?_
  have br2 : r2 = 0 ∨ r2 = 1 := hr2.elim (fun h => Or.inr h.1) (fun h => Or.inl h.1)
  refine lv_iload_n hx hb dX3_withDay_12 rfl (lv_at hl 1 rfl) ?_
  obtain ⟨r3, hr3⟩ := bex (a < 0 ∨ 5 < a)
  refine c_P (As := [.int (iI a)]) (rest := [.int (iI r2), .int (iI r1), .ref (w 0)]) fx hl (pm_X3_isNo l a r3 hr3 (by omega)) dX3_withDay_13 k1113 k1114 k6 k1115 hd_X3_isNo rfl ⟨by decide, by decide⟩ (Nat.le_of_ble_eq_true rfl) ⟨by dsimp only; omega, by dsimp only; omega⟩ ?_
  have br3 : r3 = 0 ∨ r3 = 1 := hr3.elim (fun h => Or.inr h.1) (fun h => Or.inl h.1)
  refine q_ine (tgt := 38) hx hb dX3_withDay_16 (by decide) (by omega) (fun c4 => ?_) (fun c4 => ?_)
  · exact (show False by omega).elim
  · refine lv_iload_n hx hb dX3_withDay_19 rfl (lv_at hl 2 rfl) ?_
    refine lv_aload_n hx hb dX3_withDay_20 rfl (lv_at hl 0 rfl) ?_
    refine r_get (θ := θ) (C := RX3) (T := TX3) (N := 6) (ci := 9) hx hb hts gwX3 hown hK hm.1 rfl 4 (by decide) k1094 (fun _ h => h) (v := .ref (w 1)) rfl dX3_withDay_21 ?_
    refine lv_iload_n hx hb dX3_withDay_24 rfl (lv_at hl 1 rfl) ?_
    refine r_aald (θ := θ) hx hb hK hm.2.1 (i := a) (by omega) (by decide) dX3_withDay_25 ?_
    have rw5 := (hm.2.2.2.1 (a.toNat) (by omega)).1
    have rw5n := (hm.2.2.2.1 (a.toNat) (by omega)).2
    have rw5t := hd (a.toNat) (by omega)
    have rw5l := rw5.lt
    have rw5i := inR rw5t
    have rw5m := inM rw5i
    have rw5d := dI_b (dt a.toNat)
    refine q_con hx hb dX3_withDay_26 ?_
    refine r_iald (θ := θ) hx hb hK rw5 (i := 0) (by omega) (by decide) dX3_withDay_27 ?_
    refine q_as (mI (dt a.toNat)) rfl ?_
    refine c_H (As := [.int (iI (mI (dt a.toNat)))]) (rest := [.int (iI k), .int (iI r2), .int (iI r1), .ref (w 0)]) fx hl (pm_X3_length θ l S0 _ hz (mI (dt a.toNat)) (by omega)) dX3_withDay_28 k1085 k1086 k6 k1087 hd_X3_length rfl ⟨by decide, by decide⟩ (Nat.le_of_ble_eq_true rfl) ⟨by dsimp only; omega, by dsimp only; omega⟩ ?_
    refine q_nm (fun z6 ez6 => ?_)
    have t0z6 := len_b (mI (dt a.toNat))
    refine q_cle (tgt := 38) hx hb dX3_withDay_31 (by decide) (by omega) (by omega) (fun c7 => ?_) (fun c7 => ?_)
    · refine q_con hx hb dX3_withDay_38 ?_
      obtain ⟨t8, f9, hq1t8, hq2t8⟩ := fails_ex r1 r2 0 (by omega) (by omega) (by omega)
      have hmw : MWR θ S0 w s.heap r q dt sv th dn rf kn := ⟨hz, hu, hm, hd, hsv⟩
      refine c_M (w := w) (As := [.int (iI r1), .int (iI r2), .int (iI 0)]) (rest := []) (b := w 0) (C := RX3) fx hl (mw_fails θ l S0 _ w _ _ _ _ _ _ _ _ hmw r1 r2 0 t8 f9 (by omega) hq1t8 hq2t8) (ob_recv hK hm.1 rfl) dX3_withDay_39 k1119 k1121 ks10 k6 k1122 hd_X3_fails rfl ⟨by decide, by decide⟩ (Nat.le_of_ble_eq_true rfl) ⟨by dsimp only; omega, by dsimp only; omega⟩ hS (fun x hx => hx ▸ Or.inl (Or.inl rfl)) (fun H10 locs hmH10 hszH10 hk0H10 hS => ?_)
      have hkH10 : ∀ x : Nat, x < (s.heap).size → ¬ x = w 0 → H10[x]? = (s.heap)[x]? := hk0H10
      have hzH10 := hz0.at hAB hS
      have hltH10 := hmH10.lt
      refine q_ieq (tgt := 47) hx hb dX3_withDay_42 (by decide) (by omega) (fun c11 => ?_) (fun c11 => ?_)
      · exact (show False by omega).elim
      · refine q_con hx hb dX3_withDay_45 ?_
        obtain rfl : t8 = 2 := by omega
        have hmw : MWR θ S0 w H10 r q dt sv 2 dn rf kn := ⟨hzH10, hu, hmH10, hd, hsv⟩
        exact e_i hx hb hr hlk hS dX3_withDay_46 (Nat.le_of_ble_eq_true rfl) (Nat.le_of_ble_eq_true rfl) ⟨ex_i (by omega), r, q, by first | exact hmw | (subst_vars; exact hmw) | (simp only [inI_self, inI_1, inI_31] at hmw; subst_vars; exact hmw), by first | exact nw_rf | exact nw_up (by omega) | exact nw_up2 (by omega), by first | exact nw_rf | exact nw_up (by omega) | exact nw_up2 (by omega)⟩
    · refine q_con hx hb dX3_withDay_34 ?_
      refine lv_goto (tgt := 39) hx hb dX3_withDay_35 (by decide) ?_
      obtain ⟨t12, f13, hq1t12, hq2t12⟩ := fails_ex r1 r2 1 (by omega) (by omega) (by omega)
      have hmw : MWR θ S0 w s.heap r q dt sv th dn rf kn := ⟨hz, hu, hm, hd, hsv⟩
      refine c_M (w := w) (As := [.int (iI r1), .int (iI r2), .int (iI 1)]) (rest := []) (b := w 0) (C := RX3) fx hl (mw_fails θ l S0 _ w _ _ _ _ _ _ _ _ hmw r1 r2 1 t12 f13 (by omega) hq1t12 hq2t12) (ob_recv hK hm.1 rfl) dX3_withDay_39 k1119 k1121 ks10 k6 k1122 hd_X3_fails rfl ⟨by decide, by decide⟩ (Nat.le_of_ble_eq_true rfl) ⟨by dsimp only; omega, by dsimp only; omega⟩ hS (fun x hx => hx ▸ Or.inl (Or.inl rfl)) (fun H14 locs hmH14 hszH14 hk0H14 hS => ?_)
      have hkH14 : ∀ x : Nat, x < (s.heap).size → ¬ x = w 0 → H14[x]? = (s.heap)[x]? := hk0H14
      have hzH14 := hz0.at hAB hS
      have hltH14 := hmH14.lt
      refine q_ieq (tgt := 47) hx hb dX3_withDay_42 (by decide) (by omega) (fun c15 => ?_) (fun c15 => ?_)
      · exact (show False by omega).elim
      · refine q_con hx hb dX3_withDay_45 ?_
        obtain rfl : t12 = 2 := by omega
        have hmw : MWR θ S0 w H14 r q dt sv 2 dn rf kn := ⟨hzH14, hu, hmH14, hd, hsv⟩
        exact e_i hx hb hr hlk hS dX3_withDay_46 (Nat.le_of_ble_eq_true rfl) (Nat.le_of_ble_eq_true rfl) ⟨ex_i (by omega), r, q, by first | exact hmw | (subst_vars; exact hmw) | (simp only [inI_self, inI_1, inI_31] at hmw; subst_vars; exact hmw), by first | exact nw_rf | exact nw_up (by omega) | exact nw_up2 (by omega), by first | exact nw_rf | exact nw_up (by omega) | exact nw_up2 (by omega)⟩

set_option maxHeartbeats 4000000 in
set_option maxRecDepth 100000 in
theorem mno3_withDay (θ : TH) (l : Launch) (S0 : State) (H : Heap) (w : Nat → Nat) (r q : Nat → Nat) (dt : Nat → Int) (sv : Nat → Nat → Int) (th dn rf kn : Int) (hw : MWR θ S0 w H r q dt sv th dn rf kn) (a k : Int) (h_0 : -2147483648 ≤ a ∧ a < 2147483648) (h_1 : -2147483648 ≤ k ∧ k < 2147483648) (h_2 : 0 ≤ a ∧ a < 6) (h_3 : 1 ≤ k ∧ k ≤ 31) (h_4 : ¬ (k ≤ fI (mI (dt a.toNat) + 1) - fI (mI (dt a.toNat)))) : CT l yX3_withDay cX3_withDay 3 (some .int) 4 83 0 0 [.ref (w 0), .int (iI a), .int (iI k)] S0 H (fun v9 H1 => v9 = some (.int (iI 0)) ∧ ∃ r1 q1 : Nat → Nat, MWR θ S0 w H1 r1 q1 dt sv 3 dn rf kn ∧ NW 6 H.size r r1 ∧ NW 3 H.size q q1) (fun _ _ => False) (WA w H.size) := by
  refine ct_of (by decide +kernel) (Nat.le_of_ble_eq_true rfl) ?_
  intro pg en s mi args below meth co ls fx hs hr hlk hxt hin hl
  subst hs
  obtain ⟨hx, hb, hml, hown, hts⟩ := id fx.1
  have hS : va_S (WA w s.heap.size) s.heap s.heap [] := va_S.rf
  obtain ⟨hz, hu, hm, hd, hsv⟩ := id hw
  have hAB : ∀ x : Nat, (WA w s.heap.size) x → θ.2.2.2 ≤ x := wa_b hu hz.2.1
  have hz0 := hz
  have hK := sz_K fx.2 hz
  have hlt0 := hm.lt
  have hu1 := hu.1
  have hAn : ∀ x : Nat, s.heap.size ≤ x → (WA w s.heap.size) x := fun _ h => Or.inr h
  refine lv_aload_n hx hb dX3_withDay_0 rfl (lv_at hl 0 rfl) ?_
  refine lv_iload_n hx hb dX3_withDay_1 rfl (lv_at hl 1 rfl) ?_
  obtain ⟨r1, hr1⟩ := bex (a < 0 ∨ 5 < a)
  refine c_P (As := [.int (iI a)]) (rest := [.ref (w 0)]) fx hl (pm_X3_isNo l a r1 hr1 (by omega)) dX3_withDay_2 k1113 k1114 k6 k1115 hd_X3_isNo rfl ⟨by decide, by decide⟩ (Nat.le_of_ble_eq_true rfl) ⟨by dsimp only; omega, by dsimp only; omega⟩ ?_
  have br1 : r1 = 0 ∨ r1 = 1 := hr1.elim (fun h => Or.inr h.1) (fun h => Or.inl h.1)
  refine lv_iload_n hx hb dX3_withDay_5 rfl (lv_at hl 2 rfl) ?_
  refine q_con hx hb dX3_withDay_6 ?_
  refine q_bip hx hb dX3_withDay_7 (by decide) ?_
  obtain ⟨r2, hr2⟩ := bex (k < 1 ∨ 31 < k)
  refine c_P (As := [.int (iI k), .int (iI 1), .int (iI 31)]) (rest := [.int (iI r1), .ref (w 0)]) fx hl (pm_X3_isOut l k 1 31 r2 hr2 (by omega) (by omega) (by omega)) dX3_withDay_9 k1116 k1117 k6 k1118 hd_X3_isOut rfl ⟨by decide, by decide⟩ (Nat.le_of_ble_eq_true rfl) ⟨by dsimp only; omega, by dsimp only; omega⟩ ?_
  have br2 : r2 = 0 ∨ r2 = 1 := hr2.elim (fun h => Or.inr h.1) (fun h => Or.inl h.1)
  refine lv_iload_n hx hb dX3_withDay_12 rfl (lv_at hl 1 rfl) ?_
  obtain ⟨r3, hr3⟩ := bex (a < 0 ∨ 5 < a)
  refine c_P (As := [.int (iI a)]) (rest := [.int (iI r2), .int (iI r1), .ref (w 0)]) fx hl (pm_X3_isNo l a r3 hr3 (by omega)) dX3_withDay_13 k1113 k1114 k6 k1115 hd_X3_isNo rfl ⟨by decide, by decide⟩ (Nat.le_of_ble_eq_true rfl) ⟨by dsimp only; omega, by dsimp only; omega⟩ ?_
  have br3 : r3 = 0 ∨ r3 = 1 := hr3.elim (fun h => Or.inr h.1) (fun h => Or.inl h.1)
  refine q_ine (tgt := 38) hx hb dX3_withDay_16 (by decide) (by omega) (fun c4 => ?_) (fun c4 => ?_)
  · exact (show False by omega).elim
  · refine lv_iload_n hx hb dX3_withDay_19 rfl (lv_at hl 2 rfl) ?_
    refine lv_aload_n hx hb dX3_withDay_20 rfl (lv_at hl 0 rfl) ?_
    refine r_get (θ := θ) (C := RX3) (T := TX3) (N := 6) (ci := 9) hx hb hts gwX3 hown hK hm.1 rfl 4 (by decide) k1094 (fun _ h => h) (v := .ref (w 1)) rfl dX3_withDay_21 ?_
    refine lv_iload_n hx hb dX3_withDay_24 rfl (lv_at hl 1 rfl) ?_
    refine r_aald (θ := θ) hx hb hK hm.2.1 (i := a) (by omega) (by decide) dX3_withDay_25 ?_
    have rw5 := (hm.2.2.2.1 (a.toNat) (by omega)).1
    have rw5n := (hm.2.2.2.1 (a.toNat) (by omega)).2
    have rw5t := hd (a.toNat) (by omega)
    have rw5l := rw5.lt
    have rw5i := inR rw5t
    have rw5m := inM rw5i
    have rw5d := dI_b (dt a.toNat)
    refine q_con hx hb dX3_withDay_26 ?_
    refine r_iald (θ := θ) hx hb hK rw5 (i := 0) (by omega) (by decide) dX3_withDay_27 ?_
    refine q_as (mI (dt a.toNat)) rfl ?_
    refine c_H (As := [.int (iI (mI (dt a.toNat)))]) (rest := [.int (iI k), .int (iI r2), .int (iI r1), .ref (w 0)]) fx hl (pm_X3_length θ l S0 _ hz (mI (dt a.toNat)) (by omega)) dX3_withDay_28 k1085 k1086 k6 k1087 hd_X3_length rfl ⟨by decide, by decide⟩ (Nat.le_of_ble_eq_true rfl) ⟨by dsimp only; omega, by dsimp only; omega⟩ ?_
    refine q_nm (fun z6 ez6 => ?_)
    have t0z6 := len_b (mI (dt a.toNat))
    refine q_cle (tgt := 38) hx hb dX3_withDay_31 (by decide) (by omega) (by omega) (fun c7 => ?_) (fun c7 => ?_)
    · refine q_con hx hb dX3_withDay_38 ?_
      obtain ⟨t8, f9, hq1t8, hq2t8⟩ := fails_ex r1 r2 0 (by omega) (by omega) (by omega)
      have hmw : MWR θ S0 w s.heap r q dt sv th dn rf kn := ⟨hz, hu, hm, hd, hsv⟩
      refine c_M (w := w) (As := [.int (iI r1), .int (iI r2), .int (iI 0)]) (rest := []) (b := w 0) (C := RX3) fx hl (mw_fails θ l S0 _ w _ _ _ _ _ _ _ _ hmw r1 r2 0 t8 f9 (by omega) hq1t8 hq2t8) (ob_recv hK hm.1 rfl) dX3_withDay_39 k1119 k1121 ks10 k6 k1122 hd_X3_fails rfl ⟨by decide, by decide⟩ (Nat.le_of_ble_eq_true rfl) ⟨by dsimp only; omega, by dsimp only; omega⟩ hS (fun x hx => hx ▸ Or.inl (Or.inl rfl)) (fun H10 locs hmH10 hszH10 hk0H10 hS => ?_)
      have hkH10 : ∀ x : Nat, x < (s.heap).size → ¬ x = w 0 → H10[x]? = (s.heap)[x]? := hk0H10
      have hzH10 := hz0.at hAB hS
      have hltH10 := hmH10.lt
      refine q_ieq (tgt := 47) hx hb dX3_withDay_42 (by decide) (by omega) (fun c11 => ?_) (fun c11 => ?_)
      · exact (show False by omega).elim
      · refine q_con hx hb dX3_withDay_45 ?_
        obtain rfl : t8 = 3 := by omega
        have hmw : MWR θ S0 w H10 r q dt sv 3 dn rf kn := ⟨hzH10, hu, hmH10, hd, hsv⟩
        exact e_i hx hb hr hlk hS dX3_withDay_46 (Nat.le_of_ble_eq_true rfl) (Nat.le_of_ble_eq_true rfl) ⟨ex_i (by omega), r, q, by first | exact hmw | (subst_vars; exact hmw) | (simp only [inI_self, inI_1, inI_31] at hmw; subst_vars; exact hmw), by first | exact nw_rf | exact nw_up (by omega) | exact nw_up2 (by omega), by first | exact nw_rf | exact nw_up (by omega) | exact nw_up2 (by omega)⟩
    · refine q_con hx hb dX3_withDay_34 ?_
      refine lv_goto (tgt := 39) hx hb dX3_withDay_35 (by decide) ?_
      obtain ⟨t12, f13, hq1t12, hq2t12⟩ := fails_ex r1 r2 1 (by omega) (by omega) (by omega)
      have hmw : MWR θ S0 w s.heap r q dt sv th dn rf kn := ⟨hz, hu, hm, hd, hsv⟩
      refine c_M (w := w) (As := [.int (iI r1), .int (iI r2), .int (iI 1)]) (rest := []) (b := w 0) (C := RX3) fx hl (mw_fails θ l S0 _ w _ _ _ _ _ _ _ _ hmw r1 r2 1 t12 f13 (by omega) hq1t12 hq2t12) (ob_recv hK hm.1 rfl) dX3_withDay_39 k1119 k1121 ks10 k6 k1122 hd_X3_fails rfl ⟨by decide, by decide⟩ (Nat.le_of_ble_eq_true rfl) ⟨by dsimp only; omega, by dsimp only; omega⟩ hS (fun x hx => hx ▸ Or.inl (Or.inl rfl)) (fun H14 locs hmH14 hszH14 hk0H14 hS => ?_)
      have hkH14 : ∀ x : Nat, x < (s.heap).size → ¬ x = w 0 → H14[x]? = (s.heap)[x]? := hk0H14
      have hzH14 := hz0.at hAB hS
      have hltH14 := hmH14.lt
      refine q_ieq (tgt := 47) hx hb dX3_withDay_42 (by decide) (by omega) (fun c15 => ?_) (fun c15 => ?_)
      · exact (show False by omega).elim
      · refine q_con hx hb dX3_withDay_45 ?_
        obtain rfl : t12 = 3 := by omega
        have hmw : MWR θ S0 w H14 r q dt sv 3 dn rf kn := ⟨hzH14, hu, hmH14, hd, hsv⟩
        exact e_i hx hb hr hlk hS dX3_withDay_46 (Nat.le_of_ble_eq_true rfl) (Nat.le_of_ble_eq_true rfl) ⟨ex_i (by omega), r, q, by first | exact hmw | (subst_vars; exact hmw) | (simp only [inI_self, inI_1, inI_31] at hmw; subst_vars; exact hmw), by first | exact nw_rf | exact nw_up (by omega) | exact nw_up2 (by omega), by first | exact nw_rf | exact nw_up (by omega) | exact nw_up2 (by omega)⟩

set_option maxHeartbeats 4000000 in
set_option maxRecDepth 100000 in
theorem mok_shift (θ : TH) (l : Launch) (S0 : State) (H : Heap) (w : Nat → Nat) (r q : Nat → Nat) (dt : Nat → Int) (sv : Nat → Nat → Int) (th dn rf kn : Int) (hw : MWR θ S0 w H r q dt sv th dn rf kn) (a n : Int) (h_0 : -2147483648 ≤ a ∧ a < 2147483648) (h_1 : -2147483648 ≤ n ∧ n < 2147483648) (h_2 : 0 ≤ a ∧ a < 6) (h_3 : -240000 ≤ n ∧ n ≤ 240000) (h_4 : -4371587 ≤ shI (dt a.toNat) n ∧ shI (dt a.toNat) n ≤ 2932896) : CT l yX3_shift cX3_shift 3 (some .int) 8 170 1 2 [.ref (w 0), .int (iI a), .int (iI n)] S0 H (fun v9 H1 => v9 = some (.int (iI (dI (shI (dt a.toNat) n)))) ∧ ∃ r1 q1 : Nat → Nat, MWR θ S0 w H1 r1 q1 (up dt a.toNat (shI (dt a.toNat) n)) sv 0 (dn + 1) rf kn ∧ NW 6 H.size r r1 ∧ NW 3 H.size q q1) (fun _ _ => False) (WA w H.size) := by
  refine ct_of (by decide +kernel) (Nat.le_of_ble_eq_true rfl) ?_
  intro pg en s mi args below meth co ls fx hs hr hlk hxt hin hl
  subst hs
  obtain ⟨hx, hb, hml, hown, hts⟩ := id fx.1
  have hS : va_S (WA w s.heap.size) s.heap s.heap [] := va_S.rf
  obtain ⟨hz, hu, hm, hd, hsv⟩ := id hw
  have hAB : ∀ x : Nat, (WA w s.heap.size) x → θ.2.2.2 ≤ x := wa_b hu hz.2.1
  have hz0 := hz
  have hK := sz_K fx.2 hz
  have hlt0 := hm.lt
  have hu1 := hu.1
  have hAn : ∀ x : Nat, s.heap.size ≤ x → (WA w s.heap.size) x := fun _ h => Or.inr h
  refine lv_aload_n hx hb dX3_shift_0 rfl (lv_at hl 0 rfl) ?_
  refine lv_iload_n hx hb dX3_shift_1 rfl (lv_at hl 1 rfl) ?_
  obtain ⟨r1, hr1⟩ := bex (a < 0 ∨ 5 < a)
  refine c_P (As := [.int (iI a)]) (rest := [.ref (w 0)]) fx hl (pm_X3_isNo l a r1 hr1 (by omega)) dX3_shift_2 k1113 k1114 k6 k1115 hd_X3_isNo rfl ⟨by decide, by decide⟩ (Nat.le_of_ble_eq_true rfl) ⟨by dsimp only; omega, by dsimp only; omega⟩ ?_
  have br1 : r1 = 0 ∨ r1 = 1 := hr1.elim (fun h => Or.inr h.1) (fun h => Or.inl h.1)
  refine lv_iload_n hx hb dX3_shift_5 rfl (lv_at hl 2 rfl) ?_
  refine q_ldc (n := -240000) hx hb hown (hts _ k1181) (by decide) dX3_shift_6 ?_
  refine q_ldc (n := 240000) hx hb hown (hts _ k1182) (by decide) dX3_shift_8 ?_
  obtain ⟨r2, hr2⟩ := bex (n < (-240000) ∨ 240000 < n)
  refine c_P (As := [.int (iI n), .int (iI (-240000)), .int (iI 240000)]) (rest := [.int (iI r1), .ref (w 0)]) fx hl (pm_X3_isOut l n (-240000) 240000 r2 hr2 (by omega) (by omega) (by omega)) dX3_shift_10 k1116 k1117 k6 k1118 hd_X3_isOut rfl ⟨by decide, by decide⟩ (Nat.le_of_ble_eq_true rfl) ⟨by dsimp only; omega, by dsimp only; omega⟩ ?_
  have br2 : r2 = 0 ∨ r2 = 1 := hr2.elim (fun h => Or.inr h.1) (fun h => Or.inl h.1)
  refine q_con hx hb dX3_shift_13 ?_
  obtain ⟨t3, f4, hq1t3, hq2t3⟩ := fails_ex r1 r2 0 (by omega) (by omega) (by omega)
  have hmw : MWR θ S0 w s.heap r q dt sv th dn rf kn := ⟨hz, hu, hm, hd, hsv⟩
  refine c_M (w := w) (As := [.int (iI r1), .int (iI r2), .int (iI 0)]) (rest := []) (b := w 0) (C := RX3) fx hl (mw_fails θ l S0 _ w _ _ _ _ _ _ _ _ hmw r1 r2 0 t3 f4 (by omega) hq1t3 hq2t3) (ob_recv hK hm.1 rfl) dX3_shift_14 k1119 k1121 ks10 k6 k1122 hd_X3_fails rfl ⟨by decide, by decide⟩ (Nat.le_of_ble_eq_true rfl) ⟨by dsimp only; omega, by dsimp only; omega⟩ hS (fun x hx => hx ▸ Or.inl (Or.inl rfl)) (fun H5 locs hmH5 hszH5 hk0H5 hS => ?_)
  have hkH5 : ∀ x : Nat, x < (s.heap).size → ¬ x = w 0 → H5[x]? = (s.heap)[x]? := hk0H5
  have hzH5 := hz0.at hAB hS
  have hltH5 := hmH5.lt
  refine q_ieq (tgt := 22) hx hb dX3_shift_17 (by decide) (by omega) (fun c6 => ?_) (fun c6 => ?_)
  · refine lv_aload_n hx hb dX3_shift_22 rfl (lv_at hl 0 rfl) ?_
    refine lv_iload_n hx hb dX3_shift_23 rfl (lv_at hl 1 rfl) ?_
    refine lv_aload_n hx hb dX3_shift_24 rfl (lv_at hl 0 rfl) ?_
    refine r_get (θ := θ) (C := RX3) (T := TX3) (N := 6) (ci := 9) hx hb hts gwX3 hown hK hmH5.1 rfl 4 (by decide) k1094 (fun _ h => h) (v := .ref (w 1)) rfl dX3_shift_25 ?_
    refine lv_iload_n hx hb dX3_shift_28 rfl (lv_at hl 1 rfl) ?_
    refine r_aald (θ := θ) hx hb hK hmH5.2.1 (i := a) (by omega) (by decide) dX3_shift_29 ?_
    have rw7 := (hmH5.2.2.2.1 (a.toNat) (by omega)).1
    have rw7n := (hmH5.2.2.2.1 (a.toNat) (by omega)).2
    have rw7t := hd (a.toNat) (by omega)
    have rw7l := rw7.lt
    have rw7i := inR rw7t
    have rw7m := inM rw7i
    have rw7d := dI_b (dt a.toNat)
    refine lv_iload_n hx hb dX3_shift_30 rfl (lv_at hl 2 rfl) ?_
    refine c_NR (θ := θ) (As := [.ref (r a.toNat), .int (iI n)]) (rest := [.int (iI a), .ref (w 0)]) fx hl (pm_X3_shifted θ l S0 _ hzH5 (r a.toNat) n (dt a.toNat) rw7 (by omega) (by omega)) dX3_shift_31 k1183 k1184 k6 k1185 hd_X3_shifted rfl ⟨by decide, by decide⟩ (Nat.le_of_ble_eq_true rfl) ⟨by dsimp only; omega, by dsimp only; omega⟩ hS (fun x hx => hAn x (Nat.le_trans hS.1 hx)) (fun q9 H8 locs hqH8 haH8 hszH8 hkH8 hS => ?_)
    have rw7_H8 := rw7.kept (hkH8 _ rw7.lt)
    have hzH8 := hz0.at hAB hS
    have hmH8 := hmH5.kept hkH8
    have hltH8 := haH8.lt
    have t0q9 := shI_s (dt a.toNat) n
    have t1q9 := shI_bd (dt a.toNat) n
    refine q_con hx hb dX3_shift_34 ?_
    have hmw : MWR θ S0 w H8 r q dt sv t3 dn rf kn := ⟨hzH8, hu, hmH8, hd, hsv⟩
    refine c_M (w := w) (As := [.int (iI a), .ref q9, .int (iI 3)]) (rest := []) (b := w 0) (C := RX3) fx hl (mw_become_ok θ l S0 _ w _ _ _ _ _ _ _ _ hmw a q9 3 (shI (dt a.toNat) n) haH8 ⟨by omega, by omega, by omega⟩ (by omega) (by omega) (by omega)) (ob_recv hK hmH8.1 rfl) dX3_shift_35 k1126 k1128 ks11 k6 k1129 hd_X3_become rfl ⟨by decide, by decide⟩ (Nat.le_of_ble_eq_true rfl) ⟨by dsimp only; omega, by dsimp only; omega⟩ hS (fun x hx => hx.elim (fun e => Or.inl (Or.inl e)) (fun e => Or.inl (Or.inr (Or.inl e)))) (fun H10 locs hmH10 hszH10 hk0H10 hS => ?_)
    have hkH10 : ∀ x : Nat, x < (H8).size → ¬ (x = w 0 ∨ x = w 1) → H10[x]? = (H8)[x]? := hk0H10
    have haH8_H10 := haH8.kept (hkH10 _ haH8.lt (by omega))
    have hzH10 := hz0.at hAB hS
    have hltH10 := hmH10.lt
    refine q_ieq (tgt := 52) hx hb dX3_shift_38 (by decide) (by omega) (fun c11 => ?_) (fun c11 => ?_)
    · exact (show False by omega).elim
    · refine lv_aload_n hx hb dX3_shift_41 rfl (lv_at hl 0 rfl) ?_
      refine r_get (θ := θ) (C := RX3) (T := TX3) (N := 6) (ci := 9) hx hb hts gwX3 hown hK hmH10.1 rfl 4 (by decide) k1094 (fun _ h => h) (v := .ref (w 1)) rfl dX3_shift_42 ?_
      refine lv_iload_n hx hb dX3_shift_45 rfl (lv_at hl 1 rfl) ?_
      refine r_aald (θ := θ) hx hb hK hmH10.2.1 (i := a) (by omega) (by decide) dX3_shift_46 ?_
      have rw12 := (hmH10.2.2.2.1 (a.toNat) (by omega)).1
      have rw12n := (hmH10.2.2.2.1 (a.toNat) (by omega)).2
      have rw12l := rw12.lt
      refine q_con hx hb dX3_shift_47 ?_
      refine r_iald (θ := θ) hx hb hK rw12 (i := 1) (by omega) (by decide) dX3_shift_48 ?_
      refine q_as (dI ((up dt (Int.toNat a) (shI (dt a.toNat) n)) a.toNat)) rfl ?_
      refine lv_goto (tgt := 53) hx hb dX3_shift_49 (by decide) ?_
      obtain rfl : t3 = 0 := by omega
      have hmw : MWR θ S0 w H10 (up r (Int.toNat a) q9) q (up dt (Int.toNat a) (shI (dt a.toNat) n)) sv 0 (dn + 1) rf kn := ⟨hzH10, hu, hmH10, (fun j hj => by have h9 := hd j hj; show -4371587 ≤ _ ∧ _; simp only [up]; (split <;> omega)), hsv⟩
      exact e_i hx hb hr hlk hS dX3_shift_53 (Nat.le_of_ble_eq_true rfl) (Nat.le_of_ble_eq_true rfl) ⟨ex_i (by subst_vars; first | omega | (simp only [up_s, inI_self, inI_1, inI_31]; done) | (simp only [up_s, inI_self, inI_1, inI_31]; omega) | (simp only [up_s, inI_self, inI_1, inI_31]; subst_vars; first | rfl | omega)), (up r (Int.toNat a) q9), q, by first | exact hmw | (subst_vars; exact hmw) | (simp only [inI_self, inI_1, inI_31] at hmw; subst_vars; exact hmw), by first | exact nw_rf | exact nw_up (by omega) | exact nw_up2 (by omega), by first | exact nw_rf | exact nw_up (by omega) | exact nw_up2 (by omega)⟩
  · exact (show False by omega).elim

set_option maxHeartbeats 4000000 in
set_option maxRecDepth 100000 in
theorem mno1_shift (θ : TH) (l : Launch) (S0 : State) (H : Heap) (w : Nat → Nat) (r q : Nat → Nat) (dt : Nat → Int) (sv : Nat → Nat → Int) (th dn rf kn : Int) (hw : MWR θ S0 w H r q dt sv th dn rf kn) (a n : Int) (h_0 : -2147483648 ≤ a ∧ a < 2147483648) (h_1 : -2147483648 ≤ n ∧ n < 2147483648) (h_2 : ¬ (0 ≤ a ∧ a < 6)) : CT l yX3_shift cX3_shift 3 (some .int) 2 42 0 0 [.ref (w 0), .int (iI a), .int (iI n)] S0 H (fun v9 H1 => v9 = some (.int (iI 0)) ∧ ∃ r1 q1 : Nat → Nat, MWR θ S0 w H1 r1 q1 dt sv 1 dn rf kn ∧ NW 6 H.size r r1 ∧ NW 3 H.size q q1) (fun _ _ => False) (WA w H.size) := by
  refine ct_of (by decide +kernel) (Nat.le_of_ble_eq_true rfl) ?_
  intro pg en s mi args below meth co ls fx hs hr hlk hxt hin hl
  subst hs
  obtain ⟨hx, hb, hml, hown, hts⟩ := id fx.1
  have hS : va_S (WA w s.heap.size) s.heap s.heap [] := va_S.rf
  obtain ⟨hz, hu, hm, hd, hsv⟩ := id hw
  have hAB : ∀ x : Nat, (WA w s.heap.size) x → θ.2.2.2 ≤ x := wa_b hu hz.2.1
  have hz0 := hz
  have hK := sz_K fx.2 hz
  have hlt0 := hm.lt
  have hu1 := hu.1
  have hAn : ∀ x : Nat, s.heap.size ≤ x → (WA w s.heap.size) x := fun _ h => Or.inr h
  refine lv_aload_n hx hb dX3_shift_0 rfl (lv_at hl 0 rfl) ?_
  refine lv_iload_n hx hb dX3_shift_1 rfl (lv_at hl 1 rfl) ?_
  obtain ⟨r1, hr1⟩ := bex (a < 0 ∨ 5 < a)
  refine c_P (As := [.int (iI a)]) (rest := [.ref (w 0)]) fx hl (pm_X3_isNo l a r1 hr1 (by omega)) dX3_shift_2 k1113 k1114 k6 k1115 hd_X3_isNo rfl ⟨by decide, by decide⟩ (Nat.le_of_ble_eq_true rfl) ⟨by dsimp only; omega, by dsimp only; omega⟩ ?_
  have br1 : r1 = 0 ∨ r1 = 1 := hr1.elim (fun h => Or.inr h.1) (fun h => Or.inl h.1)
  refine lv_iload_n hx hb dX3_shift_5 rfl (lv_at hl 2 rfl) ?_
  refine q_ldc (n := -240000) hx hb hown (hts _ k1181) (by decide) dX3_shift_6 ?_
  refine q_ldc (n := 240000) hx hb hown (hts _ k1182) (by decide) dX3_shift_8 ?_
  obtain ⟨r2, hr2⟩ := bex (n < (-240000) ∨ 240000 < n)
  refine c_P (As := [.int (iI n), .int (iI (-240000)), .int (iI 240000)]) (rest := [.int (iI r1), .ref (w 0)]) fx hl (pm_X3_isOut l n (-240000) 240000 r2 hr2 (by omega) (by omega) (by omega)) dX3_shift_10 k1116 k1117 k6 k1118 hd_X3_isOut rfl ⟨by decide, by decide⟩ (Nat.le_of_ble_eq_true rfl) ⟨by dsimp only; omega, by dsimp only; omega⟩ ?_
  have br2 : r2 = 0 ∨ r2 = 1 := hr2.elim (fun h => Or.inr h.1) (fun h => Or.inl h.1)
  refine q_con hx hb dX3_shift_13 ?_
  obtain ⟨t3, f4, hq1t3, hq2t3⟩ := fails_ex r1 r2 0 (by omega) (by omega) (by omega)
  have hmw : MWR θ S0 w s.heap r q dt sv th dn rf kn := ⟨hz, hu, hm, hd, hsv⟩
  refine c_M (w := w) (As := [.int (iI r1), .int (iI r2), .int (iI 0)]) (rest := []) (b := w 0) (C := RX3) fx hl (mw_fails θ l S0 _ w _ _ _ _ _ _ _ _ hmw r1 r2 0 t3 f4 (by omega) hq1t3 hq2t3) (ob_recv hK hm.1 rfl) dX3_shift_14 k1119 k1121 ks10 k6 k1122 hd_X3_fails rfl ⟨by decide, by decide⟩ (Nat.le_of_ble_eq_true rfl) ⟨by dsimp only; omega, by dsimp only; omega⟩ hS (fun x hx => hx ▸ Or.inl (Or.inl rfl)) (fun H5 locs hmH5 hszH5 hk0H5 hS => ?_)
  have hkH5 : ∀ x : Nat, x < (s.heap).size → ¬ x = w 0 → H5[x]? = (s.heap)[x]? := hk0H5
  have hzH5 := hz0.at hAB hS
  have hltH5 := hmH5.lt
  refine q_ieq (tgt := 22) hx hb dX3_shift_17 (by decide) (by omega) (fun c6 => ?_) (fun c6 => ?_)
  · exact (show False by omega).elim
  · refine q_con hx hb dX3_shift_20 ?_
    obtain rfl : t3 = 1 := by omega
    have hmw : MWR θ S0 w H5 r q dt sv 1 dn rf kn := ⟨hzH5, hu, hmH5, hd, hsv⟩
    exact e_i hx hb hr hlk hS dX3_shift_21 (Nat.le_of_ble_eq_true rfl) (Nat.le_of_ble_eq_true rfl) ⟨ex_i (by omega), r, q, by first | exact hmw | (subst_vars; exact hmw) | (simp only [inI_self, inI_1, inI_31] at hmw; subst_vars; exact hmw), by first | exact nw_rf | exact nw_up (by omega) | exact nw_up2 (by omega), by first | exact nw_rf | exact nw_up (by omega) | exact nw_up2 (by omega)⟩

set_option maxHeartbeats 4000000 in
set_option maxRecDepth 100000 in
theorem mno2_shift (θ : TH) (l : Launch) (S0 : State) (H : Heap) (w : Nat → Nat) (r q : Nat → Nat) (dt : Nat → Int) (sv : Nat → Nat → Int) (th dn rf kn : Int) (hw : MWR θ S0 w H r q dt sv th dn rf kn) (a n : Int) (h_0 : -2147483648 ≤ a ∧ a < 2147483648) (h_1 : -2147483648 ≤ n ∧ n < 2147483648) (h_2 : 0 ≤ a ∧ a < 6) (h_3 : ¬ (-240000 ≤ n ∧ n ≤ 240000)) : CT l yX3_shift cX3_shift 3 (some .int) 2 42 0 0 [.ref (w 0), .int (iI a), .int (iI n)] S0 H (fun v9 H1 => v9 = some (.int (iI 0)) ∧ ∃ r1 q1 : Nat → Nat, MWR θ S0 w H1 r1 q1 dt sv 2 dn rf kn ∧ NW 6 H.size r r1 ∧ NW 3 H.size q q1) (fun _ _ => False) (WA w H.size) := by
  refine ct_of (by decide +kernel) (Nat.le_of_ble_eq_true rfl) ?_
  intro pg en s mi args below meth co ls fx hs hr hlk hxt hin hl
  subst hs
  obtain ⟨hx, hb, hml, hown, hts⟩ := id fx.1
  have hS : va_S (WA w s.heap.size) s.heap s.heap [] := va_S.rf
  obtain ⟨hz, hu, hm, hd, hsv⟩ := id hw
  have hAB : ∀ x : Nat, (WA w s.heap.size) x → θ.2.2.2 ≤ x := wa_b hu hz.2.1
  have hz0 := hz
  have hK := sz_K fx.2 hz
  have hlt0 := hm.lt
  have hu1 := hu.1
  have hAn : ∀ x : Nat, s.heap.size ≤ x → (WA w s.heap.size) x := fun _ h => Or.inr h
  refine lv_aload_n hx hb dX3_shift_0 rfl (lv_at hl 0 rfl) ?_
  refine lv_iload_n hx hb dX3_shift_1 rfl (lv_at hl 1 rfl) ?_
  obtain ⟨r1, hr1⟩ := bex (a < 0 ∨ 5 < a)
  refine c_P (As := [.int (iI a)]) (rest := [.ref (w 0)]) fx hl (pm_X3_isNo l a r1 hr1 (by omega)) dX3_shift_2 k1113 k1114 k6 k1115 hd_X3_isNo rfl ⟨by decide, by decide⟩ (Nat.le_of_ble_eq_true rfl) ⟨by dsimp only; omega, by dsimp only; omega⟩ ?_
  have br1 : r1 = 0 ∨ r1 = 1 := hr1.elim (fun h => Or.inr h.1) (fun h => Or.inl h.1)
  refine lv_iload_n hx hb dX3_shift_5 rfl (lv_at hl 2 rfl) ?_
  refine q_ldc (n := -240000) hx hb hown (hts _ k1181) (by decide) dX3_shift_6 ?_
  refine q_ldc (n := 240000) hx hb hown (hts _ k1182) (by decide) dX3_shift_8 ?_
  obtain ⟨r2, hr2⟩ := bex (n < (-240000) ∨ 240000 < n)
  refine c_P (As := [.int (iI n), .int (iI (-240000)), .int (iI 240000)]) (rest := [.int (iI r1), .ref (w 0)]) fx hl (pm_X3_isOut l n (-240000) 240000 r2 hr2 (by omega) (by omega) (by omega)) dX3_shift_10 k1116 k1117 k6 k1118 hd_X3_isOut rfl ⟨by decide, by decide⟩ (Nat.le_of_ble_eq_true rfl) ⟨by dsimp only; omega, by dsimp only; omega⟩ ?_
  have br2 : r2 = 0 ∨ r2 = 1 := hr2.elim (fun h => Or.inr h.1) (fun h => Or.inl h.1)
  refine q_con hx hb dX3_shift_13 ?_
  obtain ⟨t3, f4, hq1t3, hq2t3⟩ := fails_ex r1 r2 0 (by omega) (by omega) (by omega)
  have hmw : MWR θ S0 w s.heap r q dt sv th dn rf kn := ⟨hz, hu, hm, hd, hsv⟩
  refine c_M (w := w) (As := [.int (iI r1), .int (iI r2), .int (iI 0)]) (rest := []) (b := w 0) (C := RX3) fx hl (mw_fails θ l S0 _ w _ _ _ _ _ _ _ _ hmw r1 r2 0 t3 f4 (by omega) hq1t3 hq2t3) (ob_recv hK hm.1 rfl) dX3_shift_14 k1119 k1121 ks10 k6 k1122 hd_X3_fails rfl ⟨by decide, by decide⟩ (Nat.le_of_ble_eq_true rfl) ⟨by dsimp only; omega, by dsimp only; omega⟩ hS (fun x hx => hx ▸ Or.inl (Or.inl rfl)) (fun H5 locs hmH5 hszH5 hk0H5 hS => ?_)
  have hkH5 : ∀ x : Nat, x < (s.heap).size → ¬ x = w 0 → H5[x]? = (s.heap)[x]? := hk0H5
  have hzH5 := hz0.at hAB hS
  have hltH5 := hmH5.lt
  refine q_ieq (tgt := 22) hx hb dX3_shift_17 (by decide) (by omega) (fun c6 => ?_) (fun c6 => ?_)
  · exact (show False by omega).elim
  · refine q_con hx hb dX3_shift_20 ?_
    obtain rfl : t3 = 2 := by omega
    have hmw : MWR θ S0 w H5 r q dt sv 2 dn rf kn := ⟨hzH5, hu, hmH5, hd, hsv⟩
    exact e_i hx hb hr hlk hS dX3_shift_21 (Nat.le_of_ble_eq_true rfl) (Nat.le_of_ble_eq_true rfl) ⟨ex_i (by omega), r, q, by first | exact hmw | (subst_vars; exact hmw) | (simp only [inI_self, inI_1, inI_31] at hmw; subst_vars; exact hmw), by first | exact nw_rf | exact nw_up (by omega) | exact nw_up2 (by omega), by first | exact nw_rf | exact nw_up (by omega) | exact nw_up2 (by omega)⟩

set_option maxHeartbeats 4000000 in
set_option maxRecDepth 100000 in
theorem mno3_shift (θ : TH) (l : Launch) (S0 : State) (H : Heap) (w : Nat → Nat) (r q : Nat → Nat) (dt : Nat → Int) (sv : Nat → Nat → Int) (th dn rf kn : Int) (hw : MWR θ S0 w H r q dt sv th dn rf kn) (a n : Int) (h_0 : -2147483648 ≤ a ∧ a < 2147483648) (h_1 : -2147483648 ≤ n ∧ n < 2147483648) (h_2 : 0 ≤ a ∧ a < 6) (h_3 : -240000 ≤ n ∧ n ≤ 240000) (h_4 : ¬ (-4371587 ≤ shI (dt a.toNat) n ∧ shI (dt a.toNat) n ≤ 2932896)) : CT l yX3_shift cX3_shift 3 (some .int) 8 170 1 2 [.ref (w 0), .int (iI a), .int (iI n)] S0 H (fun v9 H1 => v9 = some (.int (iI 0)) ∧ ∃ r1 q1 : Nat → Nat, MWR θ S0 w H1 r1 q1 dt sv 3 dn rf kn ∧ NW 6 H.size r r1 ∧ NW 3 H.size q q1) (fun _ _ => False) (WA w H.size) := by
  refine ct_of (by decide +kernel) (Nat.le_of_ble_eq_true rfl) ?_
  intro pg en s mi args below meth co ls fx hs hr hlk hxt hin hl
  subst hs
  obtain ⟨hx, hb, hml, hown, hts⟩ := id fx.1
  have hS : va_S (WA w s.heap.size) s.heap s.heap [] := va_S.rf
  obtain ⟨hz, hu, hm, hd, hsv⟩ := id hw
  have hAB : ∀ x : Nat, (WA w s.heap.size) x → θ.2.2.2 ≤ x := wa_b hu hz.2.1
  have hz0 := hz
  have hK := sz_K fx.2 hz
  have hlt0 := hm.lt
  have hu1 := hu.1
  have hAn : ∀ x : Nat, s.heap.size ≤ x → (WA w s.heap.size) x := fun _ h => Or.inr h
  refine lv_aload_n hx hb dX3_shift_0 rfl (lv_at hl 0 rfl) ?_
  refine lv_iload_n hx hb dX3_shift_1 rfl (lv_at hl 1 rfl) ?_
  obtain ⟨r1, hr1⟩ := bex (a < 0 ∨ 5 < a)
  refine c_P (As := [.int (iI a)]) (rest := [.ref (w 0)]) fx hl (pm_X3_isNo l a r1 hr1 (by omega)) dX3_shift_2 k1113 k1114 k6 k1115 hd_X3_isNo rfl ⟨by decide, by decide⟩ (Nat.le_of_ble_eq_true rfl) ⟨by dsimp only; omega, by dsimp only; omega⟩ ?_
  have br1 : r1 = 0 ∨ r1 = 1 := hr1.elim (fun h => Or.inr h.1) (fun h => Or.inl h.1)
  refine lv_iload_n hx hb dX3_shift_5 rfl (lv_at hl 2 rfl) ?_
  refine q_ldc (n := -240000) hx hb hown (hts _ k1181) (by decide) dX3_shift_6 ?_
  refine q_ldc (n := 240000) hx hb hown (hts _ k1182) (by decide) dX3_shift_8 ?_
  obtain ⟨r2, hr2⟩ := bex (n < (-240000) ∨ 240000 < n)
  refine c_P (As := [.int (iI n), .int (iI (-240000)), .int (iI 240000)]) (rest := [.int (iI r1), .ref (w 0)]) fx hl (pm_X3_isOut l n (-240000) 240000 r2 hr2 (by omega) (by omega) (by omega)) dX3_shift_10 k1116 k1117 k6 k1118 hd_X3_isOut rfl ⟨by decide, by decide⟩ (Nat.le_of_ble_eq_true rfl) ⟨by dsimp only; omega, by dsimp only; omega⟩ ?_
  have br2 : r2 = 0 ∨ r2 = 1 := hr2.elim (fun h => Or.inr h.1) (fun h => Or.inl h.1)
  refine q_con hx hb dX3_shift_13 ?_
  obtain ⟨t3, f4, hq1t3, hq2t3⟩ := fails_ex r1 r2 0 (by omega) (by omega) (by omega)
  have hmw : MWR θ S0 w s.heap r q dt sv th dn rf kn := ⟨hz, hu, hm, hd, hsv⟩
  refine c_M (w := w) (As := [.int (iI r1), .int (iI r2), .int (iI 0)]) (rest := []) (b := w 0) (C := RX3) fx hl (mw_fails θ l S0 _ w _ _ _ _ _ _ _ _ hmw r1 r2 0 t3 f4 (by omega) hq1t3 hq2t3) (ob_recv hK hm.1 rfl) dX3_shift_14 k1119 k1121 ks10 k6 k1122 hd_X3_fails rfl ⟨by decide, by decide⟩ (Nat.le_of_ble_eq_true rfl) ⟨by dsimp only; omega, by dsimp only; omega⟩ hS (fun x hx => hx ▸ Or.inl (Or.inl rfl)) (fun H5 locs hmH5 hszH5 hk0H5 hS => ?_)
  have hkH5 : ∀ x : Nat, x < (s.heap).size → ¬ x = w 0 → H5[x]? = (s.heap)[x]? := hk0H5
  have hzH5 := hz0.at hAB hS
  have hltH5 := hmH5.lt
  refine q_ieq (tgt := 22) hx hb dX3_shift_17 (by decide) (by omega) (fun c6 => ?_) (fun c6 => ?_)
  · refine lv_aload_n hx hb dX3_shift_22 rfl (lv_at hl 0 rfl) ?_
    refine lv_iload_n hx hb dX3_shift_23 rfl (lv_at hl 1 rfl) ?_
    refine lv_aload_n hx hb dX3_shift_24 rfl (lv_at hl 0 rfl) ?_
    refine r_get (θ := θ) (C := RX3) (T := TX3) (N := 6) (ci := 9) hx hb hts gwX3 hown hK hmH5.1 rfl 4 (by decide) k1094 (fun _ h => h) (v := .ref (w 1)) rfl dX3_shift_25 ?_
    refine lv_iload_n hx hb dX3_shift_28 rfl (lv_at hl 1 rfl) ?_
    refine r_aald (θ := θ) hx hb hK hmH5.2.1 (i := a) (by omega) (by decide) dX3_shift_29 ?_
    have rw7 := (hmH5.2.2.2.1 (a.toNat) (by omega)).1
    have rw7n := (hmH5.2.2.2.1 (a.toNat) (by omega)).2
    have rw7t := hd (a.toNat) (by omega)
    have rw7l := rw7.lt
    have rw7i := inR rw7t
    have rw7m := inM rw7i
    have rw7d := dI_b (dt a.toNat)
    refine lv_iload_n hx hb dX3_shift_30 rfl (lv_at hl 2 rfl) ?_
    refine c_NR (θ := θ) (As := [.ref (r a.toNat), .int (iI n)]) (rest := [.int (iI a), .ref (w 0)]) fx hl (pm_X3_shifted θ l S0 _ hzH5 (r a.toNat) n (dt a.toNat) rw7 (by omega) (by omega)) dX3_shift_31 k1183 k1184 k6 k1185 hd_X3_shifted rfl ⟨by decide, by decide⟩ (Nat.le_of_ble_eq_true rfl) ⟨by dsimp only; omega, by dsimp only; omega⟩ hS (fun x hx => hAn x (Nat.le_trans hS.1 hx)) (fun q9 H8 locs hqH8 haH8 hszH8 hkH8 hS => ?_)
    have rw7_H8 := rw7.kept (hkH8 _ rw7.lt)
    have hzH8 := hz0.at hAB hS
    have hmH8 := hmH5.kept hkH8
    have hltH8 := haH8.lt
    have t0q9 := shI_s (dt a.toNat) n
    have t1q9 := shI_bd (dt a.toNat) n
    refine q_con hx hb dX3_shift_34 ?_
    have hmw : MWR θ S0 w H8 r q dt sv t3 dn rf kn := ⟨hzH8, hu, hmH8, hd, hsv⟩
    refine c_M (w := w) (As := [.int (iI a), .ref q9, .int (iI 3)]) (rest := []) (b := w 0) (C := RX3) fx hl (mw_become_no θ l S0 _ w _ _ _ _ _ _ _ _ hmw a q9 3 (shI (dt a.toNat) n) haH8 ⟨by omega, by omega, by omega⟩ (by omega) (by omega) (by omega)) (ob_recv hK hmH8.1 rfl) dX3_shift_35 k1126 k1128 ks11 k6 k1129 hd_X3_become rfl ⟨by decide, by decide⟩ (Nat.le_of_ble_eq_true rfl) ⟨by dsimp only; omega, by dsimp only; omega⟩ hS (fun x hx => hx.elim (fun e => Or.inl (Or.inl e)) (fun e => Or.inl (Or.inr (Or.inl e)))) (fun H10 locs hmH10 hszH10 hk0H10 hS => ?_)
    have hkH10 : ∀ x : Nat, x < (H8).size → ¬ (x = w 0 ∨ x = w 1) → H10[x]? = (H8)[x]? := hk0H10
    have haH8_H10 := haH8.kept (hkH10 _ haH8.lt (by omega))
    have hzH10 := hz0.at hAB hS
    have hltH10 := hmH10.lt
    refine q_ieq (tgt := 52) hx hb dX3_shift_38 (by decide) (by omega) (fun c11 => ?_) (fun c11 => ?_)
    · refine q_con hx hb dX3_shift_52 ?_
      have hmw : MWR θ S0 w H10 r q dt sv 3 dn rf kn := ⟨hzH10, hu, hmH10, hd, hsv⟩
      exact e_i hx hb hr hlk hS dX3_shift_53 (Nat.le_of_ble_eq_true rfl) (Nat.le_of_ble_eq_true rfl) ⟨ex_i (by omega), r, q, by first | exact hmw | (subst_vars; exact hmw) | (simp only [inI_self, inI_1, inI_31] at hmw; subst_vars; exact hmw), by first | exact nw_rf | exact nw_up (by omega) | exact nw_up2 (by omega), by first | exact nw_rf | exact nw_up (by omega) | exact nw_up2 (by omega)⟩
    · exact (show False by omega).elim
  · exact (show False by omega).elim

set_option maxHeartbeats 4000000 in
set_option maxRecDepth 100000 in
theorem mok_shiftYears (θ : TH) (l : Launch) (S0 : State) (H : Heap) (w : Nat → Nat) (r q : Nat → Nat) (dt : Nat → Int) (sv : Nat → Nat → Int) (th dn rf kn : Int) (hw : MWR θ S0 w H r q dt sv th dn rf kn) (a n : Int) (h_0 : -2147483648 ≤ a ∧ a < 2147483648) (h_1 : -2147483648 ≤ n ∧ n < 2147483648) (h_2 : 0 ≤ a ∧ a < 6) (h_3 : -20000 ≤ n ∧ n ≤ 20000) (h_4 : -4371587 ≤ shI (dt a.toNat) (12 * n) ∧ shI (dt a.toNat) (12 * n) ≤ 2932896) : CT l yX3_shiftYears cX3_shiftYears 3 (some .int) 8 170 1 2 [.ref (w 0), .int (iI a), .int (iI n)] S0 H (fun v9 H1 => v9 = some (.int (iI (dI (shI (dt a.toNat) (12 * n))))) ∧ ∃ r1 q1 : Nat → Nat, MWR θ S0 w H1 r1 q1 (up dt a.toNat (shI (dt a.toNat) (12 * n))) sv 0 (dn + 1) rf kn ∧ NW 6 H.size r r1 ∧ NW 3 H.size q q1) (fun _ _ => False) (WA w H.size) := by
  refine ct_of (by decide +kernel) (Nat.le_of_ble_eq_true rfl) ?_
  intro pg en s mi args below meth co ls fx hs hr hlk hxt hin hl
  subst hs
  obtain ⟨hx, hb, hml, hown, hts⟩ := id fx.1
  have hS : va_S (WA w s.heap.size) s.heap s.heap [] := va_S.rf
  obtain ⟨hz, hu, hm, hd, hsv⟩ := id hw
  have hAB : ∀ x : Nat, (WA w s.heap.size) x → θ.2.2.2 ≤ x := wa_b hu hz.2.1
  have hz0 := hz
  have hK := sz_K fx.2 hz
  have hlt0 := hm.lt
  have hu1 := hu.1
  have hAn : ∀ x : Nat, s.heap.size ≤ x → (WA w s.heap.size) x := fun _ h => Or.inr h
  refine lv_aload_n hx hb dX3_shiftYears_0 rfl (lv_at hl 0 rfl) ?_
  refine lv_iload_n hx hb dX3_shiftYears_1 rfl (lv_at hl 1 rfl) ?_
  obtain ⟨r1, hr1⟩ := bex (a < 0 ∨ 5 < a)
  refine c_P (As := [.int (iI a)]) (rest := [.ref (w 0)]) fx hl (pm_X3_isNo l a r1 hr1 (by omega)) dX3_shiftYears_2 k1113 k1114 k6 k1115 hd_X3_isNo rfl ⟨by decide, by decide⟩ (Nat.le_of_ble_eq_true rfl) ⟨by dsimp only; omega, by dsimp only; omega⟩ ?_
  have br1 : r1 = 0 ∨ r1 = 1 := hr1.elim (fun h => Or.inr h.1) (fun h => Or.inl h.1)
  refine lv_iload_n hx hb dX3_shiftYears_5 rfl (lv_at hl 2 rfl) ?_
  refine q_sip hx hb dX3_shiftYears_6 (by decide) ?_
  refine q_sip hx hb dX3_shiftYears_9 (by decide) ?_
  obtain ⟨r2, hr2⟩ := bex (n < (-20000) ∨ 20000 < n)
  refine c_P (As := [.int (iI n), .int (iI (-20000)), .int (iI 20000)]) (rest := [.int (iI r1), .ref (w 0)]) fx hl (pm_X3_isOut l n (-20000) 20000 r2 hr2 (by omega) (by omega) (by omega)) dX3_shiftYears_12 k1116 k1117 k6 k1118 hd_X3_isOut rfl ⟨by decide, by decide⟩ (Nat.le_of_ble_eq_true rfl) ⟨by dsimp only; omega, by dsimp only; omega⟩ ?_
  have br2 : r2 = 0 ∨ r2 = 1 := hr2.elim (fun h => Or.inr h.1) (fun h => Or.inl h.1)
  refine q_con hx hb dX3_shiftYears_15 ?_
  obtain ⟨t3, f4, hq1t3, hq2t3⟩ := fails_ex r1 r2 0 (by omega) (by omega) (by omega)
  have hmw : MWR θ S0 w s.heap r q dt sv th dn rf kn := ⟨hz, hu, hm, hd, hsv⟩
  refine c_M (w := w) (As := [.int (iI r1), .int (iI r2), .int (iI 0)]) (rest := []) (b := w 0) (C := RX3) fx hl (mw_fails θ l S0 _ w _ _ _ _ _ _ _ _ hmw r1 r2 0 t3 f4 (by omega) hq1t3 hq2t3) (ob_recv hK hm.1 rfl) dX3_shiftYears_16 k1119 k1121 ks10 k6 k1122 hd_X3_fails rfl ⟨by decide, by decide⟩ (Nat.le_of_ble_eq_true rfl) ⟨by dsimp only; omega, by dsimp only; omega⟩ hS (fun x hx => hx ▸ Or.inl (Or.inl rfl)) (fun H5 locs hmH5 hszH5 hk0H5 hS => ?_)
  have hkH5 : ∀ x : Nat, x < (s.heap).size → ¬ x = w 0 → H5[x]? = (s.heap)[x]? := hk0H5
  have hzH5 := hz0.at hAB hS
  have hltH5 := hmH5.lt
  refine q_ieq (tgt := 24) hx hb dX3_shiftYears_19 (by decide) (by omega) (fun c6 => ?_) (fun c6 => ?_)
  · refine lv_aload_n hx hb dX3_shiftYears_24 rfl (lv_at hl 0 rfl) ?_
    refine lv_iload_n hx hb dX3_shiftYears_25 rfl (lv_at hl 1 rfl) ?_
    refine lv_aload_n hx hb dX3_shiftYears_26 rfl (lv_at hl 0 rfl) ?_
    refine r_get (θ := θ) (C := RX3) (T := TX3) (N := 6) (ci := 9) hx hb hts gwX3 hown hK hmH5.1 rfl 4 (by decide) k1094 (fun _ h => h) (v := .ref (w 1)) rfl dX3_shiftYears_27 ?_
    refine lv_iload_n hx hb dX3_shiftYears_30 rfl (lv_at hl 1 rfl) ?_
    refine r_aald (θ := θ) hx hb hK hmH5.2.1 (i := a) (by omega) (by decide) dX3_shiftYears_31 ?_
    have rw7 := (hmH5.2.2.2.1 (a.toNat) (by omega)).1
    have rw7n := (hmH5.2.2.2.1 (a.toNat) (by omega)).2
    have rw7t := hd (a.toNat) (by omega)
    have rw7l := rw7.lt
    have rw7i := inR rw7t
    have rw7m := inM rw7i
    have rw7d := dI_b (dt a.toNat)
    refine q_bip hx hb dX3_shiftYears_32 (by decide) ?_
    refine lv_iload_n hx hb dX3_shiftYears_34 rfl (lv_at hl 2 rfl) ?_
    refine q_mul hx hb dX3_shiftYears_35 ?_
    refine c_NR (θ := θ) (As := [.ref (r a.toNat), .int (iI (12 * n))]) (rest := [.int (iI a), .ref (w 0)]) fx hl (pm_X3_shifted θ l S0 _ hzH5 (r a.toNat) (12 * n) (dt a.toNat) rw7 (by omega) (by omega)) dX3_shiftYears_36 k1183 k1184 k6 k1185 hd_X3_shifted rfl ⟨by decide, by decide⟩ (Nat.le_of_ble_eq_true rfl) ⟨by dsimp only; omega, by dsimp only; omega⟩ hS (fun x hx => hAn x (Nat.le_trans hS.1 hx)) (fun q9 H8 locs hqH8 haH8 hszH8 hkH8 hS => ?_)
    have rw7_H8 := rw7.kept (hkH8 _ rw7.lt)
    have hzH8 := hz0.at hAB hS
    have hmH8 := hmH5.kept hkH8
    have hltH8 := haH8.lt
    have t0q9 := shI_s (dt a.toNat) (12 * n)
    have t1q9 := shI_bd (dt a.toNat) (12 * n)
    refine q_con hx hb dX3_shiftYears_39 ?_
    have hmw : MWR θ S0 w H8 r q dt sv t3 dn rf kn := ⟨hzH8, hu, hmH8, hd, hsv⟩
    refine c_M (w := w) (As := [.int (iI a), .ref q9, .int (iI 3)]) (rest := []) (b := w 0) (C := RX3) fx hl (mw_become_ok θ l S0 _ w _ _ _ _ _ _ _ _ hmw a q9 3 (shI (dt a.toNat) (12 * n)) haH8 ⟨by omega, by omega, by omega⟩ (by omega) (by omega) (by omega)) (ob_recv hK hmH8.1 rfl) dX3_shiftYears_40 k1126 k1128 ks11 k6 k1129 hd_X3_become rfl ⟨by decide, by decide⟩ (Nat.le_of_ble_eq_true rfl) ⟨by dsimp only; omega, by dsimp only; omega⟩ hS (fun x hx => hx.elim (fun e => Or.inl (Or.inl e)) (fun e => Or.inl (Or.inr (Or.inl e)))) (fun H10 locs hmH10 hszH10 hk0H10 hS => ?_)
    have hkH10 : ∀ x : Nat, x < (H8).size → ¬ (x = w 0 ∨ x = w 1) → H10[x]? = (H8)[x]? := hk0H10
    have haH8_H10 := haH8.kept (hkH10 _ haH8.lt (by omega))
    have hzH10 := hz0.at hAB hS
    have hltH10 := hmH10.lt
    refine q_ieq (tgt := 57) hx hb dX3_shiftYears_43 (by decide) (by omega) (fun c11 => ?_) (fun c11 => ?_)
    · exact (show False by omega).elim
    · refine lv_aload_n hx hb dX3_shiftYears_46 rfl (lv_at hl 0 rfl) ?_
      refine r_get (θ := θ) (C := RX3) (T := TX3) (N := 6) (ci := 9) hx hb hts gwX3 hown hK hmH10.1 rfl 4 (by decide) k1094 (fun _ h => h) (v := .ref (w 1)) rfl dX3_shiftYears_47 ?_
      refine lv_iload_n hx hb dX3_shiftYears_50 rfl (lv_at hl 1 rfl) ?_
      refine r_aald (θ := θ) hx hb hK hmH10.2.1 (i := a) (by omega) (by decide) dX3_shiftYears_51 ?_
      have rw12 := (hmH10.2.2.2.1 (a.toNat) (by omega)).1
      have rw12n := (hmH10.2.2.2.1 (a.toNat) (by omega)).2
      have rw12l := rw12.lt
      refine q_con hx hb dX3_shiftYears_52 ?_
      refine r_iald (θ := θ) hx hb hK rw12 (i := 1) (by omega) (by decide) dX3_shiftYears_53 ?_
      refine q_as (dI ((up dt (Int.toNat a) (shI (dt a.toNat) (12 * n))) a.toNat)) rfl ?_
      refine lv_goto (tgt := 58) hx hb dX3_shiftYears_54 (by decide) ?_
      obtain rfl : t3 = 0 := by omega
      have hmw : MWR θ S0 w H10 (up r (Int.toNat a) q9) q (up dt (Int.toNat a) (shI (dt a.toNat) (12 * n))) sv 0 (dn + 1) rf kn := ⟨hzH10, hu, hmH10, (fun j hj => by have h9 := hd j hj; show -4371587 ≤ _ ∧ _; simp only [up]; (split <;> omega)), hsv⟩
      exact e_i hx hb hr hlk hS dX3_shiftYears_58 (Nat.le_of_ble_eq_true rfl) (Nat.le_of_ble_eq_true rfl) ⟨ex_i (by subst_vars; first | omega | (simp only [up_s, inI_self, inI_1, inI_31]; done) | (simp only [up_s, inI_self, inI_1, inI_31]; omega) | (simp only [up_s, inI_self, inI_1, inI_31]; subst_vars; first | rfl | omega)), (up r (Int.toNat a) q9), q, by first | exact hmw | (subst_vars; exact hmw) | (simp only [inI_self, inI_1, inI_31] at hmw; subst_vars; exact hmw), by first | exact nw_rf | exact nw_up (by omega) | exact nw_up2 (by omega), by first | exact nw_rf | exact nw_up (by omega) | exact nw_up2 (by omega)⟩
  · exact (show False by omega).elim

set_option maxHeartbeats 4000000 in
set_option maxRecDepth 100000 in
theorem mno1_shiftYears (θ : TH) (l : Launch) (S0 : State) (H : Heap) (w : Nat → Nat) (r q : Nat → Nat) (dt : Nat → Int) (sv : Nat → Nat → Int) (th dn rf kn : Int) (hw : MWR θ S0 w H r q dt sv th dn rf kn) (a n : Int) (h_0 : -2147483648 ≤ a ∧ a < 2147483648) (h_1 : -2147483648 ≤ n ∧ n < 2147483648) (h_2 : ¬ (0 ≤ a ∧ a < 6)) : CT l yX3_shiftYears cX3_shiftYears 3 (some .int) 2 42 0 0 [.ref (w 0), .int (iI a), .int (iI n)] S0 H (fun v9 H1 => v9 = some (.int (iI 0)) ∧ ∃ r1 q1 : Nat → Nat, MWR θ S0 w H1 r1 q1 dt sv 1 dn rf kn ∧ NW 6 H.size r r1 ∧ NW 3 H.size q q1) (fun _ _ => False) (WA w H.size) := by
  refine ct_of (by decide +kernel) (Nat.le_of_ble_eq_true rfl) ?_
  intro pg en s mi args below meth co ls fx hs hr hlk hxt hin hl
  subst hs
  obtain ⟨hx, hb, hml, hown, hts⟩ := id fx.1
  have hS : va_S (WA w s.heap.size) s.heap s.heap [] := va_S.rf
  obtain ⟨hz, hu, hm, hd, hsv⟩ := id hw
  have hAB : ∀ x : Nat, (WA w s.heap.size) x → θ.2.2.2 ≤ x := wa_b hu hz.2.1
  have hz0 := hz
  have hK := sz_K fx.2 hz
  have hlt0 := hm.lt
  have hu1 := hu.1
  have hAn : ∀ x : Nat, s.heap.size ≤ x → (WA w s.heap.size) x := fun _ h => Or.inr h
  refine lv_aload_n hx hb dX3_shiftYears_0 rfl (lv_at hl 0 rfl) ?_
  refine lv_iload_n hx hb dX3_shiftYears_1 rfl (lv_at hl 1 rfl) ?_
  obtain ⟨r1, hr1⟩ := bex (a < 0 ∨ 5 < a)
  refine c_P (As := [.int (iI a)]) (rest := [.ref (w 0)]) fx hl (pm_X3_isNo l a r1 hr1 (by omega)) dX3_shiftYears_2 k1113 k1114 k6 k1115 hd_X3_isNo rfl ⟨by decide, by decide⟩ (Nat.le_of_ble_eq_true rfl) ⟨by dsimp only; omega, by dsimp only; omega⟩ ?_
  have br1 : r1 = 0 ∨ r1 = 1 := hr1.elim (fun h => Or.inr h.1) (fun h => Or.inl h.1)
  refine lv_iload_n hx hb dX3_shiftYears_5 rfl (lv_at hl 2 rfl) ?_
  refine q_sip hx hb dX3_shiftYears_6 (by decide) ?_
  refine q_sip hx hb dX3_shiftYears_9 (by decide) ?_
  obtain ⟨r2, hr2⟩ := bex (n < (-20000) ∨ 20000 < n)
  refine c_P (As := [.int (iI n), .int (iI (-20000)), .int (iI 20000)]) (rest := [.int (iI r1), .ref (w 0)]) fx hl (pm_X3_isOut l n (-20000) 20000 r2 hr2 (by omega) (by omega) (by omega)) dX3_shiftYears_12 k1116 k1117 k6 k1118 hd_X3_isOut rfl ⟨by decide, by decide⟩ (Nat.le_of_ble_eq_true rfl) ⟨by dsimp only; omega, by dsimp only; omega⟩ ?_
  have br2 : r2 = 0 ∨ r2 = 1 := hr2.elim (fun h => Or.inr h.1) (fun h => Or.inl h.1)
  refine q_con hx hb dX3_shiftYears_15 ?_
  obtain ⟨t3, f4, hq1t3, hq2t3⟩ := fails_ex r1 r2 0 (by omega) (by omega) (by omega)
  have hmw : MWR θ S0 w s.heap r q dt sv th dn rf kn := ⟨hz, hu, hm, hd, hsv⟩
  refine c_M (w := w) (As := [.int (iI r1), .int (iI r2), .int (iI 0)]) (rest := []) (b := w 0) (C := RX3) fx hl (mw_fails θ l S0 _ w _ _ _ _ _ _ _ _ hmw r1 r2 0 t3 f4 (by omega) hq1t3 hq2t3) (ob_recv hK hm.1 rfl) dX3_shiftYears_16 k1119 k1121 ks10 k6 k1122 hd_X3_fails rfl ⟨by decide, by decide⟩ (Nat.le_of_ble_eq_true rfl) ⟨by dsimp only; omega, by dsimp only; omega⟩ hS (fun x hx => hx ▸ Or.inl (Or.inl rfl)) (fun H5 locs hmH5 hszH5 hk0H5 hS => ?_)
  have hkH5 : ∀ x : Nat, x < (s.heap).size → ¬ x = w 0 → H5[x]? = (s.heap)[x]? := hk0H5
  have hzH5 := hz0.at hAB hS
  have hltH5 := hmH5.lt
  refine q_ieq (tgt := 24) hx hb dX3_shiftYears_19 (by decide) (by omega) (fun c6 => ?_) (fun c6 => ?_)
  · exact (show False by omega).elim
  · refine q_con hx hb dX3_shiftYears_22 ?_
    obtain rfl : t3 = 1 := by omega
    have hmw : MWR θ S0 w H5 r q dt sv 1 dn rf kn := ⟨hzH5, hu, hmH5, hd, hsv⟩
    exact e_i hx hb hr hlk hS dX3_shiftYears_23 (Nat.le_of_ble_eq_true rfl) (Nat.le_of_ble_eq_true rfl) ⟨ex_i (by omega), r, q, by first | exact hmw | (subst_vars; exact hmw) | (simp only [inI_self, inI_1, inI_31] at hmw; subst_vars; exact hmw), by first | exact nw_rf | exact nw_up (by omega) | exact nw_up2 (by omega), by first | exact nw_rf | exact nw_up (by omega) | exact nw_up2 (by omega)⟩

set_option maxHeartbeats 4000000 in
set_option maxRecDepth 100000 in
theorem mno2_shiftYears (θ : TH) (l : Launch) (S0 : State) (H : Heap) (w : Nat → Nat) (r q : Nat → Nat) (dt : Nat → Int) (sv : Nat → Nat → Int) (th dn rf kn : Int) (hw : MWR θ S0 w H r q dt sv th dn rf kn) (a n : Int) (h_0 : -2147483648 ≤ a ∧ a < 2147483648) (h_1 : -2147483648 ≤ n ∧ n < 2147483648) (h_2 : 0 ≤ a ∧ a < 6) (h_3 : ¬ (-20000 ≤ n ∧ n ≤ 20000)) : CT l yX3_shiftYears cX3_shiftYears 3 (some .int) 2 42 0 0 [.ref (w 0), .int (iI a), .int (iI n)] S0 H (fun v9 H1 => v9 = some (.int (iI 0)) ∧ ∃ r1 q1 : Nat → Nat, MWR θ S0 w H1 r1 q1 dt sv 2 dn rf kn ∧ NW 6 H.size r r1 ∧ NW 3 H.size q q1) (fun _ _ => False) (WA w H.size) := by
  refine ct_of (by decide +kernel) (Nat.le_of_ble_eq_true rfl) ?_
  intro pg en s mi args below meth co ls fx hs hr hlk hxt hin hl
  subst hs
  obtain ⟨hx, hb, hml, hown, hts⟩ := id fx.1
  have hS : va_S (WA w s.heap.size) s.heap s.heap [] := va_S.rf
  obtain ⟨hz, hu, hm, hd, hsv⟩ := id hw
  have hAB : ∀ x : Nat, (WA w s.heap.size) x → θ.2.2.2 ≤ x := wa_b hu hz.2.1
  have hz0 := hz
  have hK := sz_K fx.2 hz
  have hlt0 := hm.lt
  have hu1 := hu.1
  have hAn : ∀ x : Nat, s.heap.size ≤ x → (WA w s.heap.size) x := fun _ h => Or.inr h
  refine lv_aload_n hx hb dX3_shiftYears_0 rfl (lv_at hl 0 rfl) ?_
  refine lv_iload_n hx hb dX3_shiftYears_1 rfl (lv_at hl 1 rfl) ?_
  obtain ⟨r1, hr1⟩ := bex (a < 0 ∨ 5 < a)
  refine c_P (As := [.int (iI a)]) (rest := [.ref (w 0)]) fx hl (pm_X3_isNo l a r1 hr1 (by omega)) dX3_shiftYears_2 k1113 k1114 k6 k1115 hd_X3_isNo rfl ⟨by decide, by decide⟩ (Nat.le_of_ble_eq_true rfl) ⟨by dsimp only; omega, by dsimp only; omega⟩ ?_
  have br1 : r1 = 0 ∨ r1 = 1 := hr1.elim (fun h => Or.inr h.1) (fun h => Or.inl h.1)
  refine lv_iload_n hx hb dX3_shiftYears_5 rfl (lv_at hl 2 rfl) ?_
  refine q_sip hx hb dX3_shiftYears_6 (by decide) ?_
  refine q_sip hx hb dX3_shiftYears_9 (by decide) ?_
  obtain ⟨r2, hr2⟩ := bex (n < (-20000) ∨ 20000 < n)
  refine c_P (As := [.int (iI n), .int (iI (-20000)), .int (iI 20000)]) (rest := [.int (iI r1), .ref (w 0)]) fx hl (pm_X3_isOut l n (-20000) 20000 r2 hr2 (by omega) (by omega) (by omega)) dX3_shiftYears_12 k1116 k1117 k6 k1118 hd_X3_isOut rfl ⟨by decide, by decide⟩ (Nat.le_of_ble_eq_true rfl) ⟨by dsimp only; omega, by dsimp only; omega⟩ ?_
  have br2 : r2 = 0 ∨ r2 = 1 := hr2.elim (fun h => Or.inr h.1) (fun h => Or.inl h.1)
  refine q_con hx hb dX3_shiftYears_15 ?_
  obtain ⟨t3, f4, hq1t3, hq2t3⟩ := fails_ex r1 r2 0 (by omega) (by omega) (by omega)
  have hmw : MWR θ S0 w s.heap r q dt sv th dn rf kn := ⟨hz, hu, hm, hd, hsv⟩
  refine c_M (w := w) (As := [.int (iI r1), .int (iI r2), .int (iI 0)]) (rest := []) (b := w 0) (C := RX3) fx hl (mw_fails θ l S0 _ w _ _ _ _ _ _ _ _ hmw r1 r2 0 t3 f4 (by omega) hq1t3 hq2t3) (ob_recv hK hm.1 rfl) dX3_shiftYears_16 k1119 k1121 ks10 k6 k1122 hd_X3_fails rfl ⟨by decide, by decide⟩ (Nat.le_of_ble_eq_true rfl) ⟨by dsimp only; omega, by dsimp only; omega⟩ hS (fun x hx => hx ▸ Or.inl (Or.inl rfl)) (fun H5 locs hmH5 hszH5 hk0H5 hS => ?_)
  have hkH5 : ∀ x : Nat, x < (s.heap).size → ¬ x = w 0 → H5[x]? = (s.heap)[x]? := hk0H5
  have hzH5 := hz0.at hAB hS
  have hltH5 := hmH5.lt
  refine q_ieq (tgt := 24) hx hb dX3_shiftYears_19 (by decide) (by omega) (fun c6 => ?_) (fun c6 => ?_)
  · exact (show False by omega).elim
  · refine q_con hx hb dX3_shiftYears_22 ?_
    obtain rfl : t3 = 2 := by omega
    have hmw : MWR θ S0 w H5 r q dt sv 2 dn rf kn := ⟨hzH5, hu, hmH5, hd, hsv⟩
    exact e_i hx hb hr hlk hS dX3_shiftYears_23 (Nat.le_of_ble_eq_true rfl) (Nat.le_of_ble_eq_true rfl) ⟨ex_i (by omega), r, q, by first | exact hmw | (subst_vars; exact hmw) | (simp only [inI_self, inI_1, inI_31] at hmw; subst_vars; exact hmw), by first | exact nw_rf | exact nw_up (by omega) | exact nw_up2 (by omega), by first | exact nw_rf | exact nw_up (by omega) | exact nw_up2 (by omega)⟩

set_option maxHeartbeats 4000000 in
set_option maxRecDepth 100000 in
theorem mno3_shiftYears (θ : TH) (l : Launch) (S0 : State) (H : Heap) (w : Nat → Nat) (r q : Nat → Nat) (dt : Nat → Int) (sv : Nat → Nat → Int) (th dn rf kn : Int) (hw : MWR θ S0 w H r q dt sv th dn rf kn) (a n : Int) (h_0 : -2147483648 ≤ a ∧ a < 2147483648) (h_1 : -2147483648 ≤ n ∧ n < 2147483648) (h_2 : 0 ≤ a ∧ a < 6) (h_3 : -20000 ≤ n ∧ n ≤ 20000) (h_4 : ¬ (-4371587 ≤ shI (dt a.toNat) (12 * n) ∧ shI (dt a.toNat) (12 * n) ≤ 2932896)) : CT l yX3_shiftYears cX3_shiftYears 3 (some .int) 8 170 1 2 [.ref (w 0), .int (iI a), .int (iI n)] S0 H (fun v9 H1 => v9 = some (.int (iI 0)) ∧ ∃ r1 q1 : Nat → Nat, MWR θ S0 w H1 r1 q1 dt sv 3 dn rf kn ∧ NW 6 H.size r r1 ∧ NW 3 H.size q q1) (fun _ _ => False) (WA w H.size) := by
  refine ct_of (by decide +kernel) (Nat.le_of_ble_eq_true rfl) ?_
  intro pg en s mi args below meth co ls fx hs hr hlk hxt hin hl
  subst hs
  obtain ⟨hx, hb, hml, hown, hts⟩ := id fx.1
  have hS : va_S (WA w s.heap.size) s.heap s.heap [] := va_S.rf
  obtain ⟨hz, hu, hm, hd, hsv⟩ := id hw
  have hAB : ∀ x : Nat, (WA w s.heap.size) x → θ.2.2.2 ≤ x := wa_b hu hz.2.1
  have hz0 := hz
  have hK := sz_K fx.2 hz
  have hlt0 := hm.lt
  have hu1 := hu.1
  have hAn : ∀ x : Nat, s.heap.size ≤ x → (WA w s.heap.size) x := fun _ h => Or.inr h
  refine lv_aload_n hx hb dX3_shiftYears_0 rfl (lv_at hl 0 rfl) ?_
  refine lv_iload_n hx hb dX3_shiftYears_1 rfl (lv_at hl 1 rfl) ?_
  obtain ⟨r1, hr1⟩ := bex (a < 0 ∨ 5 < a)
  refine c_P (As := [.int (iI a)]) (rest := [.ref (w 0)]) fx hl (pm_X3_isNo l a r1 hr1 (by omega)) dX3_shiftYears_2 k1113 k1114 k6 k1115 hd_X3_isNo rfl ⟨by decide, by decide⟩ (Nat.le_of_ble_eq_true rfl) ⟨by dsimp only; omega, by dsimp only; omega⟩ ?_
  have br1 : r1 = 0 ∨ r1 = 1 := hr1.elim (fun h => Or.inr h.1) (fun h => Or.inl h.1)
  refine lv_iload_n hx hb dX3_shiftYears_5 rfl (lv_at hl 2 rfl) ?_
  refine q_sip hx hb dX3_shiftYears_6 (by decide) ?_
  refine q_sip hx hb dX3_shiftYears_9 (by decide) ?_
  obtain ⟨r2, hr2⟩ := bex (n < (-20000) ∨ 20000 < n)
  refine c_P (As := [.int (iI n), .int (iI (-20000)), .int (iI 20000)]) (rest := [.int (iI r1), .ref (w 0)]) fx hl (pm_X3_isOut l n (-20000) 20000 r2 hr2 (by omega) (by omega) (by omega)) dX3_shiftYears_12 k1116 k1117 k6 k1118 hd_X3_isOut rfl ⟨by decide, by decide⟩ (Nat.le_of_ble_eq_true rfl) ⟨by dsimp only; omega, by dsimp only; omega⟩ ?_
  have br2 : r2 = 0 ∨ r2 = 1 := hr2.elim (fun h => Or.inr h.1) (fun h => Or.inl h.1)
  refine q_con hx hb dX3_shiftYears_15 ?_
  obtain ⟨t3, f4, hq1t3, hq2t3⟩ := fails_ex r1 r2 0 (by omega) (by omega) (by omega)
  have hmw : MWR θ S0 w s.heap r q dt sv th dn rf kn := ⟨hz, hu, hm, hd, hsv⟩
  refine c_M (w := w) (As := [.int (iI r1), .int (iI r2), .int (iI 0)]) (rest := []) (b := w 0) (C := RX3) fx hl (mw_fails θ l S0 _ w _ _ _ _ _ _ _ _ hmw r1 r2 0 t3 f4 (by omega) hq1t3 hq2t3) (ob_recv hK hm.1 rfl) dX3_shiftYears_16 k1119 k1121 ks10 k6 k1122 hd_X3_fails rfl ⟨by decide, by decide⟩ (Nat.le_of_ble_eq_true rfl) ⟨by dsimp only; omega, by dsimp only; omega⟩ hS (fun x hx => hx ▸ Or.inl (Or.inl rfl)) (fun H5 locs hmH5 hszH5 hk0H5 hS => ?_)
  have hkH5 : ∀ x : Nat, x < (s.heap).size → ¬ x = w 0 → H5[x]? = (s.heap)[x]? := hk0H5
  have hzH5 := hz0.at hAB hS
  have hltH5 := hmH5.lt
  refine q_ieq (tgt := 24) hx hb dX3_shiftYears_19 (by decide) (by omega) (fun c6 => ?_) (fun c6 => ?_)
  · refine lv_aload_n hx hb dX3_shiftYears_24 rfl (lv_at hl 0 rfl) ?_
    refine lv_iload_n hx hb dX3_shiftYears_25 rfl (lv_at hl 1 rfl) ?_
    refine lv_aload_n hx hb dX3_shiftYears_26 rfl (lv_at hl 0 rfl) ?_
    refine r_get (θ := θ) (C := RX3) (T := TX3) (N := 6) (ci := 9) hx hb hts gwX3 hown hK hmH5.1 rfl 4 (by decide) k1094 (fun _ h => h) (v := .ref (w 1)) rfl dX3_shiftYears_27 ?_
    refine lv_iload_n hx hb dX3_shiftYears_30 rfl (lv_at hl 1 rfl) ?_
    refine r_aald (θ := θ) hx hb hK hmH5.2.1 (i := a) (by omega) (by decide) dX3_shiftYears_31 ?_
    have rw7 := (hmH5.2.2.2.1 (a.toNat) (by omega)).1
    have rw7n := (hmH5.2.2.2.1 (a.toNat) (by omega)).2
    have rw7t := hd (a.toNat) (by omega)
    have rw7l := rw7.lt
    have rw7i := inR rw7t
    have rw7m := inM rw7i
    have rw7d := dI_b (dt a.toNat)
    refine q_bip hx hb dX3_shiftYears_32 (by decide) ?_
    refine lv_iload_n hx hb dX3_shiftYears_34 rfl (lv_at hl 2 rfl) ?_
    refine q_mul hx hb dX3_shiftYears_35 ?_
    refine c_NR (θ := θ) (As := [.ref (r a.toNat), .int (iI (12 * n))]) (rest := [.int (iI a), .ref (w 0)]) fx hl (pm_X3_shifted θ l S0 _ hzH5 (r a.toNat) (12 * n) (dt a.toNat) rw7 (by omega) (by omega)) dX3_shiftYears_36 k1183 k1184 k6 k1185 hd_X3_shifted rfl ⟨by decide, by decide⟩ (Nat.le_of_ble_eq_true rfl) ⟨by dsimp only; omega, by dsimp only; omega⟩ hS (fun x hx => hAn x (Nat.le_trans hS.1 hx)) (fun q9 H8 locs hqH8 haH8 hszH8 hkH8 hS => ?_)
    have rw7_H8 := rw7.kept (hkH8 _ rw7.lt)
    have hzH8 := hz0.at hAB hS
    have hmH8 := hmH5.kept hkH8
    have hltH8 := haH8.lt
    have t0q9 := shI_s (dt a.toNat) (12 * n)
    have t1q9 := shI_bd (dt a.toNat) (12 * n)
    refine q_con hx hb dX3_shiftYears_39 ?_
    have hmw : MWR θ S0 w H8 r q dt sv t3 dn rf kn := ⟨hzH8, hu, hmH8, hd, hsv⟩
    refine c_M (w := w) (As := [.int (iI a), .ref q9, .int (iI 3)]) (rest := []) (b := w 0) (C := RX3) fx hl (mw_become_no θ l S0 _ w _ _ _ _ _ _ _ _ hmw a q9 3 (shI (dt a.toNat) (12 * n)) haH8 ⟨by omega, by omega, by omega⟩ (by omega) (by omega) (by omega)) (ob_recv hK hmH8.1 rfl) dX3_shiftYears_40 k1126 k1128 ks11 k6 k1129 hd_X3_become rfl ⟨by decide, by decide⟩ (Nat.le_of_ble_eq_true rfl) ⟨by dsimp only; omega, by dsimp only; omega⟩ hS (fun x hx => hx.elim (fun e => Or.inl (Or.inl e)) (fun e => Or.inl (Or.inr (Or.inl e)))) (fun H10 locs hmH10 hszH10 hk0H10 hS => ?_)
    have hkH10 : ∀ x : Nat, x < (H8).size → ¬ (x = w 0 ∨ x = w 1) → H10[x]? = (H8)[x]? := hk0H10
    have haH8_H10 := haH8.kept (hkH10 _ haH8.lt (by omega))
    have hzH10 := hz0.at hAB hS
    have hltH10 := hmH10.lt
    refine q_ieq (tgt := 57) hx hb dX3_shiftYears_43 (by decide) (by omega) (fun c11 => ?_) (fun c11 => ?_)
    · refine q_con hx hb dX3_shiftYears_57 ?_
      have hmw : MWR θ S0 w H10 r q dt sv 3 dn rf kn := ⟨hzH10, hu, hmH10, hd, hsv⟩
      exact e_i hx hb hr hlk hS dX3_shiftYears_58 (Nat.le_of_ble_eq_true rfl) (Nat.le_of_ble_eq_true rfl) ⟨ex_i (by omega), r, q, by first | exact hmw | (subst_vars; exact hmw) | (simp only [inI_self, inI_1, inI_31] at hmw; subst_vars; exact hmw), by first | exact nw_rf | exact nw_up (by omega) | exact nw_up2 (by omega), by first | exact nw_rf | exact nw_up (by omega) | exact nw_up2 (by omega)⟩
    · exact (show False by omega).elim
  · exact (show False by omega).elim

set_option maxHeartbeats 4000000 in
set_option maxRecDepth 100000 in
theorem mok_days (θ : TH) (l : Launch) (S0 : State) (H : Heap) (w : Nat → Nat) (r q : Nat → Nat) (dt : Nat → Int) (sv : Nat → Nat → Int) (th dn rf kn : Int) (hw : MWR θ S0 w H r q dt sv th dn rf kn) (a n : Int) (h_0 : -2147483648 ≤ a ∧ a < 2147483648) (h_1 : -2147483648 ≤ n ∧ n < 2147483648) (h_2 : 0 ≤ a ∧ a < 6) (h_3 : -8000000 ≤ n ∧ n ≤ 8000000) (h_4 : -4371587 ≤ (dt a.toNat + n) ∧ (dt a.toNat + n) ≤ 2932896) : CT l yX3_days cX3_days 3 (some .int) 8 170 1 2 [.ref (w 0), .int (iI a), .int (iI n)] S0 H (fun v9 H1 => v9 = some (.int (iI (dt a.toNat + n))) ∧ ∃ r1 q1 : Nat → Nat, MWR θ S0 w H1 r1 q1 (up dt a.toNat (dt a.toNat + n)) sv 0 (dn + 1) rf kn ∧ NW 6 H.size r r1 ∧ NW 3 H.size q q1) (fun _ _ => False) (WA w H.size) := by
  refine ct_of (by decide +kernel) (Nat.le_of_ble_eq_true rfl) ?_
  intro pg en s mi args below meth co ls fx hs hr hlk hxt hin hl
  subst hs
  obtain ⟨hx, hb, hml, hown, hts⟩ := id fx.1
  have hS : va_S (WA w s.heap.size) s.heap s.heap [] := va_S.rf
  obtain ⟨hz, hu, hm, hd, hsv⟩ := id hw
  have hAB : ∀ x : Nat, (WA w s.heap.size) x → θ.2.2.2 ≤ x := wa_b hu hz.2.1
  have hz0 := hz
  have hK := sz_K fx.2 hz
  have hlt0 := hm.lt
  have hu1 := hu.1
  have hAn : ∀ x : Nat, s.heap.size ≤ x → (WA w s.heap.size) x := fun _ h => Or.inr h
  refine lv_aload_n hx hb dX3_days_0 rfl (lv_at hl 0 rfl) ?_
  refine lv_iload_n hx hb dX3_days_1 rfl (lv_at hl 1 rfl) ?_
  obtain ⟨r1, hr1⟩ := bex (a < 0 ∨ 5 < a)
  refine c_P (As := [.int (iI a)]) (rest := [.ref (w 0)]) fx hl (pm_X3_isNo l a r1 hr1 (by omega)) dX3_days_2 k1113 k1114 k6 k1115 hd_X3_isNo rfl ⟨by decide, by decide⟩ (Nat.le_of_ble_eq_true rfl) ⟨by dsimp only; omega, by dsimp only; omega⟩ ?_
  have br1 : r1 = 0 ∨ r1 = 1 := hr1.elim (fun h => Or.inr h.1) (fun h => Or.inl h.1)
  refine lv_iload_n hx hb dX3_days_5 rfl (lv_at hl 2 rfl) ?_
  refine q_ldc (n := -8000000) hx hb hown (hts _ k1194) (by decide) dX3_days_6 ?_
  refine q_ldc (n := 8000000) hx hb hown (hts _ k1195) (by decide) dX3_days_8 ?_
  obtain ⟨r2, hr2⟩ := bex (n < (-8000000) ∨ 8000000 < n)
  refine c_P (As := [.int (iI n), .int (iI (-8000000)), .int (iI 8000000)]) (rest := [.int (iI r1), .ref (w 0)]) fx hl (pm_X3_isOut l n (-8000000) 8000000 r2 hr2 (by omega) (by omega) (by omega)) dX3_days_10 k1116 k1117 k6 k1118 hd_X3_isOut rfl ⟨by decide, by decide⟩ (Nat.le_of_ble_eq_true rfl) ⟨by dsimp only; omega, by dsimp only; omega⟩ ?_
  have br2 : r2 = 0 ∨ r2 = 1 := hr2.elim (fun h => Or.inr h.1) (fun h => Or.inl h.1)
  refine q_con hx hb dX3_days_13 ?_
  obtain ⟨t3, f4, hq1t3, hq2t3⟩ := fails_ex r1 r2 0 (by omega) (by omega) (by omega)
  have hmw : MWR θ S0 w s.heap r q dt sv th dn rf kn := ⟨hz, hu, hm, hd, hsv⟩
  refine c_M (w := w) (As := [.int (iI r1), .int (iI r2), .int (iI 0)]) (rest := []) (b := w 0) (C := RX3) fx hl (mw_fails θ l S0 _ w _ _ _ _ _ _ _ _ hmw r1 r2 0 t3 f4 (by omega) hq1t3 hq2t3) (ob_recv hK hm.1 rfl) dX3_days_14 k1119 k1121 ks10 k6 k1122 hd_X3_fails rfl ⟨by decide, by decide⟩ (Nat.le_of_ble_eq_true rfl) ⟨by dsimp only; omega, by dsimp only; omega⟩ hS (fun x hx => hx ▸ Or.inl (Or.inl rfl)) (fun H5 locs hmH5 hszH5 hk0H5 hS => ?_)
  have hkH5 : ∀ x : Nat, x < (s.heap).size → ¬ x = w 0 → H5[x]? = (s.heap)[x]? := hk0H5
  have hzH5 := hz0.at hAB hS
  have hltH5 := hmH5.lt
  refine q_ieq (tgt := 22) hx hb dX3_days_17 (by decide) (by omega) (fun c6 => ?_) (fun c6 => ?_)
  · refine lv_aload_n hx hb dX3_days_22 rfl (lv_at hl 0 rfl) ?_
    refine lv_iload_n hx hb dX3_days_23 rfl (lv_at hl 1 rfl) ?_
    refine lv_aload_n hx hb dX3_days_24 rfl (lv_at hl 0 rfl) ?_
    refine r_get (θ := θ) (C := RX3) (T := TX3) (N := 6) (ci := 9) hx hb hts gwX3 hown hK hmH5.1 rfl 4 (by decide) k1094 (fun _ h => h) (v := .ref (w 1)) rfl dX3_days_25 ?_
    refine lv_iload_n hx hb dX3_days_28 rfl (lv_at hl 1 rfl) ?_
    refine r_aald (θ := θ) hx hb hK hmH5.2.1 (i := a) (by omega) (by decide) dX3_days_29 ?_
    have rw7 := (hmH5.2.2.2.1 (a.toNat) (by omega)).1
    have rw7n := (hmH5.2.2.2.1 (a.toNat) (by omega)).2
    have rw7t := hd (a.toNat) (by omega)
    have rw7l := rw7.lt
    have rw7i := inR rw7t
    have rw7m := inM rw7i
    have rw7d := dI_b (dt a.toNat)
    refine lv_iload_n hx hb dX3_days_30 rfl (lv_at hl 2 rfl) ?_
    refine c_NR (θ := θ) (As := [.ref (r a.toNat), .int (iI n)]) (rest := [.int (iI a), .ref (w 0)]) fx hl (pm_X3_on θ l S0 _ hzH5 (r a.toNat) n (dt a.toNat) rw7 (by omega) (by omega)) dX3_days_31 k1196 k1197 k6 k1198 hd_X3_on rfl ⟨by decide, by decide⟩ (Nat.le_of_ble_eq_true rfl) ⟨by dsimp only; omega, by dsimp only; omega⟩ hS (fun x hx => hAn x (Nat.le_trans hS.1 hx)) (fun q9 H8 locs hqH8 haH8 hszH8 hkH8 hS => ?_)
    have rw7_H8 := rw7.kept (hkH8 _ rw7.lt)
    have hzH8 := hz0.at hAB hS
    have hmH8 := hmH5.kept hkH8
    have hltH8 := haH8.lt
    refine q_con hx hb dX3_days_34 ?_
    have hmw : MWR θ S0 w H8 r q dt sv t3 dn rf kn := ⟨hzH8, hu, hmH8, hd, hsv⟩
    refine c_M (w := w) (As := [.int (iI a), .ref q9, .int (iI 3)]) (rest := []) (b := w 0) (C := RX3) fx hl (mw_become_ok θ l S0 _ w _ _ _ _ _ _ _ _ hmw a q9 3 ((dt a.toNat) + n) haH8 ⟨by omega, by omega, by omega⟩ (by omega) (by omega) (by omega)) (ob_recv hK hmH8.1 rfl) dX3_days_35 k1126 k1128 ks11 k6 k1129 hd_X3_become rfl ⟨by decide, by decide⟩ (Nat.le_of_ble_eq_true rfl) ⟨by dsimp only; omega, by dsimp only; omega⟩ hS (fun x hx => hx.elim (fun e => Or.inl (Or.inl e)) (fun e => Or.inl (Or.inr (Or.inl e)))) (fun H10 locs hmH10 hszH10 hk0H10 hS => ?_)
    have hkH10 : ∀ x : Nat, x < (H8).size → ¬ (x = w 0 ∨ x = w 1) → H10[x]? = (H8)[x]? := hk0H10
    have haH8_H10 := haH8.kept (hkH10 _ haH8.lt (by omega))
    have hzH10 := hz0.at hAB hS
    have hltH10 := hmH10.lt
    refine q_ieq (tgt := 49) hx hb dX3_days_38 (by decide) (by omega) (fun c11 => ?_) (fun c11 => ?_)
    · exact (show False by omega).elim
    · refine lv_aload_n hx hb dX3_days_41 rfl (lv_at hl 0 rfl) ?_
      refine lv_iload_n hx hb dX3_days_42 rfl (lv_at hl 1 rfl) ?_
      have hmw : MWR θ S0 w H10 (up r (Int.toNat a) q9) q (up dt (Int.toNat a) ((dt a.toNat) + n)) sv t3 (dn + 1) rf kn := ⟨hzH10, hu, hmH10, (fun j hj => by have h9 := hd j hj; show -4371587 ≤ _ ∧ _; simp only [up]; (split <;> omega)), hsv⟩
      refine c_HV (As := [.int (iI a)]) (rest := []) (b := w 0) (C := RX3) fx hl (mr_became θ l S0 _ w _ _ _ _ _ _ _ _ hmw a (by omega)) (ob_recv hK hmH10.1 rfl) dX3_days_43 k1141 k1143 ks12 k6 k1144 hd_X3_became rfl ⟨by decide, by decide⟩ (Nat.le_of_ble_eq_true rfl) ⟨by dsimp only; omega, by dsimp only; omega⟩ ?_
      refine q_nm (fun z12 ez12 => ?_)
      refine lv_goto (tgt := 50) hx hb dX3_days_46 (by decide) ?_
      obtain rfl : t3 = 0 := by omega
      have hmw : MWR θ S0 w H10 (up r (Int.toNat a) q9) q (up dt (Int.toNat a) ((dt a.toNat) + n)) sv 0 (dn + 1) rf kn := ⟨hzH10, hu, hmH10, (fun j hj => by have h9 := hd j hj; show -4371587 ≤ _ ∧ _; simp only [up]; (split <;> omega)), hsv⟩
      exact e_i hx hb hr hlk hS dX3_days_50 (Nat.le_of_ble_eq_true rfl) (Nat.le_of_ble_eq_true rfl) ⟨ex_i (by subst_vars; first | omega | (simp only [up_s, inI_self, inI_1, inI_31]; done) | (simp only [up_s, inI_self, inI_1, inI_31]; omega) | (simp only [up_s, inI_self, inI_1, inI_31]; subst_vars; first | rfl | omega)), (up r (Int.toNat a) q9), q, by first | exact hmw | (subst_vars; exact hmw) | (simp only [inI_self, inI_1, inI_31] at hmw; subst_vars; exact hmw), by first | exact nw_rf | exact nw_up (by omega) | exact nw_up2 (by omega), by first | exact nw_rf | exact nw_up (by omega) | exact nw_up2 (by omega)⟩
  · exact (show False by omega).elim

set_option maxHeartbeats 4000000 in
set_option maxRecDepth 100000 in
theorem mno1_days (θ : TH) (l : Launch) (S0 : State) (H : Heap) (w : Nat → Nat) (r q : Nat → Nat) (dt : Nat → Int) (sv : Nat → Nat → Int) (th dn rf kn : Int) (hw : MWR θ S0 w H r q dt sv th dn rf kn) (a n : Int) (h_0 : -2147483648 ≤ a ∧ a < 2147483648) (h_1 : -2147483648 ≤ n ∧ n < 2147483648) (h_2 : ¬ (0 ≤ a ∧ a < 6)) : CT l yX3_days cX3_days 3 (some .int) 2 42 0 0 [.ref (w 0), .int (iI a), .int (iI n)] S0 H (fun v9 H1 => v9 = some (.int (iI 0)) ∧ ∃ r1 q1 : Nat → Nat, MWR θ S0 w H1 r1 q1 dt sv 1 dn rf kn ∧ NW 6 H.size r r1 ∧ NW 3 H.size q q1) (fun _ _ => False) (WA w H.size) := by
  refine ct_of (by decide +kernel) (Nat.le_of_ble_eq_true rfl) ?_
  intro pg en s mi args below meth co ls fx hs hr hlk hxt hin hl
  subst hs
  obtain ⟨hx, hb, hml, hown, hts⟩ := id fx.1
  have hS : va_S (WA w s.heap.size) s.heap s.heap [] := va_S.rf
  obtain ⟨hz, hu, hm, hd, hsv⟩ := id hw
  have hAB : ∀ x : Nat, (WA w s.heap.size) x → θ.2.2.2 ≤ x := wa_b hu hz.2.1
  have hz0 := hz
  have hK := sz_K fx.2 hz
  have hlt0 := hm.lt
  have hu1 := hu.1
  have hAn : ∀ x : Nat, s.heap.size ≤ x → (WA w s.heap.size) x := fun _ h => Or.inr h
  refine lv_aload_n hx hb dX3_days_0 rfl (lv_at hl 0 rfl) ?_
  refine lv_iload_n hx hb dX3_days_1 rfl (lv_at hl 1 rfl) ?_
  obtain ⟨r1, hr1⟩ := bex (a < 0 ∨ 5 < a)
  refine c_P (As := [.int (iI a)]) (rest := [.ref (w 0)]) fx hl (pm_X3_isNo l a r1 hr1 (by omega)) dX3_days_2 k1113 k1114 k6 k1115 hd_X3_isNo rfl ⟨by decide, by decide⟩ (Nat.le_of_ble_eq_true rfl) ⟨by dsimp only; omega, by dsimp only; omega⟩ ?_
  have br1 : r1 = 0 ∨ r1 = 1 := hr1.elim (fun h => Or.inr h.1) (fun h => Or.inl h.1)
  refine lv_iload_n hx hb dX3_days_5 rfl (lv_at hl 2 rfl) ?_
  refine q_ldc (n := -8000000) hx hb hown (hts _ k1194) (by decide) dX3_days_6 ?_
  refine q_ldc (n := 8000000) hx hb hown (hts _ k1195) (by decide) dX3_days_8 ?_
  obtain ⟨r2, hr2⟩ := bex (n < (-8000000) ∨ 8000000 < n)
  refine c_P (As := [.int (iI n), .int (iI (-8000000)), .int (iI 8000000)]) (rest := [.int (iI r1), .ref (w 0)]) fx hl (pm_X3_isOut l n (-8000000) 8000000 r2 hr2 (by omega) (by omega) (by omega)) dX3_days_10 k1116 k1117 k6 k1118 hd_X3_isOut rfl ⟨by decide, by decide⟩ (Nat.le_of_ble_eq_true rfl) ⟨by dsimp only; omega, by dsimp only; omega⟩ ?_
  have br2 : r2 = 0 ∨ r2 = 1 := hr2.elim (fun h => Or.inr h.1) (fun h => Or.inl h.1)
  refine q_con hx hb dX3_days_13 ?_
  obtain ⟨t3, f4, hq1t3, hq2t3⟩ := fails_ex r1 r2 0 (by omega) (by omega) (by omega)
  have hmw : MWR θ S0 w s.heap r q dt sv th dn rf kn := ⟨hz, hu, hm, hd, hsv⟩
  refine c_M (w := w) (As := [.int (iI r1), .int (iI r2), .int (iI 0)]) (rest := []) (b := w 0) (C := RX3) fx hl (mw_fails θ l S0 _ w _ _ _ _ _ _ _ _ hmw r1 r2 0 t3 f4 (by omega) hq1t3 hq2t3) (ob_recv hK hm.1 rfl) dX3_days_14 k1119 k1121 ks10 k6 k1122 hd_X3_fails rfl ⟨by decide, by decide⟩ (Nat.le_of_ble_eq_true rfl) ⟨by dsimp only; omega, by dsimp only; omega⟩ hS (fun x hx => hx ▸ Or.inl (Or.inl rfl)) (fun H5 locs hmH5 hszH5 hk0H5 hS => ?_)
  have hkH5 : ∀ x : Nat, x < (s.heap).size → ¬ x = w 0 → H5[x]? = (s.heap)[x]? := hk0H5
  have hzH5 := hz0.at hAB hS
  have hltH5 := hmH5.lt
  refine q_ieq (tgt := 22) hx hb dX3_days_17 (by decide) (by omega) (fun c6 => ?_) (fun c6 => ?_)
  · exact (show False by omega).elim
  · refine q_con hx hb dX3_days_20 ?_
    obtain rfl : t3 = 1 := by omega
    have hmw : MWR θ S0 w H5 r q dt sv 1 dn rf kn := ⟨hzH5, hu, hmH5, hd, hsv⟩
    exact e_i hx hb hr hlk hS dX3_days_21 (Nat.le_of_ble_eq_true rfl) (Nat.le_of_ble_eq_true rfl) ⟨ex_i (by omega), r, q, by first | exact hmw | (subst_vars; exact hmw) | (simp only [inI_self, inI_1, inI_31] at hmw; subst_vars; exact hmw), by first | exact nw_rf | exact nw_up (by omega) | exact nw_up2 (by omega), by first | exact nw_rf | exact nw_up (by omega) | exact nw_up2 (by omega)⟩

set_option maxHeartbeats 4000000 in
set_option maxRecDepth 100000 in
theorem mno2_days (θ : TH) (l : Launch) (S0 : State) (H : Heap) (w : Nat → Nat) (r q : Nat → Nat) (dt : Nat → Int) (sv : Nat → Nat → Int) (th dn rf kn : Int) (hw : MWR θ S0 w H r q dt sv th dn rf kn) (a n : Int) (h_0 : -2147483648 ≤ a ∧ a < 2147483648) (h_1 : -2147483648 ≤ n ∧ n < 2147483648) (h_2 : 0 ≤ a ∧ a < 6) (h_3 : ¬ (-8000000 ≤ n ∧ n ≤ 8000000)) : CT l yX3_days cX3_days 3 (some .int) 2 42 0 0 [.ref (w 0), .int (iI a), .int (iI n)] S0 H (fun v9 H1 => v9 = some (.int (iI 0)) ∧ ∃ r1 q1 : Nat → Nat, MWR θ S0 w H1 r1 q1 dt sv 2 dn rf kn ∧ NW 6 H.size r r1 ∧ NW 3 H.size q q1) (fun _ _ => False) (WA w H.size) := by
  refine ct_of (by decide +kernel) (Nat.le_of_ble_eq_true rfl) ?_
  intro pg en s mi args below meth co ls fx hs hr hlk hxt hin hl
  subst hs
  obtain ⟨hx, hb, hml, hown, hts⟩ := id fx.1
  have hS : va_S (WA w s.heap.size) s.heap s.heap [] := va_S.rf
  obtain ⟨hz, hu, hm, hd, hsv⟩ := id hw
  have hAB : ∀ x : Nat, (WA w s.heap.size) x → θ.2.2.2 ≤ x := wa_b hu hz.2.1
  have hz0 := hz
  have hK := sz_K fx.2 hz
  have hlt0 := hm.lt
  have hu1 := hu.1
  have hAn : ∀ x : Nat, s.heap.size ≤ x → (WA w s.heap.size) x := fun _ h => Or.inr h
  refine lv_aload_n hx hb dX3_days_0 rfl (lv_at hl 0 rfl) ?_
  refine lv_iload_n hx hb dX3_days_1 rfl (lv_at hl 1 rfl) ?_
  obtain ⟨r1, hr1⟩ := bex (a < 0 ∨ 5 < a)
  refine c_P (As := [.int (iI a)]) (rest := [.ref (w 0)]) fx hl (pm_X3_isNo l a r1 hr1 (by omega)) dX3_days_2 k1113 k1114 k6 k1115 hd_X3_isNo rfl ⟨by decide, by decide⟩ (Nat.le_of_ble_eq_true rfl) ⟨by dsimp only; omega, by dsimp only; omega⟩ ?_
  have br1 : r1 = 0 ∨ r1 = 1 := hr1.elim (fun h => Or.inr h.1) (fun h => Or.inl h.1)
  refine lv_iload_n hx hb dX3_days_5 rfl (lv_at hl 2 rfl) ?_
  refine q_ldc (n := -8000000) hx hb hown (hts _ k1194) (by decide) dX3_days_6 ?_
  refine q_ldc (n := 8000000) hx hb hown (hts _ k1195) (by decide) dX3_days_8 ?_
  obtain ⟨r2, hr2⟩ := bex (n < (-8000000) ∨ 8000000 < n)
  refine c_P (As := [.int (iI n), .int (iI (-8000000)), .int (iI 8000000)]) (rest := [.int (iI r1), .ref (w 0)]) fx hl (pm_X3_isOut l n (-8000000) 8000000 r2 hr2 (by omega) (by omega) (by omega)) dX3_days_10 k1116 k1117 k6 k1118 hd_X3_isOut rfl ⟨by decide, by decide⟩ (Nat.le_of_ble_eq_true rfl) ⟨by dsimp only; omega, by dsimp only; omega⟩ ?_
  have br2 : r2 = 0 ∨ r2 = 1 := hr2.elim (fun h => Or.inr h.1) (fun h => Or.inl h.1)
  refine q_con hx hb dX3_days_13 ?_
  obtain ⟨t3, f4, hq1t3, hq2t3⟩ := fails_ex r1 r2 0 (by omega) (by omega) (by omega)
  have hmw : MWR θ S0 w s.heap r q dt sv th dn rf kn := ⟨hz, hu, hm, hd, hsv⟩
  refine c_M (w := w) (As := [.int (iI r1), .int (iI r2), .int (iI 0)]) (rest := []) (b := w 0) (C := RX3) fx hl (mw_fails θ l S0 _ w _ _ _ _ _ _ _ _ hmw r1 r2 0 t3 f4 (by omega) hq1t3 hq2t3) (ob_recv hK hm.1 rfl) dX3_days_14 k1119 k1121 ks10 k6 k1122 hd_X3_fails rfl ⟨by decide, by decide⟩ (Nat.le_of_ble_eq_true rfl) ⟨by dsimp only; omega, by dsimp only; omega⟩ hS (fun x hx => hx ▸ Or.inl (Or.inl rfl)) (fun H5 locs hmH5 hszH5 hk0H5 hS => ?_)
  have hkH5 : ∀ x : Nat, x < (s.heap).size → ¬ x = w 0 → H5[x]? = (s.heap)[x]? := hk0H5
  have hzH5 := hz0.at hAB hS
  have hltH5 := hmH5.lt
  refine q_ieq (tgt := 22) hx hb dX3_days_17 (by decide) (by omega) (fun c6 => ?_) (fun c6 => ?_)
  · exact (show False by omega).elim
  · refine q_con hx hb dX3_days_20 ?_
    obtain rfl : t3 = 2 := by omega
    have hmw : MWR θ S0 w H5 r q dt sv 2 dn rf kn := ⟨hzH5, hu, hmH5, hd, hsv⟩
    exact e_i hx hb hr hlk hS dX3_days_21 (Nat.le_of_ble_eq_true rfl) (Nat.le_of_ble_eq_true rfl) ⟨ex_i (by omega), r, q, by first | exact hmw | (subst_vars; exact hmw) | (simp only [inI_self, inI_1, inI_31] at hmw; subst_vars; exact hmw), by first | exact nw_rf | exact nw_up (by omega) | exact nw_up2 (by omega), by first | exact nw_rf | exact nw_up (by omega) | exact nw_up2 (by omega)⟩

set_option maxHeartbeats 4000000 in
set_option maxRecDepth 100000 in
theorem mno3_days (θ : TH) (l : Launch) (S0 : State) (H : Heap) (w : Nat → Nat) (r q : Nat → Nat) (dt : Nat → Int) (sv : Nat → Nat → Int) (th dn rf kn : Int) (hw : MWR θ S0 w H r q dt sv th dn rf kn) (a n : Int) (h_0 : -2147483648 ≤ a ∧ a < 2147483648) (h_1 : -2147483648 ≤ n ∧ n < 2147483648) (h_2 : 0 ≤ a ∧ a < 6) (h_3 : -8000000 ≤ n ∧ n ≤ 8000000) (h_4 : ¬ (-4371587 ≤ (dt a.toNat + n) ∧ (dt a.toNat + n) ≤ 2932896)) : CT l yX3_days cX3_days 3 (some .int) 8 170 1 2 [.ref (w 0), .int (iI a), .int (iI n)] S0 H (fun v9 H1 => v9 = some (.int (iI 0)) ∧ ∃ r1 q1 : Nat → Nat, MWR θ S0 w H1 r1 q1 dt sv 3 dn rf kn ∧ NW 6 H.size r r1 ∧ NW 3 H.size q q1) (fun _ _ => False) (WA w H.size) := by
  refine ct_of (by decide +kernel) (Nat.le_of_ble_eq_true rfl) ?_
  intro pg en s mi args below meth co ls fx hs hr hlk hxt hin hl
  subst hs
  obtain ⟨hx, hb, hml, hown, hts⟩ := id fx.1
  have hS : va_S (WA w s.heap.size) s.heap s.heap [] := va_S.rf
  obtain ⟨hz, hu, hm, hd, hsv⟩ := id hw
  have hAB : ∀ x : Nat, (WA w s.heap.size) x → θ.2.2.2 ≤ x := wa_b hu hz.2.1
  have hz0 := hz
  have hK := sz_K fx.2 hz
  have hlt0 := hm.lt
  have hu1 := hu.1
  have hAn : ∀ x : Nat, s.heap.size ≤ x → (WA w s.heap.size) x := fun _ h => Or.inr h
  refine lv_aload_n hx hb dX3_days_0 rfl (lv_at hl 0 rfl) ?_
  refine lv_iload_n hx hb dX3_days_1 rfl (lv_at hl 1 rfl) ?_
  obtain ⟨r1, hr1⟩ := bex (a < 0 ∨ 5 < a)
  refine c_P (As := [.int (iI a)]) (rest := [.ref (w 0)]) fx hl (pm_X3_isNo l a r1 hr1 (by omega)) dX3_days_2 k1113 k1114 k6 k1115 hd_X3_isNo rfl ⟨by decide, by decide⟩ (Nat.le_of_ble_eq_true rfl) ⟨by dsimp only; omega, by dsimp only; omega⟩ ?_
  have br1 : r1 = 0 ∨ r1 = 1 := hr1.elim (fun h => Or.inr h.1) (fun h => Or.inl h.1)
  refine lv_iload_n hx hb dX3_days_5 rfl (lv_at hl 2 rfl) ?_
  refine q_ldc (n := -8000000) hx hb hown (hts _ k1194) (by decide) dX3_days_6 ?_
  refine q_ldc (n := 8000000) hx hb hown (hts _ k1195) (by decide) dX3_days_8 ?_
  obtain ⟨r2, hr2⟩ := bex (n < (-8000000) ∨ 8000000 < n)
  refine c_P (As := [.int (iI n), .int (iI (-8000000)), .int (iI 8000000)]) (rest := [.int (iI r1), .ref (w 0)]) fx hl (pm_X3_isOut l n (-8000000) 8000000 r2 hr2 (by omega) (by omega) (by omega)) dX3_days_10 k1116 k1117 k6 k1118 hd_X3_isOut rfl ⟨by decide, by decide⟩ (Nat.le_of_ble_eq_true rfl) ⟨by dsimp only; omega, by dsimp only; omega⟩ ?_
  have br2 : r2 = 0 ∨ r2 = 1 := hr2.elim (fun h => Or.inr h.1) (fun h => Or.inl h.1)
  refine q_con hx hb dX3_days_13 ?_
  obtain ⟨t3, f4, hq1t3, hq2t3⟩ := fails_ex r1 r2 0 (by omega) (by omega) (by omega)
  have hmw : MWR θ S0 w s.heap r q dt sv th dn rf kn := ⟨hz, hu, hm, hd, hsv⟩
  refine c_M (w := w) (As := [.int (iI r1), .int (iI r2), .int (iI 0)]) (rest := []) (b := w 0) (C := RX3) fx hl (mw_fails θ l S0 _ w _ _ _ _ _ _ _ _ hmw r1 r2 0 t3 f4 (by omega) hq1t3 hq2t3) (ob_recv hK hm.1 rfl) dX3_days_14 k1119 k1121 ks10 k6 k1122 hd_X3_fails rfl ⟨by decide, by decide⟩ (Nat.le_of_ble_eq_true rfl) ⟨by dsimp only; omega, by dsimp only; omega⟩ hS (fun x hx => hx ▸ Or.inl (Or.inl rfl)) (fun H5 locs hmH5 hszH5 hk0H5 hS => ?_)
  have hkH5 : ∀ x : Nat, x < (s.heap).size → ¬ x = w 0 → H5[x]? = (s.heap)[x]? := hk0H5
  have hzH5 := hz0.at hAB hS
  have hltH5 := hmH5.lt
  refine q_ieq (tgt := 22) hx hb dX3_days_17 (by decide) (by omega) (fun c6 => ?_) (fun c6 => ?_)
  · refine lv_aload_n hx hb dX3_days_22 rfl (lv_at hl 0 rfl) ?_
    refine lv_iload_n hx hb dX3_days_23 rfl (lv_at hl 1 rfl) ?_
    refine lv_aload_n hx hb dX3_days_24 rfl (lv_at hl 0 rfl) ?_
    refine r_get (θ := θ) (C := RX3) (T := TX3) (N := 6) (ci := 9) hx hb hts gwX3 hown hK hmH5.1 rfl 4 (by decide) k1094 (fun _ h => h) (v := .ref (w 1)) rfl dX3_days_25 ?_
    refine lv_iload_n hx hb dX3_days_28 rfl (lv_at hl 1 rfl) ?_
    refine r_aald (θ := θ) hx hb hK hmH5.2.1 (i := a) (by omega) (by decide) dX3_days_29 ?_
    have rw7 := (hmH5.2.2.2.1 (a.toNat) (by omega)).1
    have rw7n := (hmH5.2.2.2.1 (a.toNat) (by omega)).2
    have rw7t := hd (a.toNat) (by omega)
    have rw7l := rw7.lt
    have rw7i := inR rw7t
    have rw7m := inM rw7i
    have rw7d := dI_b (dt a.toNat)
    refine lv_iload_n hx hb dX3_days_30 rfl (lv_at hl 2 rfl) ?_
    refine c_NR (θ := θ) (As := [.ref (r a.toNat), .int (iI n)]) (rest := [.int (iI a), .ref (w 0)]) fx hl (pm_X3_on θ l S0 _ hzH5 (r a.toNat) n (dt a.toNat) rw7 (by omega) (by omega)) dX3_days_31 k1196 k1197 k6 k1198 hd_X3_on rfl ⟨by decide, by decide⟩ (Nat.le_of_ble_eq_true rfl) ⟨by dsimp only; omega, by dsimp only; omega⟩ hS (fun x hx => hAn x (Nat.le_trans hS.1 hx)) (fun q9 H8 locs hqH8 haH8 hszH8 hkH8 hS => ?_)
    have rw7_H8 := rw7.kept (hkH8 _ rw7.lt)
    have hzH8 := hz0.at hAB hS
    have hmH8 := hmH5.kept hkH8
    have hltH8 := haH8.lt
    refine q_con hx hb dX3_days_34 ?_
    have hmw : MWR θ S0 w H8 r q dt sv t3 dn rf kn := ⟨hzH8, hu, hmH8, hd, hsv⟩
    refine c_M (w := w) (As := [.int (iI a), .ref q9, .int (iI 3)]) (rest := []) (b := w 0) (C := RX3) fx hl (mw_become_no θ l S0 _ w _ _ _ _ _ _ _ _ hmw a q9 3 ((dt a.toNat) + n) haH8 ⟨by omega, by omega, by omega⟩ (by omega) (by omega) (by omega)) (ob_recv hK hmH8.1 rfl) dX3_days_35 k1126 k1128 ks11 k6 k1129 hd_X3_become rfl ⟨by decide, by decide⟩ (Nat.le_of_ble_eq_true rfl) ⟨by dsimp only; omega, by dsimp only; omega⟩ hS (fun x hx => hx.elim (fun e => Or.inl (Or.inl e)) (fun e => Or.inl (Or.inr (Or.inl e)))) (fun H10 locs hmH10 hszH10 hk0H10 hS => ?_)
    have hkH10 : ∀ x : Nat, x < (H8).size → ¬ (x = w 0 ∨ x = w 1) → H10[x]? = (H8)[x]? := hk0H10
    have haH8_H10 := haH8.kept (hkH10 _ haH8.lt (by omega))
    have hzH10 := hz0.at hAB hS
    have hltH10 := hmH10.lt
    refine q_ieq (tgt := 49) hx hb dX3_days_38 (by decide) (by omega) (fun c11 => ?_) (fun c11 => ?_)
    · refine q_con hx hb dX3_days_49 ?_
      have hmw : MWR θ S0 w H10 r q dt sv 3 dn rf kn := ⟨hzH10, hu, hmH10, hd, hsv⟩
      exact e_i hx hb hr hlk hS dX3_days_50 (Nat.le_of_ble_eq_true rfl) (Nat.le_of_ble_eq_true rfl) ⟨ex_i (by omega), r, q, by first | exact hmw | (subst_vars; exact hmw) | (simp only [inI_self, inI_1, inI_31] at hmw; subst_vars; exact hmw), by first | exact nw_rf | exact nw_up (by omega) | exact nw_up2 (by omega), by first | exact nw_rf | exact nw_up (by omega) | exact nw_up2 (by omega)⟩
    · exact (show False by omega).elim
  · exact (show False by omega).elim

set_option maxHeartbeats 4000000 in
set_option maxRecDepth 100000 in
theorem mok_cycles (θ : TH) (l : Launch) (S0 : State) (H : Heap) (w : Nat → Nat) (r q : Nat → Nat) (dt : Nat → Int) (sv : Nat → Nat → Int) (th dn rf kn : Int) (hw : MWR θ S0 w H r q dt sv th dn rf kn) (a n : Int) (h_0 : -2147483648 ≤ a ∧ a < 2147483648) (h_1 : -2147483648 ≤ n ∧ n < 2147483648) (h_2 : 0 ≤ a ∧ a < 6) (h_3 : -60 ≤ n ∧ n ≤ 60) (h_4 : -4371587 ≤ shI (dt a.toNat) (4800 * n) ∧ shI (dt a.toNat) (4800 * n) ≤ 2932896) : CT l yX3_cycles cX3_cycles 3 (some .int) 8 170 1 2 [.ref (w 0), .int (iI a), .int (iI n)] S0 H (fun v9 H1 => v9 = some (.int (iI (shI (dt a.toNat) (4800 * n)))) ∧ ∃ r1 q1 : Nat → Nat, MWR θ S0 w H1 r1 q1 (up dt a.toNat (shI (dt a.toNat) (4800 * n))) sv 0 (dn + 1) rf kn ∧ NW 6 H.size r r1 ∧ NW 3 H.size q q1) (fun _ _ => False) (WA w H.size) := by
  refine ct_of (by decide +kernel) (Nat.le_of_ble_eq_true rfl) ?_
  intro pg en s mi args below meth co ls fx hs hr hlk hxt hin hl
  subst hs
  obtain ⟨hx, hb, hml, hown, hts⟩ := id fx.1
  have hS : va_S (WA w s.heap.size) s.heap s.heap [] := va_S.rf
  obtain ⟨hz, hu, hm, hd, hsv⟩ := id hw
  have hAB : ∀ x : Nat, (WA w s.heap.size) x → θ.2.2.2 ≤ x := wa_b hu hz.2.1
  have hz0 := hz
  have hK := sz_K fx.2 hz
  have hlt0 := hm.lt
  have hu1 := hu.1
  have hAn : ∀ x : Nat, s.heap.size ≤ x → (WA w s.heap.size) x := fun _ h => Or.inr h
  refine lv_aload_n hx hb dX3_cycles_0 rfl (lv_at hl 0 rfl) ?_
  refine lv_iload_n hx hb dX3_cycles_1 rfl (lv_at hl 1 rfl) ?_
  obtain ⟨r1, hr1⟩ := bex (a < 0 ∨ 5 < a)
  refine c_P (As := [.int (iI a)]) (rest := [.ref (w 0)]) fx hl (pm_X3_isNo l a r1 hr1 (by omega)) dX3_cycles_2 k1113 k1114 k6 k1115 hd_X3_isNo rfl ⟨by decide, by decide⟩ (Nat.le_of_ble_eq_true rfl) ⟨by dsimp only; omega, by dsimp only; omega⟩ ?_
  have br1 : r1 = 0 ∨ r1 = 1 := hr1.elim (fun h => Or.inr h.1) (fun h => Or.inl h.1)
  refine lv_iload_n hx hb dX3_cycles_5 rfl (lv_at hl 2 rfl) ?_
  refine q_bip hx hb dX3_cycles_6 (by decide) ?_
  refine q_bip hx hb dX3_cycles_8 (by decide) ?_
  obtain ⟨r2, hr2⟩ := bex (n < (-60) ∨ 60 < n)
  refine c_P (As := [.int (iI n), .int (iI (-60)), .int (iI 60)]) (rest := [.int (iI r1), .ref (w 0)]) fx hl (pm_X3_isOut l n (-60) 60 r2 hr2 (by omega) (by omega) (by omega)) dX3_cycles_10 k1116 k1117 k6 k1118 hd_X3_isOut rfl ⟨by decide, by decide⟩ (Nat.le_of_ble_eq_true rfl) ⟨by dsimp only; omega, by dsimp only; omega⟩ ?_
  have br2 : r2 = 0 ∨ r2 = 1 := hr2.elim (fun h => Or.inr h.1) (fun h => Or.inl h.1)
  refine q_con hx hb dX3_cycles_13 ?_
  obtain ⟨t3, f4, hq1t3, hq2t3⟩ := fails_ex r1 r2 0 (by omega) (by omega) (by omega)
  have hmw : MWR θ S0 w s.heap r q dt sv th dn rf kn := ⟨hz, hu, hm, hd, hsv⟩
  refine c_M (w := w) (As := [.int (iI r1), .int (iI r2), .int (iI 0)]) (rest := []) (b := w 0) (C := RX3) fx hl (mw_fails θ l S0 _ w _ _ _ _ _ _ _ _ hmw r1 r2 0 t3 f4 (by omega) hq1t3 hq2t3) (ob_recv hK hm.1 rfl) dX3_cycles_14 k1119 k1121 ks10 k6 k1122 hd_X3_fails rfl ⟨by decide, by decide⟩ (Nat.le_of_ble_eq_true rfl) ⟨by dsimp only; omega, by dsimp only; omega⟩ hS (fun x hx => hx ▸ Or.inl (Or.inl rfl)) (fun H5 locs hmH5 hszH5 hk0H5 hS => ?_)
  have hkH5 : ∀ x : Nat, x < (s.heap).size → ¬ x = w 0 → H5[x]? = (s.heap)[x]? := hk0H5
  have hzH5 := hz0.at hAB hS
  have hltH5 := hmH5.lt
  refine q_ieq (tgt := 22) hx hb dX3_cycles_17 (by decide) (by omega) (fun c6 => ?_) (fun c6 => ?_)
  · refine lv_aload_n hx hb dX3_cycles_22 rfl (lv_at hl 0 rfl) ?_
    refine lv_iload_n hx hb dX3_cycles_23 rfl (lv_at hl 1 rfl) ?_
    refine lv_aload_n hx hb dX3_cycles_24 rfl (lv_at hl 0 rfl) ?_
    refine r_get (θ := θ) (C := RX3) (T := TX3) (N := 6) (ci := 9) hx hb hts gwX3 hown hK hmH5.1 rfl 4 (by decide) k1094 (fun _ h => h) (v := .ref (w 1)) rfl dX3_cycles_25 ?_
    refine lv_iload_n hx hb dX3_cycles_28 rfl (lv_at hl 1 rfl) ?_
    refine r_aald (θ := θ) hx hb hK hmH5.2.1 (i := a) (by omega) (by decide) dX3_cycles_29 ?_
    have rw7 := (hmH5.2.2.2.1 (a.toNat) (by omega)).1
    have rw7n := (hmH5.2.2.2.1 (a.toNat) (by omega)).2
    have rw7t := hd (a.toNat) (by omega)
    have rw7l := rw7.lt
    have rw7i := inR rw7t
    have rw7m := inM rw7i
    have rw7d := dI_b (dt a.toNat)
    refine q_sip hx hb dX3_cycles_30 (by decide) ?_
    refine lv_iload_n hx hb dX3_cycles_33 rfl (lv_at hl 2 rfl) ?_
    refine q_mul hx hb dX3_cycles_34 ?_
    refine c_NR (θ := θ) (As := [.ref (r a.toNat), .int (iI (4800 * n))]) (rest := [.int (iI a), .ref (w 0)]) fx hl (pm_X3_shifted θ l S0 _ hzH5 (r a.toNat) (4800 * n) (dt a.toNat) rw7 (by omega) (by omega)) dX3_cycles_35 k1183 k1184 k6 k1185 hd_X3_shifted rfl ⟨by decide, by decide⟩ (Nat.le_of_ble_eq_true rfl) ⟨by dsimp only; omega, by dsimp only; omega⟩ hS (fun x hx => hAn x (Nat.le_trans hS.1 hx)) (fun q9 H8 locs hqH8 haH8 hszH8 hkH8 hS => ?_)
    have rw7_H8 := rw7.kept (hkH8 _ rw7.lt)
    have hzH8 := hz0.at hAB hS
    have hmH8 := hmH5.kept hkH8
    have hltH8 := haH8.lt
    have t0q9 := shI_s (dt a.toNat) (4800 * n)
    have t1q9 := shI_bd (dt a.toNat) (4800 * n)
    refine q_con hx hb dX3_cycles_38 ?_
    have hmw : MWR θ S0 w H8 r q dt sv t3 dn rf kn := ⟨hzH8, hu, hmH8, hd, hsv⟩
    refine c_M (w := w) (As := [.int (iI a), .ref q9, .int (iI 3)]) (rest := []) (b := w 0) (C := RX3) fx hl (mw_become_ok θ l S0 _ w _ _ _ _ _ _ _ _ hmw a q9 3 (shI (dt a.toNat) (4800 * n)) haH8 ⟨by omega, by omega, by omega⟩ (by omega) (by omega) (by omega)) (ob_recv hK hmH8.1 rfl) dX3_cycles_39 k1126 k1128 ks11 k6 k1129 hd_X3_become rfl ⟨by decide, by decide⟩ (Nat.le_of_ble_eq_true rfl) ⟨by dsimp only; omega, by dsimp only; omega⟩ hS (fun x hx => hx.elim (fun e => Or.inl (Or.inl e)) (fun e => Or.inl (Or.inr (Or.inl e)))) (fun H10 locs hmH10 hszH10 hk0H10 hS => ?_)
    have hkH10 : ∀ x : Nat, x < (H8).size → ¬ (x = w 0 ∨ x = w 1) → H10[x]? = (H8)[x]? := hk0H10
    have haH8_H10 := haH8.kept (hkH10 _ haH8.lt (by omega))
    have hzH10 := hz0.at hAB hS
    have hltH10 := hmH10.lt
    refine q_ieq (tgt := 53) hx hb dX3_cycles_42 (by decide) (by omega) (fun c11 => ?_) (fun c11 => ?_)
    · exact (show False by omega).elim
    · refine lv_aload_n hx hb dX3_cycles_45 rfl (lv_at hl 0 rfl) ?_
      refine lv_iload_n hx hb dX3_cycles_46 rfl (lv_at hl 1 rfl) ?_
      have hmw : MWR θ S0 w H10 (up r (Int.toNat a) q9) q (up dt (Int.toNat a) (shI (dt a.toNat) (4800 * n))) sv t3 (dn + 1) rf kn := ⟨hzH10, hu, hmH10, (fun j hj => by have h9 := hd j hj; show -4371587 ≤ _ ∧ _; simp only [up]; (split <;> omega)), hsv⟩
      refine c_HV (As := [.int (iI a)]) (rest := []) (b := w 0) (C := RX3) fx hl (mr_became θ l S0 _ w _ _ _ _ _ _ _ _ hmw a (by omega)) (ob_recv hK hmH10.1 rfl) dX3_cycles_47 k1141 k1143 ks12 k6 k1144 hd_X3_became rfl ⟨by decide, by decide⟩ (Nat.le_of_ble_eq_true rfl) ⟨by dsimp only; omega, by dsimp only; omega⟩ ?_
      refine q_nm (fun z12 ez12 => ?_)
      refine lv_goto (tgt := 54) hx hb dX3_cycles_50 (by decide) ?_
      obtain rfl : t3 = 0 := by omega
      have hmw : MWR θ S0 w H10 (up r (Int.toNat a) q9) q (up dt (Int.toNat a) (shI (dt a.toNat) (4800 * n))) sv 0 (dn + 1) rf kn := ⟨hzH10, hu, hmH10, (fun j hj => by have h9 := hd j hj; show -4371587 ≤ _ ∧ _; simp only [up]; (split <;> omega)), hsv⟩
      exact e_i hx hb hr hlk hS dX3_cycles_54 (Nat.le_of_ble_eq_true rfl) (Nat.le_of_ble_eq_true rfl) ⟨ex_i (by subst_vars; first | omega | (simp only [up_s, inI_self, inI_1, inI_31]; done) | (simp only [up_s, inI_self, inI_1, inI_31]; omega) | (simp only [up_s, inI_self, inI_1, inI_31]; subst_vars; first | rfl | omega)), (up r (Int.toNat a) q9), q, by first | exact hmw | (subst_vars; exact hmw) | (simp only [inI_self, inI_1, inI_31] at hmw; subst_vars; exact hmw), by first | exact nw_rf | exact nw_up (by omega) | exact nw_up2 (by omega), by first | exact nw_rf | exact nw_up (by omega) | exact nw_up2 (by omega)⟩
  · exact (show False by omega).elim

set_option maxHeartbeats 4000000 in
set_option maxRecDepth 100000 in
theorem mno1_cycles (θ : TH) (l : Launch) (S0 : State) (H : Heap) (w : Nat → Nat) (r q : Nat → Nat) (dt : Nat → Int) (sv : Nat → Nat → Int) (th dn rf kn : Int) (hw : MWR θ S0 w H r q dt sv th dn rf kn) (a n : Int) (h_0 : -2147483648 ≤ a ∧ a < 2147483648) (h_1 : -2147483648 ≤ n ∧ n < 2147483648) (h_2 : ¬ (0 ≤ a ∧ a < 6)) : CT l yX3_cycles cX3_cycles 3 (some .int) 2 42 0 0 [.ref (w 0), .int (iI a), .int (iI n)] S0 H (fun v9 H1 => v9 = some (.int (iI 0)) ∧ ∃ r1 q1 : Nat → Nat, MWR θ S0 w H1 r1 q1 dt sv 1 dn rf kn ∧ NW 6 H.size r r1 ∧ NW 3 H.size q q1) (fun _ _ => False) (WA w H.size) := by
  refine ct_of (by decide +kernel) (Nat.le_of_ble_eq_true rfl) ?_
  intro pg en s mi args below meth co ls fx hs hr hlk hxt hin hl
  subst hs
  obtain ⟨hx, hb, hml, hown, hts⟩ := id fx.1
  have hS : va_S (WA w s.heap.size) s.heap s.heap [] := va_S.rf
  obtain ⟨hz, hu, hm, hd, hsv⟩ := id hw
  have hAB : ∀ x : Nat, (WA w s.heap.size) x → θ.2.2.2 ≤ x := wa_b hu hz.2.1
  have hz0 := hz
  have hK := sz_K fx.2 hz
  have hlt0 := hm.lt
  have hu1 := hu.1
  have hAn : ∀ x : Nat, s.heap.size ≤ x → (WA w s.heap.size) x := fun _ h => Or.inr h
  refine lv_aload_n hx hb dX3_cycles_0 rfl (lv_at hl 0 rfl) ?_
  refine lv_iload_n hx hb dX3_cycles_1 rfl (lv_at hl 1 rfl) ?_
  obtain ⟨r1, hr1⟩ := bex (a < 0 ∨ 5 < a)
  refine c_P (As := [.int (iI a)]) (rest := [.ref (w 0)]) fx hl (pm_X3_isNo l a r1 hr1 (by omega)) dX3_cycles_2 k1113 k1114 k6 k1115 hd_X3_isNo rfl ⟨by decide, by decide⟩ (Nat.le_of_ble_eq_true rfl) ⟨by dsimp only; omega, by dsimp only; omega⟩ ?_
  have br1 : r1 = 0 ∨ r1 = 1 := hr1.elim (fun h => Or.inr h.1) (fun h => Or.inl h.1)
  refine lv_iload_n hx hb dX3_cycles_5 rfl (lv_at hl 2 rfl) ?_
  refine q_bip hx hb dX3_cycles_6 (by decide) ?_
  refine q_bip hx hb dX3_cycles_8 (by decide) ?_
  obtain ⟨r2, hr2⟩ := bex (n < (-60) ∨ 60 < n)
  refine c_P (As := [.int (iI n), .int (iI (-60)), .int (iI 60)]) (rest := [.int (iI r1), .ref (w 0)]) fx hl (pm_X3_isOut l n (-60) 60 r2 hr2 (by omega) (by omega) (by omega)) dX3_cycles_10 k1116 k1117 k6 k1118 hd_X3_isOut rfl ⟨by decide, by decide⟩ (Nat.le_of_ble_eq_true rfl) ⟨by dsimp only; omega, by dsimp only; omega⟩ ?_
  have br2 : r2 = 0 ∨ r2 = 1 := hr2.elim (fun h => Or.inr h.1) (fun h => Or.inl h.1)
  refine q_con hx hb dX3_cycles_13 ?_
  obtain ⟨t3, f4, hq1t3, hq2t3⟩ := fails_ex r1 r2 0 (by omega) (by omega) (by omega)
  have hmw : MWR θ S0 w s.heap r q dt sv th dn rf kn := ⟨hz, hu, hm, hd, hsv⟩
  refine c_M (w := w) (As := [.int (iI r1), .int (iI r2), .int (iI 0)]) (rest := []) (b := w 0) (C := RX3) fx hl (mw_fails θ l S0 _ w _ _ _ _ _ _ _ _ hmw r1 r2 0 t3 f4 (by omega) hq1t3 hq2t3) (ob_recv hK hm.1 rfl) dX3_cycles_14 k1119 k1121 ks10 k6 k1122 hd_X3_fails rfl ⟨by decide, by decide⟩ (Nat.le_of_ble_eq_true rfl) ⟨by dsimp only; omega, by dsimp only; omega⟩ hS (fun x hx => hx ▸ Or.inl (Or.inl rfl)) (fun H5 locs hmH5 hszH5 hk0H5 hS => ?_)
  have hkH5 : ∀ x : Nat, x < (s.heap).size → ¬ x = w 0 → H5[x]? = (s.heap)[x]? := hk0H5
  have hzH5 := hz0.at hAB hS
  have hltH5 := hmH5.lt
  refine q_ieq (tgt := 22) hx hb dX3_cycles_17 (by decide) (by omega) (fun c6 => ?_) (fun c6 => ?_)
  · exact (show False by omega).elim
  · refine q_con hx hb dX3_cycles_20 ?_
    obtain rfl : t3 = 1 := by omega
    have hmw : MWR θ S0 w H5 r q dt sv 1 dn rf kn := ⟨hzH5, hu, hmH5, hd, hsv⟩
    exact e_i hx hb hr hlk hS dX3_cycles_21 (Nat.le_of_ble_eq_true rfl) (Nat.le_of_ble_eq_true rfl) ⟨ex_i (by omega), r, q, by first | exact hmw | (subst_vars; exact hmw) | (simp only [inI_self, inI_1, inI_31] at hmw; subst_vars; exact hmw), by first | exact nw_rf | exact nw_up (by omega) | exact nw_up2 (by omega), by first | exact nw_rf | exact nw_up (by omega) | exact nw_up2 (by omega)⟩

set_option maxHeartbeats 4000000 in
set_option maxRecDepth 100000 in
theorem mno2_cycles (θ : TH) (l : Launch) (S0 : State) (H : Heap) (w : Nat → Nat) (r q : Nat → Nat) (dt : Nat → Int) (sv : Nat → Nat → Int) (th dn rf kn : Int) (hw : MWR θ S0 w H r q dt sv th dn rf kn) (a n : Int) (h_0 : -2147483648 ≤ a ∧ a < 2147483648) (h_1 : -2147483648 ≤ n ∧ n < 2147483648) (h_2 : 0 ≤ a ∧ a < 6) (h_3 : ¬ (-60 ≤ n ∧ n ≤ 60)) : CT l yX3_cycles cX3_cycles 3 (some .int) 2 42 0 0 [.ref (w 0), .int (iI a), .int (iI n)] S0 H (fun v9 H1 => v9 = some (.int (iI 0)) ∧ ∃ r1 q1 : Nat → Nat, MWR θ S0 w H1 r1 q1 dt sv 2 dn rf kn ∧ NW 6 H.size r r1 ∧ NW 3 H.size q q1) (fun _ _ => False) (WA w H.size) := by
  refine ct_of (by decide +kernel) (Nat.le_of_ble_eq_true rfl) ?_
  intro pg en s mi args below meth co ls fx hs hr hlk hxt hin hl
  subst hs
  obtain ⟨hx, hb, hml, hown, hts⟩ := id fx.1
  have hS : va_S (WA w s.heap.size) s.heap s.heap [] := va_S.rf
  obtain ⟨hz, hu, hm, hd, hsv⟩ := id hw
  have hAB : ∀ x : Nat, (WA w s.heap.size) x → θ.2.2.2 ≤ x := wa_b hu hz.2.1
  have hz0 := hz
  have hK := sz_K fx.2 hz
  have hlt0 := hm.lt
  have hu1 := hu.1
  have hAn : ∀ x : Nat, s.heap.size ≤ x → (WA w s.heap.size) x := fun _ h => Or.inr h
  refine lv_aload_n hx hb dX3_cycles_0 rfl (lv_at hl 0 rfl) ?_
  refine lv_iload_n hx hb dX3_cycles_1 rfl (lv_at hl 1 rfl) ?_
  obtain ⟨r1, hr1⟩ := bex (a < 0 ∨ 5 < a)
  refine c_P (As := [.int (iI a)]) (rest := [.ref (w 0)]) fx hl (pm_X3_isNo l a r1 hr1 (by omega)) dX3_cycles_2 k1113 k1114 k6 k1115 hd_X3_isNo rfl ⟨by decide, by decide⟩ (Nat.le_of_ble_eq_true rfl) ⟨by dsimp only; omega, by dsimp only; omega⟩ ?_
  have br1 : r1 = 0 ∨ r1 = 1 := hr1.elim (fun h => Or.inr h.1) (fun h => Or.inl h.1)
  refine lv_iload_n hx hb dX3_cycles_5 rfl (lv_at hl 2 rfl) ?_
  refine q_bip hx hb dX3_cycles_6 (by decide) ?_
  refine q_bip hx hb dX3_cycles_8 (by decide) ?_
  obtain ⟨r2, hr2⟩ := bex (n < (-60) ∨ 60 < n)
  refine c_P (As := [.int (iI n), .int (iI (-60)), .int (iI 60)]) (rest := [.int (iI r1), .ref (w 0)]) fx hl (pm_X3_isOut l n (-60) 60 r2 hr2 (by omega) (by omega) (by omega)) dX3_cycles_10 k1116 k1117 k6 k1118 hd_X3_isOut rfl ⟨by decide, by decide⟩ (Nat.le_of_ble_eq_true rfl) ⟨by dsimp only; omega, by dsimp only; omega⟩ ?_
  have br2 : r2 = 0 ∨ r2 = 1 := hr2.elim (fun h => Or.inr h.1) (fun h => Or.inl h.1)
  refine q_con hx hb dX3_cycles_13 ?_
  obtain ⟨t3, f4, hq1t3, hq2t3⟩ := fails_ex r1 r2 0 (by omega) (by omega) (by omega)
  have hmw : MWR θ S0 w s.heap r q dt sv th dn rf kn := ⟨hz, hu, hm, hd, hsv⟩
  refine c_M (w := w) (As := [.int (iI r1), .int (iI r2), .int (iI 0)]) (rest := []) (b := w 0) (C := RX3) fx hl (mw_fails θ l S0 _ w _ _ _ _ _ _ _ _ hmw r1 r2 0 t3 f4 (by omega) hq1t3 hq2t3) (ob_recv hK hm.1 rfl) dX3_cycles_14 k1119 k1121 ks10 k6 k1122 hd_X3_fails rfl ⟨by decide, by decide⟩ (Nat.le_of_ble_eq_true rfl) ⟨by dsimp only; omega, by dsimp only; omega⟩ hS (fun x hx => hx ▸ Or.inl (Or.inl rfl)) (fun H5 locs hmH5 hszH5 hk0H5 hS => ?_)
  have hkH5 : ∀ x : Nat, x < (s.heap).size → ¬ x = w 0 → H5[x]? = (s.heap)[x]? := hk0H5
  have hzH5 := hz0.at hAB hS
  have hltH5 := hmH5.lt
  refine q_ieq (tgt := 22) hx hb dX3_cycles_17 (by decide) (by omega) (fun c6 => ?_) (fun c6 => ?_)
  · exact (show False by omega).elim
  · refine q_con hx hb dX3_cycles_20 ?_
    obtain rfl : t3 = 2 := by omega
    have hmw : MWR θ S0 w H5 r q dt sv 2 dn rf kn := ⟨hzH5, hu, hmH5, hd, hsv⟩
    exact e_i hx hb hr hlk hS dX3_cycles_21 (Nat.le_of_ble_eq_true rfl) (Nat.le_of_ble_eq_true rfl) ⟨ex_i (by omega), r, q, by first | exact hmw | (subst_vars; exact hmw) | (simp only [inI_self, inI_1, inI_31] at hmw; subst_vars; exact hmw), by first | exact nw_rf | exact nw_up (by omega) | exact nw_up2 (by omega), by first | exact nw_rf | exact nw_up (by omega) | exact nw_up2 (by omega)⟩

set_option maxHeartbeats 4000000 in
set_option maxRecDepth 100000 in
theorem mno3_cycles (θ : TH) (l : Launch) (S0 : State) (H : Heap) (w : Nat → Nat) (r q : Nat → Nat) (dt : Nat → Int) (sv : Nat → Nat → Int) (th dn rf kn : Int) (hw : MWR θ S0 w H r q dt sv th dn rf kn) (a n : Int) (h_0 : -2147483648 ≤ a ∧ a < 2147483648) (h_1 : -2147483648 ≤ n ∧ n < 2147483648) (h_2 : 0 ≤ a ∧ a < 6) (h_3 : -60 ≤ n ∧ n ≤ 60) (h_4 : ¬ (-4371587 ≤ shI (dt a.toNat) (4800 * n) ∧ shI (dt a.toNat) (4800 * n) ≤ 2932896)) : CT l yX3_cycles cX3_cycles 3 (some .int) 8 170 1 2 [.ref (w 0), .int (iI a), .int (iI n)] S0 H (fun v9 H1 => v9 = some (.int (iI 0)) ∧ ∃ r1 q1 : Nat → Nat, MWR θ S0 w H1 r1 q1 dt sv 3 dn rf kn ∧ NW 6 H.size r r1 ∧ NW 3 H.size q q1) (fun _ _ => False) (WA w H.size) := by
  refine ct_of (by decide +kernel) (Nat.le_of_ble_eq_true rfl) ?_
  intro pg en s mi args below meth co ls fx hs hr hlk hxt hin hl
  subst hs
  obtain ⟨hx, hb, hml, hown, hts⟩ := id fx.1
  have hS : va_S (WA w s.heap.size) s.heap s.heap [] := va_S.rf
  obtain ⟨hz, hu, hm, hd, hsv⟩ := id hw
  have hAB : ∀ x : Nat, (WA w s.heap.size) x → θ.2.2.2 ≤ x := wa_b hu hz.2.1
  have hz0 := hz
  have hK := sz_K fx.2 hz
  have hlt0 := hm.lt
  have hu1 := hu.1
  have hAn : ∀ x : Nat, s.heap.size ≤ x → (WA w s.heap.size) x := fun _ h => Or.inr h
  refine lv_aload_n hx hb dX3_cycles_0 rfl (lv_at hl 0 rfl) ?_
  refine lv_iload_n hx hb dX3_cycles_1 rfl (lv_at hl 1 rfl) ?_
  obtain ⟨r1, hr1⟩ := bex (a < 0 ∨ 5 < a)
  refine c_P (As := [.int (iI a)]) (rest := [.ref (w 0)]) fx hl (pm_X3_isNo l a r1 hr1 (by omega)) dX3_cycles_2 k1113 k1114 k6 k1115 hd_X3_isNo rfl ⟨by decide, by decide⟩ (Nat.le_of_ble_eq_true rfl) ⟨by dsimp only; omega, by dsimp only; omega⟩ ?_
  have br1 : r1 = 0 ∨ r1 = 1 := hr1.elim (fun h => Or.inr h.1) (fun h => Or.inl h.1)
  refine lv_iload_n hx hb dX3_cycles_5 rfl (lv_at hl 2 rfl) ?_
  refine q_bip hx hb dX3_cycles_6 (by decide) ?_
  refine q_bip hx hb dX3_cycles_8 (by decide) ?_
  obtain ⟨r2, hr2⟩ := bex (n < (-60) ∨ 60 < n)
  refine c_P (As := [.int (iI n), .int (iI (-60)), .int (iI 60)]) (rest := [.int (iI r1), .ref (w 0)]) fx hl (pm_X3_isOut l n (-60) 60 r2 hr2 (by omega) (by omega) (by omega)) dX3_cycles_10 k1116 k1117 k6 k1118 hd_X3_isOut rfl ⟨by decide, by decide⟩ (Nat.le_of_ble_eq_true rfl) ⟨by dsimp only; omega, by dsimp only; omega⟩ ?_
  have br2 : r2 = 0 ∨ r2 = 1 := hr2.elim (fun h => Or.inr h.1) (fun h => Or.inl h.1)
  refine q_con hx hb dX3_cycles_13 ?_
  obtain ⟨t3, f4, hq1t3, hq2t3⟩ := fails_ex r1 r2 0 (by omega) (by omega) (by omega)
  have hmw : MWR θ S0 w s.heap r q dt sv th dn rf kn := ⟨hz, hu, hm, hd, hsv⟩
  refine c_M (w := w) (As := [.int (iI r1), .int (iI r2), .int (iI 0)]) (rest := []) (b := w 0) (C := RX3) fx hl (mw_fails θ l S0 _ w _ _ _ _ _ _ _ _ hmw r1 r2 0 t3 f4 (by omega) hq1t3 hq2t3) (ob_recv hK hm.1 rfl) dX3_cycles_14 k1119 k1121 ks10 k6 k1122 hd_X3_fails rfl ⟨by decide, by decide⟩ (Nat.le_of_ble_eq_true rfl) ⟨by dsimp only; omega, by dsimp only; omega⟩ hS (fun x hx => hx ▸ Or.inl (Or.inl rfl)) (fun H5 locs hmH5 hszH5 hk0H5 hS => ?_)
  have hkH5 : ∀ x : Nat, x < (s.heap).size → ¬ x = w 0 → H5[x]? = (s.heap)[x]? := hk0H5
  have hzH5 := hz0.at hAB hS
  have hltH5 := hmH5.lt
  refine q_ieq (tgt := 22) hx hb dX3_cycles_17 (by decide) (by omega) (fun c6 => ?_) (fun c6 => ?_)
  · refine lv_aload_n hx hb dX3_cycles_22 rfl (lv_at hl 0 rfl) ?_
    refine lv_iload_n hx hb dX3_cycles_23 rfl (lv_at hl 1 rfl) ?_
    refine lv_aload_n hx hb dX3_cycles_24 rfl (lv_at hl 0 rfl) ?_
    refine r_get (θ := θ) (C := RX3) (T := TX3) (N := 6) (ci := 9) hx hb hts gwX3 hown hK hmH5.1 rfl 4 (by decide) k1094 (fun _ h => h) (v := .ref (w 1)) rfl dX3_cycles_25 ?_
    refine lv_iload_n hx hb dX3_cycles_28 rfl (lv_at hl 1 rfl) ?_
    refine r_aald (θ := θ) hx hb hK hmH5.2.1 (i := a) (by omega) (by decide) dX3_cycles_29 ?_
    have rw7 := (hmH5.2.2.2.1 (a.toNat) (by omega)).1
    have rw7n := (hmH5.2.2.2.1 (a.toNat) (by omega)).2
    have rw7t := hd (a.toNat) (by omega)
    have rw7l := rw7.lt
    have rw7i := inR rw7t
    have rw7m := inM rw7i
    have rw7d := dI_b (dt a.toNat)
    refine q_sip hx hb dX3_cycles_30 (by decide) ?_
    refine lv_iload_n hx hb dX3_cycles_33 rfl (lv_at hl 2 rfl) ?_
    refine q_mul hx hb dX3_cycles_34 ?_
    refine c_NR (θ := θ) (As := [.ref (r a.toNat), .int (iI (4800 * n))]) (rest := [.int (iI a), .ref (w 0)]) fx hl (pm_X3_shifted θ l S0 _ hzH5 (r a.toNat) (4800 * n) (dt a.toNat) rw7 (by omega) (by omega)) dX3_cycles_35 k1183 k1184 k6 k1185 hd_X3_shifted rfl ⟨by decide, by decide⟩ (Nat.le_of_ble_eq_true rfl) ⟨by dsimp only; omega, by dsimp only; omega⟩ hS (fun x hx => hAn x (Nat.le_trans hS.1 hx)) (fun q9 H8 locs hqH8 haH8 hszH8 hkH8 hS => ?_)
    have rw7_H8 := rw7.kept (hkH8 _ rw7.lt)
    have hzH8 := hz0.at hAB hS
    have hmH8 := hmH5.kept hkH8
    have hltH8 := haH8.lt
    have t0q9 := shI_s (dt a.toNat) (4800 * n)
    have t1q9 := shI_bd (dt a.toNat) (4800 * n)
    refine q_con hx hb dX3_cycles_38 ?_
    have hmw : MWR θ S0 w H8 r q dt sv t3 dn rf kn := ⟨hzH8, hu, hmH8, hd, hsv⟩
    refine c_M (w := w) (As := [.int (iI a), .ref q9, .int (iI 3)]) (rest := []) (b := w 0) (C := RX3) fx hl (mw_become_no θ l S0 _ w _ _ _ _ _ _ _ _ hmw a q9 3 (shI (dt a.toNat) (4800 * n)) haH8 ⟨by omega, by omega, by omega⟩ (by omega) (by omega) (by omega)) (ob_recv hK hmH8.1 rfl) dX3_cycles_39 k1126 k1128 ks11 k6 k1129 hd_X3_become rfl ⟨by decide, by decide⟩ (Nat.le_of_ble_eq_true rfl) ⟨by dsimp only; omega, by dsimp only; omega⟩ hS (fun x hx => hx.elim (fun e => Or.inl (Or.inl e)) (fun e => Or.inl (Or.inr (Or.inl e)))) (fun H10 locs hmH10 hszH10 hk0H10 hS => ?_)
    have hkH10 : ∀ x : Nat, x < (H8).size → ¬ (x = w 0 ∨ x = w 1) → H10[x]? = (H8)[x]? := hk0H10
    have haH8_H10 := haH8.kept (hkH10 _ haH8.lt (by omega))
    have hzH10 := hz0.at hAB hS
    have hltH10 := hmH10.lt
    refine q_ieq (tgt := 53) hx hb dX3_cycles_42 (by decide) (by omega) (fun c11 => ?_) (fun c11 => ?_)
    · refine q_con hx hb dX3_cycles_53 ?_
      have hmw : MWR θ S0 w H10 r q dt sv 3 dn rf kn := ⟨hzH10, hu, hmH10, hd, hsv⟩
      exact e_i hx hb hr hlk hS dX3_cycles_54 (Nat.le_of_ble_eq_true rfl) (Nat.le_of_ble_eq_true rfl) ⟨ex_i (by omega), r, q, by first | exact hmw | (subst_vars; exact hmw) | (simp only [inI_self, inI_1, inI_31] at hmw; subst_vars; exact hmw), by first | exact nw_rf | exact nw_up (by omega) | exact nw_up2 (by omega), by first | exact nw_rf | exact nw_up (by omega) | exact nw_up2 (by omega)⟩
    · exact (show False by omega).elim
  · exact (show False by omega).elim

set_option maxHeartbeats 4000000 in
set_option maxRecDepth 100000 in
theorem mok_month (θ : TH) (l : Launch) (S0 : State) (H : Heap) (w : Nat → Nat) (r q : Nat → Nat) (dt : Nat → Int) (sv : Nat → Nat → Int) (th dn rf kn : Int) (hw : MWR θ S0 w H r q dt sv th dn rf kn) (a : Int) (h_0 : -2147483648 ≤ a ∧ a < 2147483648) (h_1 : 0 ≤ a ∧ a < 6) : CT l yX3_month cX3_month 2 (some .int) 2 42 0 0 [.ref (w 0), .int (iI a)] S0 H (fun v9 H1 => v9 = some (.int (iI (mI (dt a.toNat)))) ∧ ∃ r1 q1 : Nat → Nat, MWR θ S0 w H1 r1 q1 dt sv 0 dn rf kn ∧ NW 6 H.size r r1 ∧ NW 3 H.size q q1) (fun _ _ => False) (WA w H.size) := by
  refine ct_of (by decide +kernel) (Nat.le_of_ble_eq_true rfl) ?_
  intro pg en s mi args below meth co ls fx hs hr hlk hxt hin hl
  subst hs
  obtain ⟨hx, hb, hml, hown, hts⟩ := id fx.1
  have hS : va_S (WA w s.heap.size) s.heap s.heap [] := va_S.rf
  obtain ⟨hz, hu, hm, hd, hsv⟩ := id hw
  have hAB : ∀ x : Nat, (WA w s.heap.size) x → θ.2.2.2 ≤ x := wa_b hu hz.2.1
  have hz0 := hz
  have hK := sz_K fx.2 hz
  have hlt0 := hm.lt
  have hu1 := hu.1
  have hAn : ∀ x : Nat, s.heap.size ≤ x → (WA w s.heap.size) x := fun _ h => Or.inr h
  have tt1 := inR (hd a.toNat (by omega))
  refine lv_aload_n hx hb dX3_month_0 rfl (lv_at hl 0 rfl) ?_
  refine lv_iload_n hx hb dX3_month_1 rfl (lv_at hl 1 rfl) ?_
  obtain ⟨r1, hr1⟩ := bex (a < 0 ∨ 5 < a)
  refine c_P (As := [.int (iI a)]) (rest := [.ref (w 0)]) fx hl (pm_X3_isNo l a r1 hr1 (by omega)) dX3_month_2 k1113 k1114 k6 k1115 hd_X3_isNo rfl ⟨by decide, by decide⟩ (Nat.le_of_ble_eq_true rfl) ⟨by dsimp only; omega, by dsimp only; omega⟩ ?_
  have br1 : r1 = 0 ∨ r1 = 1 := hr1.elim (fun h => Or.inr h.1) (fun h => Or.inl h.1)
  refine q_con hx hb dX3_month_5 ?_
  refine q_con hx hb dX3_month_6 ?_
  obtain ⟨t2, f3, hq1t2, hq2t2⟩ := fails_ex r1 0 0 (by omega) (by omega) (by omega)
  have hmw : MWR θ S0 w s.heap r q dt sv th dn rf kn := ⟨hz, hu, hm, hd, hsv⟩
  refine c_M (w := w) (As := [.int (iI r1), .int (iI 0), .int (iI 0)]) (rest := []) (b := w 0) (C := RX3) fx hl (mw_fails θ l S0 _ w _ _ _ _ _ _ _ _ hmw r1 0 0 t2 f3 (by omega) hq1t2 hq2t2) (ob_recv hK hm.1 rfl) dX3_month_7 k1119 k1121 ks10 k6 k1122 hd_X3_fails rfl ⟨by decide, by decide⟩ (Nat.le_of_ble_eq_true rfl) ⟨by dsimp only; omega, by dsimp only; omega⟩ hS (fun x hx => hx ▸ Or.inl (Or.inl rfl)) (fun H4 locs hmH4 hszH4 hk0H4 hS => ?_)
  have hkH4 : ∀ x : Nat, x < (s.heap).size → ¬ x = w 0 → H4[x]? = (s.heap)[x]? := hk0H4
  have hzH4 := hz0.at hAB hS
  have hltH4 := hmH4.lt
  refine q_ieq (tgt := 17) hx hb dX3_month_10 (by decide) (by omega) (fun c5 => ?_) (fun c5 => ?_)
  · refine lv_aload_n hx hb dX3_month_17 rfl (lv_at hl 0 rfl) ?_
    refine r_get (θ := θ) (C := RX3) (T := TX3) (N := 6) (ci := 9) hx hb hts gwX3 hown hK hmH4.1 rfl 4 (by decide) k1094 (fun _ h => h) (v := .ref (w 1)) rfl dX3_month_18 ?_
    refine lv_iload_n hx hb dX3_month_21 rfl (lv_at hl 1 rfl) ?_
    refine r_aald (θ := θ) hx hb hK hmH4.2.1 (i := a) (by omega) (by decide) dX3_month_22 ?_
    have rw6 := (hmH4.2.2.2.1 (a.toNat) (by omega)).1
    have rw6n := (hmH4.2.2.2.1 (a.toNat) (by omega)).2
    have rw6t := hd (a.toNat) (by omega)
    have rw6l := rw6.lt
    have rw6i := inR rw6t
    have rw6m := inM rw6i
    have rw6d := dI_b (dt a.toNat)
    refine q_con hx hb dX3_month_23 ?_
    refine r_iald (θ := θ) hx hb hK rw6 (i := 0) (by omega) (by decide) dX3_month_24 ?_
    refine q_as (mI (dt a.toNat)) rfl ?_
    obtain rfl : t2 = 0 := by omega
    have hmw : MWR θ S0 w H4 r q dt sv 0 dn rf kn := ⟨hzH4, hu, hmH4, hd, hsv⟩
    exact e_i hx hb hr hlk hS dX3_month_25 (Nat.le_of_ble_eq_true rfl) (Nat.le_of_ble_eq_true rfl) ⟨ex_i (by subst_vars; first | omega | (simp only [up_s, inI_self, inI_1, inI_31]; done) | (simp only [up_s, inI_self, inI_1, inI_31]; omega) | (simp only [up_s, inI_self, inI_1, inI_31]; subst_vars; first | rfl | omega)), r, q, by first | exact hmw | (subst_vars; exact hmw) | (simp only [inI_self, inI_1, inI_31] at hmw; subst_vars; exact hmw), by first | exact nw_rf | exact nw_up (by omega) | exact nw_up2 (by omega), by first | exact nw_rf | exact nw_up (by omega) | exact nw_up2 (by omega)⟩
  · exact (show False by omega).elim

set_option maxHeartbeats 4000000 in
set_option maxRecDepth 100000 in
theorem mno1_month (θ : TH) (l : Launch) (S0 : State) (H : Heap) (w : Nat → Nat) (r q : Nat → Nat) (dt : Nat → Int) (sv : Nat → Nat → Int) (th dn rf kn : Int) (hw : MWR θ S0 w H r q dt sv th dn rf kn) (a : Int) (h_0 : -2147483648 ≤ a ∧ a < 2147483648) (h_1 : ¬ (0 ≤ a ∧ a < 6)) : CT l yX3_month cX3_month 2 (some .int) 2 42 0 0 [.ref (w 0), .int (iI a)] S0 H (fun v9 H1 => v9 = some (.int (iI 0)) ∧ ∃ r1 q1 : Nat → Nat, MWR θ S0 w H1 r1 q1 dt sv 1 dn rf kn ∧ NW 6 H.size r r1 ∧ NW 3 H.size q q1) (fun _ _ => False) (WA w H.size) := by
  refine ct_of (by decide +kernel) (Nat.le_of_ble_eq_true rfl) ?_
  intro pg en s mi args below meth co ls fx hs hr hlk hxt hin hl
  subst hs
  obtain ⟨hx, hb, hml, hown, hts⟩ := id fx.1
  have hS : va_S (WA w s.heap.size) s.heap s.heap [] := va_S.rf
  obtain ⟨hz, hu, hm, hd, hsv⟩ := id hw
  have hAB : ∀ x : Nat, (WA w s.heap.size) x → θ.2.2.2 ≤ x := wa_b hu hz.2.1
  have hz0 := hz
  have hK := sz_K fx.2 hz
  have hlt0 := hm.lt
  have hu1 := hu.1
  have hAn : ∀ x : Nat, s.heap.size ≤ x → (WA w s.heap.size) x := fun _ h => Or.inr h
  refine lv_aload_n hx hb dX3_month_0 rfl (lv_at hl 0 rfl) ?_
  refine lv_iload_n hx hb dX3_month_1 rfl (lv_at hl 1 rfl) ?_
  obtain ⟨r1, hr1⟩ := bex (a < 0 ∨ 5 < a)
  refine c_P (As := [.int (iI a)]) (rest := [.ref (w 0)]) fx hl (pm_X3_isNo l a r1 hr1 (by omega)) dX3_month_2 k1113 k1114 k6 k1115 hd_X3_isNo rfl ⟨by decide, by decide⟩ (Nat.le_of_ble_eq_true rfl) ⟨by dsimp only; omega, by dsimp only; omega⟩ ?_
  have br1 : r1 = 0 ∨ r1 = 1 := hr1.elim (fun h => Or.inr h.1) (fun h => Or.inl h.1)
  refine q_con hx hb dX3_month_5 ?_
  refine q_con hx hb dX3_month_6 ?_
  obtain ⟨t2, f3, hq1t2, hq2t2⟩ := fails_ex r1 0 0 (by omega) (by omega) (by omega)
  have hmw : MWR θ S0 w s.heap r q dt sv th dn rf kn := ⟨hz, hu, hm, hd, hsv⟩
  refine c_M (w := w) (As := [.int (iI r1), .int (iI 0), .int (iI 0)]) (rest := []) (b := w 0) (C := RX3) fx hl (mw_fails θ l S0 _ w _ _ _ _ _ _ _ _ hmw r1 0 0 t2 f3 (by omega) hq1t2 hq2t2) (ob_recv hK hm.1 rfl) dX3_month_7 k1119 k1121 ks10 k6 k1122 hd_X3_fails rfl ⟨by decide, by decide⟩ (Nat.le_of_ble_eq_true rfl) ⟨by dsimp only; omega, by dsimp only; omega⟩ hS (fun x hx => hx ▸ Or.inl (Or.inl rfl)) (fun H4 locs hmH4 hszH4 hk0H4 hS => ?_)
  have hkH4 : ∀ x : Nat, x < (s.heap).size → ¬ x = w 0 → H4[x]? = (s.heap)[x]? := hk0H4
  have hzH4 := hz0.at hAB hS
  have hltH4 := hmH4.lt
  refine q_ieq (tgt := 17) hx hb dX3_month_10 (by decide) (by omega) (fun c5 => ?_) (fun c5 => ?_)
  · exact (show False by omega).elim
  · refine q_con hx hb dX3_month_13 ?_
    refine lv_goto (tgt := 25) hx hb dX3_month_14 (by decide) ?_
    obtain rfl : t2 = 1 := by omega
    have hmw : MWR θ S0 w H4 r q dt sv 1 dn rf kn := ⟨hzH4, hu, hmH4, hd, hsv⟩
    exact e_i hx hb hr hlk hS dX3_month_25 (Nat.le_of_ble_eq_true rfl) (Nat.le_of_ble_eq_true rfl) ⟨ex_i (by omega), r, q, by first | exact hmw | (subst_vars; exact hmw) | (simp only [inI_self, inI_1, inI_31] at hmw; subst_vars; exact hmw), by first | exact nw_rf | exact nw_up (by omega) | exact nw_up2 (by omega), by first | exact nw_rf | exact nw_up (by omega) | exact nw_up2 (by omega)⟩

set_option maxHeartbeats 4000000 in
set_option maxRecDepth 100000 in
theorem mok_weekday (θ : TH) (l : Launch) (S0 : State) (H : Heap) (w : Nat → Nat) (r q : Nat → Nat) (dt : Nat → Int) (sv : Nat → Nat → Int) (th dn rf kn : Int) (hw : MWR θ S0 w H r q dt sv th dn rf kn) (a : Int) (h_0 : -2147483648 ≤ a ∧ a < 2147483648) (h_1 : 0 ≤ a ∧ a < 6) : CT l yX3_weekday cX3_weekday 2 (some .int) 7 148 0 0 [.ref (w 0), .int (iI a)] S0 H (fun v9 H1 => v9 = some (.int (iI (wI (dt a.toNat)))) ∧ ∃ r1 q1 : Nat → Nat, MWR θ S0 w H1 r1 q1 dt sv 0 dn rf kn ∧ NW 6 H.size r r1 ∧ NW 3 H.size q q1) (fun _ _ => False) (WA w H.size) := by
  refine ct_of (by decide +kernel) (Nat.le_of_ble_eq_true rfl) ?_
  intro pg en s mi args below meth co ls fx hs hr hlk hxt hin hl
  subst hs
  obtain ⟨hx, hb, hml, hown, hts⟩ := id fx.1
  have hS : va_S (WA w s.heap.size) s.heap s.heap [] := va_S.rf
  obtain ⟨hz, hu, hm, hd, hsv⟩ := id hw
  have hAB : ∀ x : Nat, (WA w s.heap.size) x → θ.2.2.2 ≤ x := wa_b hu hz.2.1
  have hz0 := hz
  have hK := sz_K fx.2 hz
  have hlt0 := hm.lt
  have hu1 := hu.1
  have hAn : ∀ x : Nat, s.heap.size ≤ x → (WA w s.heap.size) x := fun _ h => Or.inr h
  have tt1 := inR (hd a.toNat (by omega))
  refine lv_aload_n hx hb dX3_weekday_0 rfl (lv_at hl 0 rfl) ?_
  refine lv_iload_n hx hb dX3_weekday_1 rfl (lv_at hl 1 rfl) ?_
  obtain ⟨r1, hr1⟩ := bex (a < 0 ∨ 5 < a)
  refine c_P (As := [.int (iI a)]) (rest := [.ref (w 0)]) fx hl (pm_X3_isNo l a r1 hr1 (by omega)) dX3_weekday_2 k1113 k1114 k6 k1115 hd_X3_isNo rfl ⟨by decide, by decide⟩ (Nat.le_of_ble_eq_true rfl) ⟨by dsimp only; omega, by dsimp only; omega⟩ ?_
  have br1 : r1 = 0 ∨ r1 = 1 := hr1.elim (fun h => Or.inr h.1) (fun h => Or.inl h.1)
  refine q_con hx hb dX3_weekday_5 ?_
  refine q_con hx hb dX3_weekday_6 ?_
  obtain ⟨t2, f3, hq1t2, hq2t2⟩ := fails_ex r1 0 0 (by omega) (by omega) (by omega)
  have hmw : MWR θ S0 w s.heap r q dt sv th dn rf kn := ⟨hz, hu, hm, hd, hsv⟩
  refine c_M (w := w) (As := [.int (iI r1), .int (iI 0), .int (iI 0)]) (rest := []) (b := w 0) (C := RX3) fx hl (mw_fails θ l S0 _ w _ _ _ _ _ _ _ _ hmw r1 0 0 t2 f3 (by omega) hq1t2 hq2t2) (ob_recv hK hm.1 rfl) dX3_weekday_7 k1119 k1121 ks10 k6 k1122 hd_X3_fails rfl ⟨by decide, by decide⟩ (Nat.le_of_ble_eq_true rfl) ⟨by dsimp only; omega, by dsimp only; omega⟩ hS (fun x hx => hx ▸ Or.inl (Or.inl rfl)) (fun H4 locs hmH4 hszH4 hk0H4 hS => ?_)
  have hkH4 : ∀ x : Nat, x < (s.heap).size → ¬ x = w 0 → H4[x]? = (s.heap)[x]? := hk0H4
  have hzH4 := hz0.at hAB hS
  have hltH4 := hmH4.lt
  refine q_ieq (tgt := 17) hx hb dX3_weekday_10 (by decide) (by omega) (fun c5 => ?_) (fun c5 => ?_)
  · refine lv_aload_n hx hb dX3_weekday_17 rfl (lv_at hl 0 rfl) ?_
    refine lv_iload_n hx hb dX3_weekday_18 rfl (lv_at hl 1 rfl) ?_
    have hmw : MWR θ S0 w H4 r q dt sv t2 dn rf kn := ⟨hzH4, hu, hmH4, hd, hsv⟩
    refine c_HV (As := [.int (iI a)]) (rest := []) (b := w 0) (C := RX3) fx hl (mr_became θ l S0 _ w _ _ _ _ _ _ _ _ hmw a (by omega)) (ob_recv hK hmH4.1 rfl) dX3_weekday_19 k1141 k1143 ks12 k6 k1144 hd_X3_became rfl ⟨by decide, by decide⟩ (Nat.le_of_ble_eq_true rfl) ⟨by dsimp only; omega, by dsimp only; omega⟩ ?_
    have t0z6 := hd a.toNat (by omega)
    refine c_P (As := [.int (iI (dt a.toNat))]) (rest := []) fx hl (pm_X3_weekdayOf l (dt a.toNat) (by omega)) dX3_weekday_22 k1149 k1150 k6 k1151 hd_X3_weekdayOf rfl ⟨by decide, by decide⟩ (Nat.le_of_ble_eq_true rfl) ⟨by dsimp only; omega, by dsimp only; omega⟩ ?_
    have t0z7 := wI_b (dt a.toNat)
    obtain rfl : t2 = 0 := by omega
    have hmw : MWR θ S0 w H4 r q dt sv 0 dn rf kn := ⟨hzH4, hu, hmH4, hd, hsv⟩
    exact e_i hx hb hr hlk hS dX3_weekday_25 (Nat.le_of_ble_eq_true rfl) (Nat.le_of_ble_eq_true rfl) ⟨ex_i (by subst_vars; first | omega | (simp only [up_s, inI_self, inI_1, inI_31]; done) | (simp only [up_s, inI_self, inI_1, inI_31]; omega) | (simp only [up_s, inI_self, inI_1, inI_31]; subst_vars; first | rfl | omega)), r, q, by first | exact hmw | (subst_vars; exact hmw) | (simp only [inI_self, inI_1, inI_31] at hmw; subst_vars; exact hmw), by first | exact nw_rf | exact nw_up (by omega) | exact nw_up2 (by omega), by first | exact nw_rf | exact nw_up (by omega) | exact nw_up2 (by omega)⟩
  · exact (show False by omega).elim

set_option maxHeartbeats 4000000 in
set_option maxRecDepth 100000 in
theorem mno1_weekday (θ : TH) (l : Launch) (S0 : State) (H : Heap) (w : Nat → Nat) (r q : Nat → Nat) (dt : Nat → Int) (sv : Nat → Nat → Int) (th dn rf kn : Int) (hw : MWR θ S0 w H r q dt sv th dn rf kn) (a : Int) (h_0 : -2147483648 ≤ a ∧ a < 2147483648) (h_1 : ¬ (0 ≤ a ∧ a < 6)) : CT l yX3_weekday cX3_weekday 2 (some .int) 2 42 0 0 [.ref (w 0), .int (iI a)] S0 H (fun v9 H1 => v9 = some (.int (iI 0)) ∧ ∃ r1 q1 : Nat → Nat, MWR θ S0 w H1 r1 q1 dt sv 1 dn rf kn ∧ NW 6 H.size r r1 ∧ NW 3 H.size q q1) (fun _ _ => False) (WA w H.size) := by
  refine ct_of (by decide +kernel) (Nat.le_of_ble_eq_true rfl) ?_
  intro pg en s mi args below meth co ls fx hs hr hlk hxt hin hl
  subst hs
  obtain ⟨hx, hb, hml, hown, hts⟩ := id fx.1
  have hS : va_S (WA w s.heap.size) s.heap s.heap [] := va_S.rf
  obtain ⟨hz, hu, hm, hd, hsv⟩ := id hw
  have hAB : ∀ x : Nat, (WA w s.heap.size) x → θ.2.2.2 ≤ x := wa_b hu hz.2.1
  have hz0 := hz
  have hK := sz_K fx.2 hz
  have hlt0 := hm.lt
  have hu1 := hu.1
  have hAn : ∀ x : Nat, s.heap.size ≤ x → (WA w s.heap.size) x := fun _ h => Or.inr h
  refine lv_aload_n hx hb dX3_weekday_0 rfl (lv_at hl 0 rfl) ?_
  refine lv_iload_n hx hb dX3_weekday_1 rfl (lv_at hl 1 rfl) ?_
  obtain ⟨r1, hr1⟩ := bex (a < 0 ∨ 5 < a)
  refine c_P (As := [.int (iI a)]) (rest := [.ref (w 0)]) fx hl (pm_X3_isNo l a r1 hr1 (by omega)) dX3_weekday_2 k1113 k1114 k6 k1115 hd_X3_isNo rfl ⟨by decide, by decide⟩ (Nat.le_of_ble_eq_true rfl) ⟨by dsimp only; omega, by dsimp only; omega⟩ ?_
  have br1 : r1 = 0 ∨ r1 = 1 := hr1.elim (fun h => Or.inr h.1) (fun h => Or.inl h.1)
  refine q_con hx hb dX3_weekday_5 ?_
  refine q_con hx hb dX3_weekday_6 ?_
  obtain ⟨t2, f3, hq1t2, hq2t2⟩ := fails_ex r1 0 0 (by omega) (by omega) (by omega)
  have hmw : MWR θ S0 w s.heap r q dt sv th dn rf kn := ⟨hz, hu, hm, hd, hsv⟩
  refine c_M (w := w) (As := [.int (iI r1), .int (iI 0), .int (iI 0)]) (rest := []) (b := w 0) (C := RX3) fx hl (mw_fails θ l S0 _ w _ _ _ _ _ _ _ _ hmw r1 0 0 t2 f3 (by omega) hq1t2 hq2t2) (ob_recv hK hm.1 rfl) dX3_weekday_7 k1119 k1121 ks10 k6 k1122 hd_X3_fails rfl ⟨by decide, by decide⟩ (Nat.le_of_ble_eq_true rfl) ⟨by dsimp only; omega, by dsimp only; omega⟩ hS (fun x hx => hx ▸ Or.inl (Or.inl rfl)) (fun H4 locs hmH4 hszH4 hk0H4 hS => ?_)
  have hkH4 : ∀ x : Nat, x < (s.heap).size → ¬ x = w 0 → H4[x]? = (s.heap)[x]? := hk0H4
  have hzH4 := hz0.at hAB hS
  have hltH4 := hmH4.lt
  refine q_ieq (tgt := 17) hx hb dX3_weekday_10 (by decide) (by omega) (fun c5 => ?_) (fun c5 => ?_)
  · exact (show False by omega).elim
  · refine q_con hx hb dX3_weekday_13 ?_
    refine lv_goto (tgt := 25) hx hb dX3_weekday_14 (by decide) ?_
    obtain rfl : t2 = 1 := by omega
    have hmw : MWR θ S0 w H4 r q dt sv 1 dn rf kn := ⟨hzH4, hu, hmH4, hd, hsv⟩
    exact e_i hx hb hr hlk hS dX3_weekday_25 (Nat.le_of_ble_eq_true rfl) (Nat.le_of_ble_eq_true rfl) ⟨ex_i (by omega), r, q, by first | exact hmw | (subst_vars; exact hmw) | (simp only [inI_self, inI_1, inI_31] at hmw; subst_vars; exact hmw), by first | exact nw_rf | exact nw_up (by omega) | exact nw_up2 (by omega), by first | exact nw_rf | exact nw_up (by omega) | exact nw_up2 (by omega)⟩

set_option maxHeartbeats 4000000 in
set_option maxRecDepth 100000 in
theorem mok_year (θ : TH) (l : Launch) (S0 : State) (H : Heap) (w : Nat → Nat) (r q : Nat → Nat) (dt : Nat → Int) (sv : Nat → Nat → Int) (th dn rf kn : Int) (hw : MWR θ S0 w H r q dt sv th dn rf kn) (a : Int) (h_0 : -2147483648 ≤ a ∧ a < 2147483648) (h_1 : 0 ≤ a ∧ a < 6) : CT l yX3_year cX3_year 2 (some .int) 2 42 0 0 [.ref (w 0), .int (iI a)] S0 H (fun v9 H1 => v9 = some (.int (iI (mI (dt a.toNat) / 12))) ∧ ∃ r1 q1 : Nat → Nat, MWR θ S0 w H1 r1 q1 dt sv 0 dn rf kn ∧ NW 6 H.size r r1 ∧ NW 3 H.size q q1) (fun _ _ => False) (WA w H.size) := by
  refine ct_of (by decide +kernel) (Nat.le_of_ble_eq_true rfl) ?_
  intro pg en s mi args below meth co ls fx hs hr hlk hxt hin hl
  subst hs
  obtain ⟨hx, hb, hml, hown, hts⟩ := id fx.1
  have hS : va_S (WA w s.heap.size) s.heap s.heap [] := va_S.rf
  obtain ⟨hz, hu, hm, hd, hsv⟩ := id hw
  have hAB : ∀ x : Nat, (WA w s.heap.size) x → θ.2.2.2 ≤ x := wa_b hu hz.2.1
  have hz0 := hz
  have hK := sz_K fx.2 hz
  have hlt0 := hm.lt
  have hu1 := hu.1
  have hAn : ∀ x : Nat, s.heap.size ≤ x → (WA w s.heap.size) x := fun _ h => Or.inr h
  have tt1 := inR (hd a.toNat (by omega))
  refine lv_aload_n hx hb dX3_year_0 rfl (lv_at hl 0 rfl) ?_
  refine lv_iload_n hx hb dX3_year_1 rfl (lv_at hl 1 rfl) ?_
  obtain ⟨r1, hr1⟩ := bex (a < 0 ∨ 5 < a)
  refine c_P (As := [.int (iI a)]) (rest := [.ref (w 0)]) fx hl (pm_X3_isNo l a r1 hr1 (by omega)) dX3_year_2 k1113 k1114 k6 k1115 hd_X3_isNo rfl ⟨by decide, by decide⟩ (Nat.le_of_ble_eq_true rfl) ⟨by dsimp only; omega, by dsimp only; omega⟩ ?_
  have br1 : r1 = 0 ∨ r1 = 1 := hr1.elim (fun h => Or.inr h.1) (fun h => Or.inl h.1)
  refine q_con hx hb dX3_year_5 ?_
  refine q_con hx hb dX3_year_6 ?_
  obtain ⟨t2, f3, hq1t2, hq2t2⟩ := fails_ex r1 0 0 (by omega) (by omega) (by omega)
  have hmw : MWR θ S0 w s.heap r q dt sv th dn rf kn := ⟨hz, hu, hm, hd, hsv⟩
  refine c_M (w := w) (As := [.int (iI r1), .int (iI 0), .int (iI 0)]) (rest := []) (b := w 0) (C := RX3) fx hl (mw_fails θ l S0 _ w _ _ _ _ _ _ _ _ hmw r1 0 0 t2 f3 (by omega) hq1t2 hq2t2) (ob_recv hK hm.1 rfl) dX3_year_7 k1119 k1121 ks10 k6 k1122 hd_X3_fails rfl ⟨by decide, by decide⟩ (Nat.le_of_ble_eq_true rfl) ⟨by dsimp only; omega, by dsimp only; omega⟩ hS (fun x hx => hx ▸ Or.inl (Or.inl rfl)) (fun H4 locs hmH4 hszH4 hk0H4 hS => ?_)
  have hkH4 : ∀ x : Nat, x < (s.heap).size → ¬ x = w 0 → H4[x]? = (s.heap)[x]? := hk0H4
  have hzH4 := hz0.at hAB hS
  have hltH4 := hmH4.lt
  refine q_ieq (tgt := 17) hx hb dX3_year_10 (by decide) (by omega) (fun c5 => ?_) (fun c5 => ?_)
  · refine lv_aload_n hx hb dX3_year_17 rfl (lv_at hl 0 rfl) ?_
    refine r_get (θ := θ) (C := RX3) (T := TX3) (N := 6) (ci := 9) hx hb hts gwX3 hown hK hmH4.1 rfl 4 (by decide) k1094 (fun _ h => h) (v := .ref (w 1)) rfl dX3_year_18 ?_
    refine lv_iload_n hx hb dX3_year_21 rfl (lv_at hl 1 rfl) ?_
    refine r_aald (θ := θ) hx hb hK hmH4.2.1 (i := a) (by omega) (by decide) dX3_year_22 ?_
    have rw6 := (hmH4.2.2.2.1 (a.toNat) (by omega)).1
    have rw6n := (hmH4.2.2.2.1 (a.toNat) (by omega)).2
    have rw6t := hd (a.toNat) (by omega)
    have rw6l := rw6.lt
    have rw6i := inR rw6t
    have rw6m := inM rw6i
    have rw6d := dI_b (dt a.toNat)
    refine q_con hx hb dX3_year_23 ?_
    refine r_iald (θ := θ) hx hb hK rw6 (i := 0) (by omega) (by decide) dX3_year_24 ?_
    refine q_as (mI (dt a.toNat)) rfl ?_
    refine q_bip hx hb dX3_year_25 (by decide) ?_
    refine c_P (As := [.int (iI (mI (dt a.toNat))), .int (iI 12)]) (rest := []) fx hl (pm_X3_down l (mI (dt a.toNat)) 12 (by omega) (by omega)) dX3_year_27 k1073 k1074 k6 k1075 hd_X3_down rfl ⟨by decide, by decide⟩ (Nat.le_of_ble_eq_true rfl) ⟨by dsimp only; omega, by dsimp only; omega⟩ ?_
    refine q_nm (fun z7 ez7 => ?_)
    obtain rfl : t2 = 0 := by omega
    have hmw : MWR θ S0 w H4 r q dt sv 0 dn rf kn := ⟨hzH4, hu, hmH4, hd, hsv⟩
    exact e_i hx hb hr hlk hS dX3_year_30 (Nat.le_of_ble_eq_true rfl) (Nat.le_of_ble_eq_true rfl) ⟨ex_i (by subst_vars; first | omega | (simp only [up_s, inI_self, inI_1, inI_31]; done) | (simp only [up_s, inI_self, inI_1, inI_31]; omega) | (simp only [up_s, inI_self, inI_1, inI_31]; subst_vars; first | rfl | omega)), r, q, by first | exact hmw | (subst_vars; exact hmw) | (simp only [inI_self, inI_1, inI_31] at hmw; subst_vars; exact hmw), by first | exact nw_rf | exact nw_up (by omega) | exact nw_up2 (by omega), by first | exact nw_rf | exact nw_up (by omega) | exact nw_up2 (by omega)⟩
  · exact (show False by omega).elim

set_option maxHeartbeats 4000000 in
set_option maxRecDepth 100000 in
theorem mno1_year (θ : TH) (l : Launch) (S0 : State) (H : Heap) (w : Nat → Nat) (r q : Nat → Nat) (dt : Nat → Int) (sv : Nat → Nat → Int) (th dn rf kn : Int) (hw : MWR θ S0 w H r q dt sv th dn rf kn) (a : Int) (h_0 : -2147483648 ≤ a ∧ a < 2147483648) (h_1 : ¬ (0 ≤ a ∧ a < 6)) : CT l yX3_year cX3_year 2 (some .int) 2 42 0 0 [.ref (w 0), .int (iI a)] S0 H (fun v9 H1 => v9 = some (.int (iI 0)) ∧ ∃ r1 q1 : Nat → Nat, MWR θ S0 w H1 r1 q1 dt sv 1 dn rf kn ∧ NW 6 H.size r r1 ∧ NW 3 H.size q q1) (fun _ _ => False) (WA w H.size) := by
  refine ct_of (by decide +kernel) (Nat.le_of_ble_eq_true rfl) ?_
  intro pg en s mi args below meth co ls fx hs hr hlk hxt hin hl
  subst hs
  obtain ⟨hx, hb, hml, hown, hts⟩ := id fx.1
  have hS : va_S (WA w s.heap.size) s.heap s.heap [] := va_S.rf
  obtain ⟨hz, hu, hm, hd, hsv⟩ := id hw
  have hAB : ∀ x : Nat, (WA w s.heap.size) x → θ.2.2.2 ≤ x := wa_b hu hz.2.1
  have hz0 := hz
  have hK := sz_K fx.2 hz
  have hlt0 := hm.lt
  have hu1 := hu.1
  have hAn : ∀ x : Nat, s.heap.size ≤ x → (WA w s.heap.size) x := fun _ h => Or.inr h
  refine lv_aload_n hx hb dX3_year_0 rfl (lv_at hl 0 rfl) ?_
  refine lv_iload_n hx hb dX3_year_1 rfl (lv_at hl 1 rfl) ?_
  obtain ⟨r1, hr1⟩ := bex (a < 0 ∨ 5 < a)
  refine c_P (As := [.int (iI a)]) (rest := [.ref (w 0)]) fx hl (pm_X3_isNo l a r1 hr1 (by omega)) dX3_year_2 k1113 k1114 k6 k1115 hd_X3_isNo rfl ⟨by decide, by decide⟩ (Nat.le_of_ble_eq_true rfl) ⟨by dsimp only; omega, by dsimp only; omega⟩ ?_
  have br1 : r1 = 0 ∨ r1 = 1 := hr1.elim (fun h => Or.inr h.1) (fun h => Or.inl h.1)
  refine q_con hx hb dX3_year_5 ?_
  refine q_con hx hb dX3_year_6 ?_
  obtain ⟨t2, f3, hq1t2, hq2t2⟩ := fails_ex r1 0 0 (by omega) (by omega) (by omega)
  have hmw : MWR θ S0 w s.heap r q dt sv th dn rf kn := ⟨hz, hu, hm, hd, hsv⟩
  refine c_M (w := w) (As := [.int (iI r1), .int (iI 0), .int (iI 0)]) (rest := []) (b := w 0) (C := RX3) fx hl (mw_fails θ l S0 _ w _ _ _ _ _ _ _ _ hmw r1 0 0 t2 f3 (by omega) hq1t2 hq2t2) (ob_recv hK hm.1 rfl) dX3_year_7 k1119 k1121 ks10 k6 k1122 hd_X3_fails rfl ⟨by decide, by decide⟩ (Nat.le_of_ble_eq_true rfl) ⟨by dsimp only; omega, by dsimp only; omega⟩ hS (fun x hx => hx ▸ Or.inl (Or.inl rfl)) (fun H4 locs hmH4 hszH4 hk0H4 hS => ?_)
  have hkH4 : ∀ x : Nat, x < (s.heap).size → ¬ x = w 0 → H4[x]? = (s.heap)[x]? := hk0H4
  have hzH4 := hz0.at hAB hS
  have hltH4 := hmH4.lt
  refine q_ieq (tgt := 17) hx hb dX3_year_10 (by decide) (by omega) (fun c5 => ?_) (fun c5 => ?_)
  · exact (show False by omega).elim
  · refine q_con hx hb dX3_year_13 ?_
    refine lv_goto (tgt := 30) hx hb dX3_year_14 (by decide) ?_
    obtain rfl : t2 = 1 := by omega
    have hmw : MWR θ S0 w H4 r q dt sv 1 dn rf kn := ⟨hzH4, hu, hmH4, hd, hsv⟩
    exact e_i hx hb hr hlk hS dX3_year_30 (Nat.le_of_ble_eq_true rfl) (Nat.le_of_ble_eq_true rfl) ⟨ex_i (by omega), r, q, by first | exact hmw | (subst_vars; exact hmw) | (simp only [inI_self, inI_1, inI_31] at hmw; subst_vars; exact hmw), by first | exact nw_rf | exact nw_up (by omega) | exact nw_up2 (by omega), by first | exact nw_rf | exact nw_up (by omega) | exact nw_up2 (by omega)⟩

set_option maxHeartbeats 4000000 in
set_option maxRecDepth 100000 in
theorem mok_monthOfYear (θ : TH) (l : Launch) (S0 : State) (H : Heap) (w : Nat → Nat) (r q : Nat → Nat) (dt : Nat → Int) (sv : Nat → Nat → Int) (th dn rf kn : Int) (hw : MWR θ S0 w H r q dt sv th dn rf kn) (a : Int) (h_0 : -2147483648 ≤ a ∧ a < 2147483648) (h_1 : 0 ≤ a ∧ a < 6) : CT l yX3_monthOfYear cX3_monthOfYear 2 (some .int) 2 42 0 0 [.ref (w 0), .int (iI a)] S0 H (fun v9 H1 => v9 = some (.int (iI (mI (dt a.toNat) % 12 + 1))) ∧ ∃ r1 q1 : Nat → Nat, MWR θ S0 w H1 r1 q1 dt sv 0 dn rf kn ∧ NW 6 H.size r r1 ∧ NW 3 H.size q q1) (fun _ _ => False) (WA w H.size) := by
  refine ct_of (by decide +kernel) (Nat.le_of_ble_eq_true rfl) ?_
  intro pg en s mi args below meth co ls fx hs hr hlk hxt hin hl
  subst hs
  obtain ⟨hx, hb, hml, hown, hts⟩ := id fx.1
  have hS : va_S (WA w s.heap.size) s.heap s.heap [] := va_S.rf
  obtain ⟨hz, hu, hm, hd, hsv⟩ := id hw
  have hAB : ∀ x : Nat, (WA w s.heap.size) x → θ.2.2.2 ≤ x := wa_b hu hz.2.1
  have hz0 := hz
  have hK := sz_K fx.2 hz
  have hlt0 := hm.lt
  have hu1 := hu.1
  have hAn : ∀ x : Nat, s.heap.size ≤ x → (WA w s.heap.size) x := fun _ h => Or.inr h
  have tt1 := inR (hd a.toNat (by omega))
  refine lv_aload_n hx hb dX3_monthOfYear_0 rfl (lv_at hl 0 rfl) ?_
  refine lv_iload_n hx hb dX3_monthOfYear_1 rfl (lv_at hl 1 rfl) ?_
  obtain ⟨r1, hr1⟩ := bex (a < 0 ∨ 5 < a)
  refine c_P (As := [.int (iI a)]) (rest := [.ref (w 0)]) fx hl (pm_X3_isNo l a r1 hr1 (by omega)) dX3_monthOfYear_2 k1113 k1114 k6 k1115 hd_X3_isNo rfl ⟨by decide, by decide⟩ (Nat.le_of_ble_eq_true rfl) ⟨by dsimp only; omega, by dsimp only; omega⟩ ?_
  have br1 : r1 = 0 ∨ r1 = 1 := hr1.elim (fun h => Or.inr h.1) (fun h => Or.inl h.1)
  refine q_con hx hb dX3_monthOfYear_5 ?_
  refine q_con hx hb dX3_monthOfYear_6 ?_
  obtain ⟨t2, f3, hq1t2, hq2t2⟩ := fails_ex r1 0 0 (by omega) (by omega) (by omega)
  have hmw : MWR θ S0 w s.heap r q dt sv th dn rf kn := ⟨hz, hu, hm, hd, hsv⟩
  refine c_M (w := w) (As := [.int (iI r1), .int (iI 0), .int (iI 0)]) (rest := []) (b := w 0) (C := RX3) fx hl (mw_fails θ l S0 _ w _ _ _ _ _ _ _ _ hmw r1 0 0 t2 f3 (by omega) hq1t2 hq2t2) (ob_recv hK hm.1 rfl) dX3_monthOfYear_7 k1119 k1121 ks10 k6 k1122 hd_X3_fails rfl ⟨by decide, by decide⟩ (Nat.le_of_ble_eq_true rfl) ⟨by dsimp only; omega, by dsimp only; omega⟩ hS (fun x hx => hx ▸ Or.inl (Or.inl rfl)) (fun H4 locs hmH4 hszH4 hk0H4 hS => ?_)
  have hkH4 : ∀ x : Nat, x < (s.heap).size → ¬ x = w 0 → H4[x]? = (s.heap)[x]? := hk0H4
  have hzH4 := hz0.at hAB hS
  have hltH4 := hmH4.lt
  refine q_ieq (tgt := 17) hx hb dX3_monthOfYear_10 (by decide) (by omega) (fun c5 => ?_) (fun c5 => ?_)
  · refine q_con hx hb dX3_monthOfYear_17 ?_
    refine lv_aload_n hx hb dX3_monthOfYear_18 rfl (lv_at hl 0 rfl) ?_
    refine r_get (θ := θ) (C := RX3) (T := TX3) (N := 6) (ci := 9) hx hb hts gwX3 hown hK hmH4.1 rfl 4 (by decide) k1094 (fun _ h => h) (v := .ref (w 1)) rfl dX3_monthOfYear_19 ?_
    refine lv_iload_n hx hb dX3_monthOfYear_22 rfl (lv_at hl 1 rfl) ?_
    refine r_aald (θ := θ) hx hb hK hmH4.2.1 (i := a) (by omega) (by decide) dX3_monthOfYear_23 ?_
    have rw6 := (hmH4.2.2.2.1 (a.toNat) (by omega)).1
    have rw6n := (hmH4.2.2.2.1 (a.toNat) (by omega)).2
    have rw6t := hd (a.toNat) (by omega)
    have rw6l := rw6.lt
    have rw6i := inR rw6t
    have rw6m := inM rw6i
    have rw6d := dI_b (dt a.toNat)
    refine q_con hx hb dX3_monthOfYear_24 ?_
    refine r_iald (θ := θ) hx hb hK rw6 (i := 0) (by omega) (by decide) dX3_monthOfYear_25 ?_
    refine q_as (mI (dt a.toNat)) rfl ?_
    refine q_bip hx hb dX3_monthOfYear_26 (by decide) ?_
    refine c_P (As := [.int (iI (mI (dt a.toNat))), .int (iI 12)]) (rest := [.int (iI 1)]) fx hl (pm_X3_left l (mI (dt a.toNat)) 12 (by omega) (by omega)) dX3_monthOfYear_28 k1082 k1083 k6 k1084 hd_X3_left rfl ⟨by decide, by decide⟩ (Nat.le_of_ble_eq_true rfl) ⟨by dsimp only; omega, by dsimp only; omega⟩ ?_
    refine q_nm (fun z7 ez7 => ?_)
    refine q_add hx hb dX3_monthOfYear_31 ?_
    obtain rfl : t2 = 0 := by omega
    have hmw : MWR θ S0 w H4 r q dt sv 0 dn rf kn := ⟨hzH4, hu, hmH4, hd, hsv⟩
    exact e_i hx hb hr hlk hS dX3_monthOfYear_32 (Nat.le_of_ble_eq_true rfl) (Nat.le_of_ble_eq_true rfl) ⟨ex_i (by subst_vars; first | omega | (simp only [up_s, inI_self, inI_1, inI_31]; done) | (simp only [up_s, inI_self, inI_1, inI_31]; omega) | (simp only [up_s, inI_self, inI_1, inI_31]; subst_vars; first | rfl | omega)), r, q, by first | exact hmw | (subst_vars; exact hmw) | (simp only [inI_self, inI_1, inI_31] at hmw; subst_vars; exact hmw), by first | exact nw_rf | exact nw_up (by omega) | exact nw_up2 (by omega), by first | exact nw_rf | exact nw_up (by omega) | exact nw_up2 (by omega)⟩
  · exact (show False by omega).elim

set_option maxHeartbeats 4000000 in
set_option maxRecDepth 100000 in
theorem mno1_monthOfYear (θ : TH) (l : Launch) (S0 : State) (H : Heap) (w : Nat → Nat) (r q : Nat → Nat) (dt : Nat → Int) (sv : Nat → Nat → Int) (th dn rf kn : Int) (hw : MWR θ S0 w H r q dt sv th dn rf kn) (a : Int) (h_0 : -2147483648 ≤ a ∧ a < 2147483648) (h_1 : ¬ (0 ≤ a ∧ a < 6)) : CT l yX3_monthOfYear cX3_monthOfYear 2 (some .int) 2 42 0 0 [.ref (w 0), .int (iI a)] S0 H (fun v9 H1 => v9 = some (.int (iI 0)) ∧ ∃ r1 q1 : Nat → Nat, MWR θ S0 w H1 r1 q1 dt sv 1 dn rf kn ∧ NW 6 H.size r r1 ∧ NW 3 H.size q q1) (fun _ _ => False) (WA w H.size) := by
  refine ct_of (by decide +kernel) (Nat.le_of_ble_eq_true rfl) ?_
  intro pg en s mi args below meth co ls fx hs hr hlk hxt hin hl
  subst hs
  obtain ⟨hx, hb, hml, hown, hts⟩ := id fx.1
  have hS : va_S (WA w s.heap.size) s.heap s.heap [] := va_S.rf
  obtain ⟨hz, hu, hm, hd, hsv⟩ := id hw
  have hAB : ∀ x : Nat, (WA w s.heap.size) x → θ.2.2.2 ≤ x := wa_b hu hz.2.1
  have hz0 := hz
  have hK := sz_K fx.2 hz
  have hlt0 := hm.lt
  have hu1 := hu.1
  have hAn : ∀ x : Nat, s.heap.size ≤ x → (WA w s.heap.size) x := fun _ h => Or.inr h
  refine lv_aload_n hx hb dX3_monthOfYear_0 rfl (lv_at hl 0 rfl) ?_
  refine lv_iload_n hx hb dX3_monthOfYear_1 rfl (lv_at hl 1 rfl) ?_
  obtain ⟨r1, hr1⟩ := bex (a < 0 ∨ 5 < a)
  refine c_P (As := [.int (iI a)]) (rest := [.ref (w 0)]) fx hl (pm_X3_isNo l a r1 hr1 (by omega)) dX3_monthOfYear_2 k1113 k1114 k6 k1115 hd_X3_isNo rfl ⟨by decide, by decide⟩ (Nat.le_of_ble_eq_true rfl) ⟨by dsimp only; omega, by dsimp only; omega⟩ ?_
  have br1 : r1 = 0 ∨ r1 = 1 := hr1.elim (fun h => Or.inr h.1) (fun h => Or.inl h.1)
  refine q_con hx hb dX3_monthOfYear_5 ?_
  refine q_con hx hb dX3_monthOfYear_6 ?_
  obtain ⟨t2, f3, hq1t2, hq2t2⟩ := fails_ex r1 0 0 (by omega) (by omega) (by omega)
  have hmw : MWR θ S0 w s.heap r q dt sv th dn rf kn := ⟨hz, hu, hm, hd, hsv⟩
  refine c_M (w := w) (As := [.int (iI r1), .int (iI 0), .int (iI 0)]) (rest := []) (b := w 0) (C := RX3) fx hl (mw_fails θ l S0 _ w _ _ _ _ _ _ _ _ hmw r1 0 0 t2 f3 (by omega) hq1t2 hq2t2) (ob_recv hK hm.1 rfl) dX3_monthOfYear_7 k1119 k1121 ks10 k6 k1122 hd_X3_fails rfl ⟨by decide, by decide⟩ (Nat.le_of_ble_eq_true rfl) ⟨by dsimp only; omega, by dsimp only; omega⟩ hS (fun x hx => hx ▸ Or.inl (Or.inl rfl)) (fun H4 locs hmH4 hszH4 hk0H4 hS => ?_)
  have hkH4 : ∀ x : Nat, x < (s.heap).size → ¬ x = w 0 → H4[x]? = (s.heap)[x]? := hk0H4
  have hzH4 := hz0.at hAB hS
  have hltH4 := hmH4.lt
  refine q_ieq (tgt := 17) hx hb dX3_monthOfYear_10 (by decide) (by omega) (fun c5 => ?_) (fun c5 => ?_)
  · exact (show False by omega).elim
  · refine q_con hx hb dX3_monthOfYear_13 ?_
    refine lv_goto (tgt := 32) hx hb dX3_monthOfYear_14 (by decide) ?_
    obtain rfl : t2 = 1 := by omega
    have hmw : MWR θ S0 w H4 r q dt sv 1 dn rf kn := ⟨hzH4, hu, hmH4, hd, hsv⟩
    exact e_i hx hb hr hlk hS dX3_monthOfYear_32 (Nat.le_of_ble_eq_true rfl) (Nat.le_of_ble_eq_true rfl) ⟨ex_i (by omega), r, q, by first | exact hmw | (subst_vars; exact hmw) | (simp only [inI_self, inI_1, inI_31] at hmw; subst_vars; exact hmw), by first | exact nw_rf | exact nw_up (by omega) | exact nw_up2 (by omega), by first | exact nw_rf | exact nw_up (by omega) | exact nw_up2 (by omega)⟩

set_option maxHeartbeats 4000000 in
set_option maxRecDepth 100000 in
theorem mok_day (θ : TH) (l : Launch) (S0 : State) (H : Heap) (w : Nat → Nat) (r q : Nat → Nat) (dt : Nat → Int) (sv : Nat → Nat → Int) (th dn rf kn : Int) (hw : MWR θ S0 w H r q dt sv th dn rf kn) (a : Int) (h_0 : -2147483648 ≤ a ∧ a < 2147483648) (h_1 : 0 ≤ a ∧ a < 6) : CT l yX3_day cX3_day 2 (some .int) 2 42 0 0 [.ref (w 0), .int (iI a)] S0 H (fun v9 H1 => v9 = some (.int (iI (dI (dt a.toNat)))) ∧ ∃ r1 q1 : Nat → Nat, MWR θ S0 w H1 r1 q1 dt sv 0 dn rf kn ∧ NW 6 H.size r r1 ∧ NW 3 H.size q q1) (fun _ _ => False) (WA w H.size) := by
  refine ct_of (by decide +kernel) (Nat.le_of_ble_eq_true rfl) ?_
  intro pg en s mi args below meth co ls fx hs hr hlk hxt hin hl
  subst hs
  obtain ⟨hx, hb, hml, hown, hts⟩ := id fx.1
  have hS : va_S (WA w s.heap.size) s.heap s.heap [] := va_S.rf
  obtain ⟨hz, hu, hm, hd, hsv⟩ := id hw
  have hAB : ∀ x : Nat, (WA w s.heap.size) x → θ.2.2.2 ≤ x := wa_b hu hz.2.1
  have hz0 := hz
  have hK := sz_K fx.2 hz
  have hlt0 := hm.lt
  have hu1 := hu.1
  have hAn : ∀ x : Nat, s.heap.size ≤ x → (WA w s.heap.size) x := fun _ h => Or.inr h
  have tt1 := inR (hd a.toNat (by omega))
  refine lv_aload_n hx hb dX3_day_0 rfl (lv_at hl 0 rfl) ?_
  refine lv_iload_n hx hb dX3_day_1 rfl (lv_at hl 1 rfl) ?_
  obtain ⟨r1, hr1⟩ := bex (a < 0 ∨ 5 < a)
  refine c_P (As := [.int (iI a)]) (rest := [.ref (w 0)]) fx hl (pm_X3_isNo l a r1 hr1 (by omega)) dX3_day_2 k1113 k1114 k6 k1115 hd_X3_isNo rfl ⟨by decide, by decide⟩ (Nat.le_of_ble_eq_true rfl) ⟨by dsimp only; omega, by dsimp only; omega⟩ ?_
  have br1 : r1 = 0 ∨ r1 = 1 := hr1.elim (fun h => Or.inr h.1) (fun h => Or.inl h.1)
  refine q_con hx hb dX3_day_5 ?_
  refine q_con hx hb dX3_day_6 ?_
  obtain ⟨t2, f3, hq1t2, hq2t2⟩ := fails_ex r1 0 0 (by omega) (by omega) (by omega)
  have hmw : MWR θ S0 w s.heap r q dt sv th dn rf kn := ⟨hz, hu, hm, hd, hsv⟩
  refine c_M (w := w) (As := [.int (iI r1), .int (iI 0), .int (iI 0)]) (rest := []) (b := w 0) (C := RX3) fx hl (mw_fails θ l S0 _ w _ _ _ _ _ _ _ _ hmw r1 0 0 t2 f3 (by omega) hq1t2 hq2t2) (ob_recv hK hm.1 rfl) dX3_day_7 k1119 k1121 ks10 k6 k1122 hd_X3_fails rfl ⟨by decide, by decide⟩ (Nat.le_of_ble_eq_true rfl) ⟨by dsimp only; omega, by dsimp only; omega⟩ hS (fun x hx => hx ▸ Or.inl (Or.inl rfl)) (fun H4 locs hmH4 hszH4 hk0H4 hS => ?_)
  have hkH4 : ∀ x : Nat, x < (s.heap).size → ¬ x = w 0 → H4[x]? = (s.heap)[x]? := hk0H4
  have hzH4 := hz0.at hAB hS
  have hltH4 := hmH4.lt
  refine q_ieq (tgt := 17) hx hb dX3_day_10 (by decide) (by omega) (fun c5 => ?_) (fun c5 => ?_)
  · refine lv_aload_n hx hb dX3_day_17 rfl (lv_at hl 0 rfl) ?_
    refine r_get (θ := θ) (C := RX3) (T := TX3) (N := 6) (ci := 9) hx hb hts gwX3 hown hK hmH4.1 rfl 4 (by decide) k1094 (fun _ h => h) (v := .ref (w 1)) rfl dX3_day_18 ?_
    refine lv_iload_n hx hb dX3_day_21 rfl (lv_at hl 1 rfl) ?_
    refine r_aald (θ := θ) hx hb hK hmH4.2.1 (i := a) (by omega) (by decide) dX3_day_22 ?_
    have rw6 := (hmH4.2.2.2.1 (a.toNat) (by omega)).1
    have rw6n := (hmH4.2.2.2.1 (a.toNat) (by omega)).2
    have rw6t := hd (a.toNat) (by omega)
    have rw6l := rw6.lt
    have rw6i := inR rw6t
    have rw6m := inM rw6i
    have rw6d := dI_b (dt a.toNat)
    refine q_con hx hb dX3_day_23 ?_
    refine r_iald (θ := θ) hx hb hK rw6 (i := 1) (by omega) (by decide) dX3_day_24 ?_
    refine q_as (dI (dt a.toNat)) rfl ?_
    obtain rfl : t2 = 0 := by omega
    have hmw : MWR θ S0 w H4 r q dt sv 0 dn rf kn := ⟨hzH4, hu, hmH4, hd, hsv⟩
    exact e_i hx hb hr hlk hS dX3_day_25 (Nat.le_of_ble_eq_true rfl) (Nat.le_of_ble_eq_true rfl) ⟨ex_i (by subst_vars; first | omega | (simp only [up_s, inI_self, inI_1, inI_31]; done) | (simp only [up_s, inI_self, inI_1, inI_31]; omega) | (simp only [up_s, inI_self, inI_1, inI_31]; subst_vars; first | rfl | omega)), r, q, by first | exact hmw | (subst_vars; exact hmw) | (simp only [inI_self, inI_1, inI_31] at hmw; subst_vars; exact hmw), by first | exact nw_rf | exact nw_up (by omega) | exact nw_up2 (by omega), by first | exact nw_rf | exact nw_up (by omega) | exact nw_up2 (by omega)⟩
  · exact (show False by omega).elim

set_option maxHeartbeats 4000000 in
set_option maxRecDepth 100000 in
theorem mno1_day (θ : TH) (l : Launch) (S0 : State) (H : Heap) (w : Nat → Nat) (r q : Nat → Nat) (dt : Nat → Int) (sv : Nat → Nat → Int) (th dn rf kn : Int) (hw : MWR θ S0 w H r q dt sv th dn rf kn) (a : Int) (h_0 : -2147483648 ≤ a ∧ a < 2147483648) (h_1 : ¬ (0 ≤ a ∧ a < 6)) : CT l yX3_day cX3_day 2 (some .int) 2 42 0 0 [.ref (w 0), .int (iI a)] S0 H (fun v9 H1 => v9 = some (.int (iI 0)) ∧ ∃ r1 q1 : Nat → Nat, MWR θ S0 w H1 r1 q1 dt sv 1 dn rf kn ∧ NW 6 H.size r r1 ∧ NW 3 H.size q q1) (fun _ _ => False) (WA w H.size) := by
  refine ct_of (by decide +kernel) (Nat.le_of_ble_eq_true rfl) ?_
  intro pg en s mi args below meth co ls fx hs hr hlk hxt hin hl
  subst hs
  obtain ⟨hx, hb, hml, hown, hts⟩ := id fx.1
  have hS : va_S (WA w s.heap.size) s.heap s.heap [] := va_S.rf
  obtain ⟨hz, hu, hm, hd, hsv⟩ := id hw
  have hAB : ∀ x : Nat, (WA w s.heap.size) x → θ.2.2.2 ≤ x := wa_b hu hz.2.1
  have hz0 := hz
  have hK := sz_K fx.2 hz
  have hlt0 := hm.lt
  have hu1 := hu.1
  have hAn : ∀ x : Nat, s.heap.size ≤ x → (WA w s.heap.size) x := fun _ h => Or.inr h
  refine lv_aload_n hx hb dX3_day_0 rfl (lv_at hl 0 rfl) ?_
  refine lv_iload_n hx hb dX3_day_1 rfl (lv_at hl 1 rfl) ?_
  obtain ⟨r1, hr1⟩ := bex (a < 0 ∨ 5 < a)
  refine c_P (As := [.int (iI a)]) (rest := [.ref (w 0)]) fx hl (pm_X3_isNo l a r1 hr1 (by omega)) dX3_day_2 k1113 k1114 k6 k1115 hd_X3_isNo rfl ⟨by decide, by decide⟩ (Nat.le_of_ble_eq_true rfl) ⟨by dsimp only; omega, by dsimp only; omega⟩ ?_
  have br1 : r1 = 0 ∨ r1 = 1 := hr1.elim (fun h => Or.inr h.1) (fun h => Or.inl h.1)
  refine q_con hx hb dX3_day_5 ?_
  refine q_con hx hb dX3_day_6 ?_
  obtain ⟨t2, f3, hq1t2, hq2t2⟩ := fails_ex r1 0 0 (by omega) (by omega) (by omega)
  have hmw : MWR θ S0 w s.heap r q dt sv th dn rf kn := ⟨hz, hu, hm, hd, hsv⟩
  refine c_M (w := w) (As := [.int (iI r1), .int (iI 0), .int (iI 0)]) (rest := []) (b := w 0) (C := RX3) fx hl (mw_fails θ l S0 _ w _ _ _ _ _ _ _ _ hmw r1 0 0 t2 f3 (by omega) hq1t2 hq2t2) (ob_recv hK hm.1 rfl) dX3_day_7 k1119 k1121 ks10 k6 k1122 hd_X3_fails rfl ⟨by decide, by decide⟩ (Nat.le_of_ble_eq_true rfl) ⟨by dsimp only; omega, by dsimp only; omega⟩ hS (fun x hx => hx ▸ Or.inl (Or.inl rfl)) (fun H4 locs hmH4 hszH4 hk0H4 hS => ?_)
  have hkH4 : ∀ x : Nat, x < (s.heap).size → ¬ x = w 0 → H4[x]? = (s.heap)[x]? := hk0H4
  have hzH4 := hz0.at hAB hS
  have hltH4 := hmH4.lt
  refine q_ieq (tgt := 17) hx hb dX3_day_10 (by decide) (by omega) (fun c5 => ?_) (fun c5 => ?_)
  · exact (show False by omega).elim
  · refine q_con hx hb dX3_day_13 ?_
    refine lv_goto (tgt := 25) hx hb dX3_day_14 (by decide) ?_
    obtain rfl : t2 = 1 := by omega
    have hmw : MWR θ S0 w H4 r q dt sv 1 dn rf kn := ⟨hzH4, hu, hmH4, hd, hsv⟩
    exact e_i hx hb hr hlk hS dX3_day_25 (Nat.le_of_ble_eq_true rfl) (Nat.le_of_ble_eq_true rfl) ⟨ex_i (by omega), r, q, by first | exact hmw | (subst_vars; exact hmw) | (simp only [inI_self, inI_1, inI_31] at hmw; subst_vars; exact hmw), by first | exact nw_rf | exact nw_up (by omega) | exact nw_up2 (by omega), by first | exact nw_rf | exact nw_up (by omega) | exact nw_up2 (by omega)⟩

set_option maxHeartbeats 4000000 in
set_option maxRecDepth 100000 in
theorem mok_number (θ : TH) (l : Launch) (S0 : State) (H : Heap) (w : Nat → Nat) (r q : Nat → Nat) (dt : Nat → Int) (sv : Nat → Nat → Int) (th dn rf kn : Int) (hw : MWR θ S0 w H r q dt sv th dn rf kn) (a : Int) (h_0 : -2147483648 ≤ a ∧ a < 2147483648) (h_1 : 0 ≤ a ∧ a < 6) : CT l yX3_number cX3_number 2 (some .int) 7 148 0 0 [.ref (w 0), .int (iI a)] S0 H (fun v9 H1 => v9 = some (.int (iI (dt a.toNat))) ∧ ∃ r1 q1 : Nat → Nat, MWR θ S0 w H1 r1 q1 dt sv 0 dn rf kn ∧ NW 6 H.size r r1 ∧ NW 3 H.size q q1) (fun _ _ => False) (WA w H.size) := by
  refine ct_of (by decide +kernel) (Nat.le_of_ble_eq_true rfl) ?_
  intro pg en s mi args below meth co ls fx hs hr hlk hxt hin hl
  subst hs
  obtain ⟨hx, hb, hml, hown, hts⟩ := id fx.1
  have hS : va_S (WA w s.heap.size) s.heap s.heap [] := va_S.rf
  obtain ⟨hz, hu, hm, hd, hsv⟩ := id hw
  have hAB : ∀ x : Nat, (WA w s.heap.size) x → θ.2.2.2 ≤ x := wa_b hu hz.2.1
  have hz0 := hz
  have hK := sz_K fx.2 hz
  have hlt0 := hm.lt
  have hu1 := hu.1
  have hAn : ∀ x : Nat, s.heap.size ≤ x → (WA w s.heap.size) x := fun _ h => Or.inr h
  have tt1 := inR (hd a.toNat (by omega))
  refine lv_aload_n hx hb dX3_number_0 rfl (lv_at hl 0 rfl) ?_
  refine lv_iload_n hx hb dX3_number_1 rfl (lv_at hl 1 rfl) ?_
  obtain ⟨r1, hr1⟩ := bex (a < 0 ∨ 5 < a)
  refine c_P (As := [.int (iI a)]) (rest := [.ref (w 0)]) fx hl (pm_X3_isNo l a r1 hr1 (by omega)) dX3_number_2 k1113 k1114 k6 k1115 hd_X3_isNo rfl ⟨by decide, by decide⟩ (Nat.le_of_ble_eq_true rfl) ⟨by dsimp only; omega, by dsimp only; omega⟩ ?_
  have br1 : r1 = 0 ∨ r1 = 1 := hr1.elim (fun h => Or.inr h.1) (fun h => Or.inl h.1)
  refine q_con hx hb dX3_number_5 ?_
  refine q_con hx hb dX3_number_6 ?_
  obtain ⟨t2, f3, hq1t2, hq2t2⟩ := fails_ex r1 0 0 (by omega) (by omega) (by omega)
  have hmw : MWR θ S0 w s.heap r q dt sv th dn rf kn := ⟨hz, hu, hm, hd, hsv⟩
  refine c_M (w := w) (As := [.int (iI r1), .int (iI 0), .int (iI 0)]) (rest := []) (b := w 0) (C := RX3) fx hl (mw_fails θ l S0 _ w _ _ _ _ _ _ _ _ hmw r1 0 0 t2 f3 (by omega) hq1t2 hq2t2) (ob_recv hK hm.1 rfl) dX3_number_7 k1119 k1121 ks10 k6 k1122 hd_X3_fails rfl ⟨by decide, by decide⟩ (Nat.le_of_ble_eq_true rfl) ⟨by dsimp only; omega, by dsimp only; omega⟩ hS (fun x hx => hx ▸ Or.inl (Or.inl rfl)) (fun H4 locs hmH4 hszH4 hk0H4 hS => ?_)
  have hkH4 : ∀ x : Nat, x < (s.heap).size → ¬ x = w 0 → H4[x]? = (s.heap)[x]? := hk0H4
  have hzH4 := hz0.at hAB hS
  have hltH4 := hmH4.lt
  refine q_ieq (tgt := 17) hx hb dX3_number_10 (by decide) (by omega) (fun c5 => ?_) (fun c5 => ?_)
  · refine lv_aload_n hx hb dX3_number_17 rfl (lv_at hl 0 rfl) ?_
    refine lv_iload_n hx hb dX3_number_18 rfl (lv_at hl 1 rfl) ?_
    have hmw : MWR θ S0 w H4 r q dt sv t2 dn rf kn := ⟨hzH4, hu, hmH4, hd, hsv⟩
    refine c_HV (As := [.int (iI a)]) (rest := []) (b := w 0) (C := RX3) fx hl (mr_became θ l S0 _ w _ _ _ _ _ _ _ _ hmw a (by omega)) (ob_recv hK hmH4.1 rfl) dX3_number_19 k1141 k1143 ks12 k6 k1144 hd_X3_became rfl ⟨by decide, by decide⟩ (Nat.le_of_ble_eq_true rfl) ⟨by dsimp only; omega, by dsimp only; omega⟩ ?_
    have t0z6 := hd a.toNat (by omega)
    obtain rfl : t2 = 0 := by omega
    have hmw : MWR θ S0 w H4 r q dt sv 0 dn rf kn := ⟨hzH4, hu, hmH4, hd, hsv⟩
    exact e_i hx hb hr hlk hS dX3_number_22 (Nat.le_of_ble_eq_true rfl) (Nat.le_of_ble_eq_true rfl) ⟨ex_i (by subst_vars; first | omega | (simp only [up_s, inI_self, inI_1, inI_31]; done) | (simp only [up_s, inI_self, inI_1, inI_31]; omega) | (simp only [up_s, inI_self, inI_1, inI_31]; subst_vars; first | rfl | omega)), r, q, by first | exact hmw | (subst_vars; exact hmw) | (simp only [inI_self, inI_1, inI_31] at hmw; subst_vars; exact hmw), by first | exact nw_rf | exact nw_up (by omega) | exact nw_up2 (by omega), by first | exact nw_rf | exact nw_up (by omega) | exact nw_up2 (by omega)⟩
  · exact (show False by omega).elim

set_option maxHeartbeats 4000000 in
set_option maxRecDepth 100000 in
theorem mno1_number (θ : TH) (l : Launch) (S0 : State) (H : Heap) (w : Nat → Nat) (r q : Nat → Nat) (dt : Nat → Int) (sv : Nat → Nat → Int) (th dn rf kn : Int) (hw : MWR θ S0 w H r q dt sv th dn rf kn) (a : Int) (h_0 : -2147483648 ≤ a ∧ a < 2147483648) (h_1 : ¬ (0 ≤ a ∧ a < 6)) : CT l yX3_number cX3_number 2 (some .int) 2 42 0 0 [.ref (w 0), .int (iI a)] S0 H (fun v9 H1 => v9 = some (.int (iI 0)) ∧ ∃ r1 q1 : Nat → Nat, MWR θ S0 w H1 r1 q1 dt sv 1 dn rf kn ∧ NW 6 H.size r r1 ∧ NW 3 H.size q q1) (fun _ _ => False) (WA w H.size) := by
  refine ct_of (by decide +kernel) (Nat.le_of_ble_eq_true rfl) ?_
  intro pg en s mi args below meth co ls fx hs hr hlk hxt hin hl
  subst hs
  obtain ⟨hx, hb, hml, hown, hts⟩ := id fx.1
  have hS : va_S (WA w s.heap.size) s.heap s.heap [] := va_S.rf
  obtain ⟨hz, hu, hm, hd, hsv⟩ := id hw
  have hAB : ∀ x : Nat, (WA w s.heap.size) x → θ.2.2.2 ≤ x := wa_b hu hz.2.1
  have hz0 := hz
  have hK := sz_K fx.2 hz
  have hlt0 := hm.lt
  have hu1 := hu.1
  have hAn : ∀ x : Nat, s.heap.size ≤ x → (WA w s.heap.size) x := fun _ h => Or.inr h
  refine lv_aload_n hx hb dX3_number_0 rfl (lv_at hl 0 rfl) ?_
  refine lv_iload_n hx hb dX3_number_1 rfl (lv_at hl 1 rfl) ?_
  obtain ⟨r1, hr1⟩ := bex (a < 0 ∨ 5 < a)
  refine c_P (As := [.int (iI a)]) (rest := [.ref (w 0)]) fx hl (pm_X3_isNo l a r1 hr1 (by omega)) dX3_number_2 k1113 k1114 k6 k1115 hd_X3_isNo rfl ⟨by decide, by decide⟩ (Nat.le_of_ble_eq_true rfl) ⟨by dsimp only; omega, by dsimp only; omega⟩ ?_
  have br1 : r1 = 0 ∨ r1 = 1 := hr1.elim (fun h => Or.inr h.1) (fun h => Or.inl h.1)
  refine q_con hx hb dX3_number_5 ?_
  refine q_con hx hb dX3_number_6 ?_
  obtain ⟨t2, f3, hq1t2, hq2t2⟩ := fails_ex r1 0 0 (by omega) (by omega) (by omega)
  have hmw : MWR θ S0 w s.heap r q dt sv th dn rf kn := ⟨hz, hu, hm, hd, hsv⟩
  refine c_M (w := w) (As := [.int (iI r1), .int (iI 0), .int (iI 0)]) (rest := []) (b := w 0) (C := RX3) fx hl (mw_fails θ l S0 _ w _ _ _ _ _ _ _ _ hmw r1 0 0 t2 f3 (by omega) hq1t2 hq2t2) (ob_recv hK hm.1 rfl) dX3_number_7 k1119 k1121 ks10 k6 k1122 hd_X3_fails rfl ⟨by decide, by decide⟩ (Nat.le_of_ble_eq_true rfl) ⟨by dsimp only; omega, by dsimp only; omega⟩ hS (fun x hx => hx ▸ Or.inl (Or.inl rfl)) (fun H4 locs hmH4 hszH4 hk0H4 hS => ?_)
  have hkH4 : ∀ x : Nat, x < (s.heap).size → ¬ x = w 0 → H4[x]? = (s.heap)[x]? := hk0H4
  have hzH4 := hz0.at hAB hS
  have hltH4 := hmH4.lt
  refine q_ieq (tgt := 17) hx hb dX3_number_10 (by decide) (by omega) (fun c5 => ?_) (fun c5 => ?_)
  · exact (show False by omega).elim
  · refine q_con hx hb dX3_number_13 ?_
    refine lv_goto (tgt := 22) hx hb dX3_number_14 (by decide) ?_
    obtain rfl : t2 = 1 := by omega
    have hmw : MWR θ S0 w H4 r q dt sv 1 dn rf kn := ⟨hzH4, hu, hmH4, hd, hsv⟩
    exact e_i hx hb hr hlk hS dX3_number_22 (Nat.le_of_ble_eq_true rfl) (Nat.le_of_ble_eq_true rfl) ⟨ex_i (by omega), r, q, by first | exact hmw | (subst_vars; exact hmw) | (simp only [inI_self, inI_1, inI_31] at hmw; subst_vars; exact hmw), by first | exact nw_rf | exact nw_up (by omega) | exact nw_up2 (by omega), by first | exact nw_rf | exact nw_up (by omega) | exact nw_up2 (by omega)⟩

set_option maxHeartbeats 4000000 in
set_option maxRecDepth 100000 in
theorem mok_lengthOfMonth (θ : TH) (l : Launch) (S0 : State) (H : Heap) (w : Nat → Nat) (r q : Nat → Nat) (dt : Nat → Int) (sv : Nat → Nat → Int) (th dn rf kn : Int) (hw : MWR θ S0 w H r q dt sv th dn rf kn) (a : Int) (h_0 : -2147483648 ≤ a ∧ a < 2147483648) (h_1 : 0 ≤ a ∧ a < 6) : CT l yX3_lengthOfMonth cX3_lengthOfMonth 2 (some .int) 4 83 0 0 [.ref (w 0), .int (iI a)] S0 H (fun v9 H1 => v9 = some (.int (iI (fI (mI (dt a.toNat) + 1) - fI (mI (dt a.toNat))))) ∧ ∃ r1 q1 : Nat → Nat, MWR θ S0 w H1 r1 q1 dt sv 0 dn rf kn ∧ NW 6 H.size r r1 ∧ NW 3 H.size q q1) (fun _ _ => False) (WA w H.size) := by
  refine ct_of (by decide +kernel) (Nat.le_of_ble_eq_true rfl) ?_
  intro pg en s mi args below meth co ls fx hs hr hlk hxt hin hl
  subst hs
  obtain ⟨hx, hb, hml, hown, hts⟩ := id fx.1
  have hS : va_S (WA w s.heap.size) s.heap s.heap [] := va_S.rf
  obtain ⟨hz, hu, hm, hd, hsv⟩ := id hw
  have hAB : ∀ x : Nat, (WA w s.heap.size) x → θ.2.2.2 ≤ x := wa_b hu hz.2.1
  have hz0 := hz
  have hK := sz_K fx.2 hz
  have hlt0 := hm.lt
  have hu1 := hu.1
  have hAn : ∀ x : Nat, s.heap.size ≤ x → (WA w s.heap.size) x := fun _ h => Or.inr h
  have tt1 := inR (hd a.toNat (by omega))
  refine lv_aload_n hx hb dX3_lengthOfMonth_0 rfl (lv_at hl 0 rfl) ?_
  refine lv_iload_n hx hb dX3_lengthOfMonth_1 rfl (lv_at hl 1 rfl) ?_
  obtain ⟨r1, hr1⟩ := bex (a < 0 ∨ 5 < a)
  refine c_P (As := [.int (iI a)]) (rest := [.ref (w 0)]) fx hl (pm_X3_isNo l a r1 hr1 (by omega)) dX3_lengthOfMonth_2 k1113 k1114 k6 k1115 hd_X3_isNo rfl ⟨by decide, by decide⟩ (Nat.le_of_ble_eq_true rfl) ⟨by dsimp only; omega, by dsimp only; omega⟩ ?_
  have br1 : r1 = 0 ∨ r1 = 1 := hr1.elim (fun h => Or.inr h.1) (fun h => Or.inl h.1)
  refine q_con hx hb dX3_lengthOfMonth_5 ?_
  refine q_con hx hb dX3_lengthOfMonth_6 ?_
  obtain ⟨t2, f3, hq1t2, hq2t2⟩ := fails_ex r1 0 0 (by omega) (by omega) (by omega)
  have hmw : MWR θ S0 w s.heap r q dt sv th dn rf kn := ⟨hz, hu, hm, hd, hsv⟩
  refine c_M (w := w) (As := [.int (iI r1), .int (iI 0), .int (iI 0)]) (rest := []) (b := w 0) (C := RX3) fx hl (mw_fails θ l S0 _ w _ _ _ _ _ _ _ _ hmw r1 0 0 t2 f3 (by omega) hq1t2 hq2t2) (ob_recv hK hm.1 rfl) dX3_lengthOfMonth_7 k1119 k1121 ks10 k6 k1122 hd_X3_fails rfl ⟨by decide, by decide⟩ (Nat.le_of_ble_eq_true rfl) ⟨by dsimp only; omega, by dsimp only; omega⟩ hS (fun x hx => hx ▸ Or.inl (Or.inl rfl)) (fun H4 locs hmH4 hszH4 hk0H4 hS => ?_)
  have hkH4 : ∀ x : Nat, x < (s.heap).size → ¬ x = w 0 → H4[x]? = (s.heap)[x]? := hk0H4
  have hzH4 := hz0.at hAB hS
  have hltH4 := hmH4.lt
  refine q_ieq (tgt := 17) hx hb dX3_lengthOfMonth_10 (by decide) (by omega) (fun c5 => ?_) (fun c5 => ?_)
  · refine lv_aload_n hx hb dX3_lengthOfMonth_17 rfl (lv_at hl 0 rfl) ?_
    refine r_get (θ := θ) (C := RX3) (T := TX3) (N := 6) (ci := 9) hx hb hts gwX3 hown hK hmH4.1 rfl 4 (by decide) k1094 (fun _ h => h) (v := .ref (w 1)) rfl dX3_lengthOfMonth_18 ?_
    refine lv_iload_n hx hb dX3_lengthOfMonth_21 rfl (lv_at hl 1 rfl) ?_
    refine r_aald (θ := θ) hx hb hK hmH4.2.1 (i := a) (by omega) (by decide) dX3_lengthOfMonth_22 ?_
    have rw6 := (hmH4.2.2.2.1 (a.toNat) (by omega)).1
    have rw6n := (hmH4.2.2.2.1 (a.toNat) (by omega)).2
    have rw6t := hd (a.toNat) (by omega)
    have rw6l := rw6.lt
    have rw6i := inR rw6t
    have rw6m := inM rw6i
    have rw6d := dI_b (dt a.toNat)
    refine q_con hx hb dX3_lengthOfMonth_23 ?_
    refine r_iald (θ := θ) hx hb hK rw6 (i := 0) (by omega) (by decide) dX3_lengthOfMonth_24 ?_
    refine q_as (mI (dt a.toNat)) rfl ?_
    refine c_H (As := [.int (iI (mI (dt a.toNat)))]) (rest := []) fx hl (pm_X3_length θ l S0 _ hzH4 (mI (dt a.toNat)) (by omega)) dX3_lengthOfMonth_25 k1085 k1086 k6 k1087 hd_X3_length rfl ⟨by decide, by decide⟩ (Nat.le_of_ble_eq_true rfl) ⟨by dsimp only; omega, by dsimp only; omega⟩ ?_
    refine q_nm (fun z7 ez7 => ?_)
    have t0z7 := len_b (mI (dt a.toNat))
    obtain rfl : t2 = 0 := by omega
    have hmw : MWR θ S0 w H4 r q dt sv 0 dn rf kn := ⟨hzH4, hu, hmH4, hd, hsv⟩
    exact e_i hx hb hr hlk hS dX3_lengthOfMonth_28 (Nat.le_of_ble_eq_true rfl) (Nat.le_of_ble_eq_true rfl) ⟨ex_i (by subst_vars; first | omega | (simp only [up_s, inI_self, inI_1, inI_31]; done) | (simp only [up_s, inI_self, inI_1, inI_31]; omega) | (simp only [up_s, inI_self, inI_1, inI_31]; subst_vars; first | rfl | omega)), r, q, by first | exact hmw | (subst_vars; exact hmw) | (simp only [inI_self, inI_1, inI_31] at hmw; subst_vars; exact hmw), by first | exact nw_rf | exact nw_up (by omega) | exact nw_up2 (by omega), by first | exact nw_rf | exact nw_up (by omega) | exact nw_up2 (by omega)⟩
  · exact (show False by omega).elim

set_option maxHeartbeats 4000000 in
set_option maxRecDepth 100000 in
theorem mno1_lengthOfMonth (θ : TH) (l : Launch) (S0 : State) (H : Heap) (w : Nat → Nat) (r q : Nat → Nat) (dt : Nat → Int) (sv : Nat → Nat → Int) (th dn rf kn : Int) (hw : MWR θ S0 w H r q dt sv th dn rf kn) (a : Int) (h_0 : -2147483648 ≤ a ∧ a < 2147483648) (h_1 : ¬ (0 ≤ a ∧ a < 6)) : CT l yX3_lengthOfMonth cX3_lengthOfMonth 2 (some .int) 2 42 0 0 [.ref (w 0), .int (iI a)] S0 H (fun v9 H1 => v9 = some (.int (iI 0)) ∧ ∃ r1 q1 : Nat → Nat, MWR θ S0 w H1 r1 q1 dt sv 1 dn rf kn ∧ NW 6 H.size r r1 ∧ NW 3 H.size q q1) (fun _ _ => False) (WA w H.size) := by
  refine ct_of (by decide +kernel) (Nat.le_of_ble_eq_true rfl) ?_
  intro pg en s mi args below meth co ls fx hs hr hlk hxt hin hl
  subst hs
  obtain ⟨hx, hb, hml, hown, hts⟩ := id fx.1
  have hS : va_S (WA w s.heap.size) s.heap s.heap [] := va_S.rf
  obtain ⟨hz, hu, hm, hd, hsv⟩ := id hw
  have hAB : ∀ x : Nat, (WA w s.heap.size) x → θ.2.2.2 ≤ x := wa_b hu hz.2.1
  have hz0 := hz
  have hK := sz_K fx.2 hz
  have hlt0 := hm.lt
  have hu1 := hu.1
  have hAn : ∀ x : Nat, s.heap.size ≤ x → (WA w s.heap.size) x := fun _ h => Or.inr h
  refine lv_aload_n hx hb dX3_lengthOfMonth_0 rfl (lv_at hl 0 rfl) ?_
  refine lv_iload_n hx hb dX3_lengthOfMonth_1 rfl (lv_at hl 1 rfl) ?_
  obtain ⟨r1, hr1⟩ := bex (a < 0 ∨ 5 < a)
  refine c_P (As := [.int (iI a)]) (rest := [.ref (w 0)]) fx hl (pm_X3_isNo l a r1 hr1 (by omega)) dX3_lengthOfMonth_2 k1113 k1114 k6 k1115 hd_X3_isNo rfl ⟨by decide, by decide⟩ (Nat.le_of_ble_eq_true rfl) ⟨by dsimp only; omega, by dsimp only; omega⟩ ?_
  have br1 : r1 = 0 ∨ r1 = 1 := hr1.elim (fun h => Or.inr h.1) (fun h => Or.inl h.1)
  refine q_con hx hb dX3_lengthOfMonth_5 ?_
  refine q_con hx hb dX3_lengthOfMonth_6 ?_
  obtain ⟨t2, f3, hq1t2, hq2t2⟩ := fails_ex r1 0 0 (by omega) (by omega) (by omega)
  have hmw : MWR θ S0 w s.heap r q dt sv th dn rf kn := ⟨hz, hu, hm, hd, hsv⟩
  refine c_M (w := w) (As := [.int (iI r1), .int (iI 0), .int (iI 0)]) (rest := []) (b := w 0) (C := RX3) fx hl (mw_fails θ l S0 _ w _ _ _ _ _ _ _ _ hmw r1 0 0 t2 f3 (by omega) hq1t2 hq2t2) (ob_recv hK hm.1 rfl) dX3_lengthOfMonth_7 k1119 k1121 ks10 k6 k1122 hd_X3_fails rfl ⟨by decide, by decide⟩ (Nat.le_of_ble_eq_true rfl) ⟨by dsimp only; omega, by dsimp only; omega⟩ hS (fun x hx => hx ▸ Or.inl (Or.inl rfl)) (fun H4 locs hmH4 hszH4 hk0H4 hS => ?_)
  have hkH4 : ∀ x : Nat, x < (s.heap).size → ¬ x = w 0 → H4[x]? = (s.heap)[x]? := hk0H4
  have hzH4 := hz0.at hAB hS
  have hltH4 := hmH4.lt
  refine q_ieq (tgt := 17) hx hb dX3_lengthOfMonth_10 (by decide) (by omega) (fun c5 => ?_) (fun c5 => ?_)
  · exact (show False by omega).elim
  · refine q_con hx hb dX3_lengthOfMonth_13 ?_
    refine lv_goto (tgt := 28) hx hb dX3_lengthOfMonth_14 (by decide) ?_
    obtain rfl : t2 = 1 := by omega
    have hmw : MWR θ S0 w H4 r q dt sv 1 dn rf kn := ⟨hzH4, hu, hmH4, hd, hsv⟩
    exact e_i hx hb hr hlk hS dX3_lengthOfMonth_28 (Nat.le_of_ble_eq_true rfl) (Nat.le_of_ble_eq_true rfl) ⟨ex_i (by omega), r, q, by first | exact hmw | (subst_vars; exact hmw) | (simp only [inI_self, inI_1, inI_31] at hmw; subst_vars; exact hmw), by first | exact nw_rf | exact nw_up (by omega) | exact nw_up2 (by omega), by first | exact nw_rf | exact nw_up (by omega) | exact nw_up2 (by omega)⟩

set_option maxHeartbeats 4000000 in
set_option maxRecDepth 100000 in
theorem mok_isLeapYear (θ : TH) (l : Launch) (S0 : State) (H : Heap) (w : Nat → Nat) (r q : Nat → Nat) (dt : Nat → Int) (sv : Nat → Nat → Int) (th dn rf kn : Int) (hw : MWR θ S0 w H r q dt sv th dn rf kn) (a : Int) (r9 : Int) (hr0 : (r9 = 1 ∧ (lpI (mI (dt a.toNat) / 12))) ∨ (r9 = 0 ∧ ¬ (lpI (mI (dt a.toNat) / 12)))) (h_0 : -2147483648 ≤ a ∧ a < 2147483648) (h_1 : 0 ≤ a ∧ a < 6) : CT l yX3_isLeapYear cX3_isLeapYear 2 (some .boolean) 3 62 0 0 [.ref (w 0), .int (iI a)] S0 H (fun v9 H1 => v9 = some (.int (iI r9)) ∧ ∃ r1 q1 : Nat → Nat, MWR θ S0 w H1 r1 q1 dt sv 0 dn rf kn ∧ NW 6 H.size r r1 ∧ NW 3 H.size q q1) (fun _ _ => False) (WA w H.size) := by
  refine ct_of (by decide +kernel) (Nat.le_of_ble_eq_true rfl) ?_
  intro pg en s mi args below meth co ls fx hs hr hlk hxt hin hl
  subst hs
  obtain ⟨hx, hb, hml, hown, hts⟩ := id fx.1
  have hS : va_S (WA w s.heap.size) s.heap s.heap [] := va_S.rf
  obtain ⟨hz, hu, hm, hd, hsv⟩ := id hw
  have hAB : ∀ x : Nat, (WA w s.heap.size) x → θ.2.2.2 ≤ x := wa_b hu hz.2.1
  have hz0 := hz
  have hK := sz_K fx.2 hz
  have hlt0 := hm.lt
  have hu1 := hu.1
  have hAn : ∀ x : Nat, s.heap.size ≤ x → (WA w s.heap.size) x := fun _ h => Or.inr h
  refine lv_aload_n hx hb dX3_isLeapYear_0 rfl (lv_at hl 0 rfl) ?_
  refine lv_iload_n hx hb dX3_isLeapYear_1 rfl (lv_at hl 1 rfl) ?_
  obtain ⟨r1, hr1⟩ := bex (a < 0 ∨ 5 < a)
  refine c_P (As := [.int (iI a)]) (rest := [.ref (w 0)]) fx hl (pm_X3_isNo l a r1 hr1 (by omega)) dX3_isLeapYear_2 k1113 k1114 k6 k1115 hd_X3_isNo rfl ⟨by decide, by decide⟩ (Nat.le_of_ble_eq_true rfl) ⟨by dsimp only; omega, by dsimp only; omega⟩ ?_
  have br1 : r1 = 0 ∨ r1 = 1 := hr1.elim (fun h => Or.inr h.1) (fun h => Or.inl h.1)
  refine q_con hx hb dX3_isLeapYear_5 ?_
  refine q_con hx hb dX3_isLeapYear_6 ?_
  obtain ⟨t2, f3, hq1t2, hq2t2⟩ := fails_ex r1 0 0 (by omega) (by omega) (by omega)
  have hmw : MWR θ S0 w s.heap r q dt sv th dn rf kn := ⟨hz, hu, hm, hd, hsv⟩
  refine c_M (w := w) (As := [.int (iI r1), .int (iI 0), .int (iI 0)]) (rest := []) (b := w 0) (C := RX3) fx hl (mw_fails θ l S0 _ w _ _ _ _ _ _ _ _ hmw r1 0 0 t2 f3 (by omega) hq1t2 hq2t2) (ob_recv hK hm.1 rfl) dX3_isLeapYear_7 k1119 k1121 ks10 k6 k1122 hd_X3_fails rfl ⟨by decide, by decide⟩ (Nat.le_of_ble_eq_true rfl) ⟨by dsimp only; omega, by dsimp only; omega⟩ hS (fun x hx => hx ▸ Or.inl (Or.inl rfl)) (fun H4 locs hmH4 hszH4 hk0H4 hS => ?_)
  have hkH4 : ∀ x : Nat, x < (s.heap).size → ¬ x = w 0 → H4[x]? = (s.heap)[x]? := hk0H4
  have hzH4 := hz0.at hAB hS
  have hltH4 := hmH4.lt
  refine q_ine (tgt := 36) hx hb dX3_isLeapYear_10 (by decide) (by omega) (fun c5 => ?_) (fun c5 => ?_)
  · exact (show False by omega).elim
  · refine lv_aload_n hx hb dX3_isLeapYear_13 rfl (lv_at hl 0 rfl) ?_
    refine r_get (θ := θ) (C := RX3) (T := TX3) (N := 6) (ci := 9) hx hb hts gwX3 hown hK hmH4.1 rfl 4 (by decide) k1094 (fun _ h => h) (v := .ref (w 1)) rfl dX3_isLeapYear_14 ?_
    refine lv_iload_n hx hb dX3_isLeapYear_17 rfl (lv_at hl 1 rfl) ?_
    refine r_aald (θ := θ) hx hb hK hmH4.2.1 (i := a) (by omega) (by decide) dX3_isLeapYear_18 ?_
    have rw6 := (hmH4.2.2.2.1 (a.toNat) (by omega)).1
    have rw6n := (hmH4.2.2.2.1 (a.toNat) (by omega)).2
    have rw6t := hd (a.toNat) (by omega)
    have rw6l := rw6.lt
    have rw6i := inR rw6t
    have rw6m := inM rw6i
    have rw6d := dI_b (dt a.toNat)
    refine q_con hx hb dX3_isLeapYear_19 ?_
    refine r_iald (θ := θ) hx hb hK rw6 (i := 0) (by omega) (by decide) dX3_isLeapYear_20 ?_
    refine q_as (mI (dt a.toNat)) rfl ?_
    refine q_bip hx hb dX3_isLeapYear_21 (by decide) ?_
    refine c_P (As := [.int (iI (mI (dt a.toNat))), .int (iI 12)]) (rest := []) fx hl (pm_X3_down l (mI (dt a.toNat)) 12 (by omega) (by omega)) dX3_isLeapYear_23 k1073 k1074 k6 k1075 hd_X3_down rfl ⟨by decide, by decide⟩ (Nat.le_of_ble_eq_true rfl) ⟨by dsimp only; omega, by dsimp only; omega⟩ ?_
    refine q_nm (fun z7 ez7 => ?_)
    obtain ⟨r8, hr8⟩ := bex (lpI z7)
    refine c_P (As := [.int (iI z7)]) (rest := []) fx hl (pm_X3_isLeap l z7 r8 hr8 (by omega)) dX3_isLeapYear_26 k1079 k1080 k6 k1081 hd_X3_isLeap rfl ⟨by decide, by decide⟩ (Nat.le_of_ble_eq_true rfl) ⟨by dsimp only; omega, by dsimp only; omega⟩ ?_
    have br8 : r8 = 0 ∨ r8 = 1 := hr8.elim (fun h => Or.inr h.1) (fun h => Or.inl h.1)
    refine q_ieq (tgt := 36) hx hb dX3_isLeapYear_29 (by decide) (by omega) (fun c9 => ?_) (fun c9 => ?_)
    · refine q_con hx hb dX3_isLeapYear_36 ?_
      obtain rfl : t2 = 0 := by omega
      have hmw : MWR θ S0 w H4 r q dt sv 0 dn rf kn := ⟨hzH4, hu, hmH4, hd, hsv⟩
      exact e_z hx hb hr hlk (by decide) hS dX3_isLeapYear_37 (Nat.le_of_ble_eq_true rfl) (Nat.le_of_ble_eq_true rfl) ⟨ex_i (by subst_vars; first | omega | (rcases hr0 with ⟨q1, q2⟩ | ⟨q1, q2⟩ <;> rcases hr8 with ⟨q3, q4⟩ | ⟨q3, q4⟩ <;> first | omega | exact (q2 q4).elim | exact (q4 q2).elim)), r, q, by first | exact hmw | (subst_vars; exact hmw) | (simp only [inI_self, inI_1, inI_31] at hmw; subst_vars; exact hmw), by first | exact nw_rf | exact nw_up (by omega) | exact nw_up2 (by omega), by first | exact nw_rf | exact nw_up (by omega) | exact nw_up2 (by omega)⟩
    · refine q_con hx hb dX3_isLeapYear_32 ?_
      refine lv_goto (tgt := 37) hx hb dX3_isLeapYear_33 (by decide) ?_
      obtain rfl : t2 = 0 := by omega
      have hmw : MWR θ S0 w H4 r q dt sv 0 dn rf kn := ⟨hzH4, hu, hmH4, hd, hsv⟩
      exact e_z hx hb hr hlk (by decide) hS dX3_isLeapYear_37 (Nat.le_of_ble_eq_true rfl) (Nat.le_of_ble_eq_true rfl) ⟨ex_i (by subst_vars; first | omega | (rcases hr0 with ⟨q1, q2⟩ | ⟨q1, q2⟩ <;> rcases hr8 with ⟨q3, q4⟩ | ⟨q3, q4⟩ <;> first | omega | exact (q2 q4).elim | exact (q4 q2).elim)), r, q, by first | exact hmw | (subst_vars; exact hmw) | (simp only [inI_self, inI_1, inI_31] at hmw; subst_vars; exact hmw), by first | exact nw_rf | exact nw_up (by omega) | exact nw_up2 (by omega), by first | exact nw_rf | exact nw_up (by omega) | exact nw_up2 (by omega)⟩

set_option maxHeartbeats 4000000 in
set_option maxRecDepth 100000 in
theorem mno1_isLeapYear (θ : TH) (l : Launch) (S0 : State) (H : Heap) (w : Nat → Nat) (r q : Nat → Nat) (dt : Nat → Int) (sv : Nat → Nat → Int) (th dn rf kn : Int) (hw : MWR θ S0 w H r q dt sv th dn rf kn) (a : Int) (h_0 : -2147483648 ≤ a ∧ a < 2147483648) (h_1 : ¬ (0 ≤ a ∧ a < 6)) : CT l yX3_isLeapYear cX3_isLeapYear 2 (some .boolean) 2 42 0 0 [.ref (w 0), .int (iI a)] S0 H (fun v9 H1 => v9 = some (.int (iI 0)) ∧ ∃ r1 q1 : Nat → Nat, MWR θ S0 w H1 r1 q1 dt sv 1 dn rf kn ∧ NW 6 H.size r r1 ∧ NW 3 H.size q q1) (fun _ _ => False) (WA w H.size) := by
  refine ct_of (by decide +kernel) (Nat.le_of_ble_eq_true rfl) ?_
  intro pg en s mi args below meth co ls fx hs hr hlk hxt hin hl
  subst hs
  obtain ⟨hx, hb, hml, hown, hts⟩ := id fx.1
  have hS : va_S (WA w s.heap.size) s.heap s.heap [] := va_S.rf
  obtain ⟨hz, hu, hm, hd, hsv⟩ := id hw
  have hAB : ∀ x : Nat, (WA w s.heap.size) x → θ.2.2.2 ≤ x := wa_b hu hz.2.1
  have hz0 := hz
  have hK := sz_K fx.2 hz
  have hlt0 := hm.lt
  have hu1 := hu.1
  have hAn : ∀ x : Nat, s.heap.size ≤ x → (WA w s.heap.size) x := fun _ h => Or.inr h
  refine lv_aload_n hx hb dX3_isLeapYear_0 rfl (lv_at hl 0 rfl) ?_
  refine lv_iload_n hx hb dX3_isLeapYear_1 rfl (lv_at hl 1 rfl) ?_
  obtain ⟨r1, hr1⟩ := bex (a < 0 ∨ 5 < a)
  refine c_P (As := [.int (iI a)]) (rest := [.ref (w 0)]) fx hl (pm_X3_isNo l a r1 hr1 (by omega)) dX3_isLeapYear_2 k1113 k1114 k6 k1115 hd_X3_isNo rfl ⟨by decide, by decide⟩ (Nat.le_of_ble_eq_true rfl) ⟨by dsimp only; omega, by dsimp only; omega⟩ ?_
  have br1 : r1 = 0 ∨ r1 = 1 := hr1.elim (fun h => Or.inr h.1) (fun h => Or.inl h.1)
  refine q_con hx hb dX3_isLeapYear_5 ?_
  refine q_con hx hb dX3_isLeapYear_6 ?_
  obtain ⟨t2, f3, hq1t2, hq2t2⟩ := fails_ex r1 0 0 (by omega) (by omega) (by omega)
  have hmw : MWR θ S0 w s.heap r q dt sv th dn rf kn := ⟨hz, hu, hm, hd, hsv⟩
  refine c_M (w := w) (As := [.int (iI r1), .int (iI 0), .int (iI 0)]) (rest := []) (b := w 0) (C := RX3) fx hl (mw_fails θ l S0 _ w _ _ _ _ _ _ _ _ hmw r1 0 0 t2 f3 (by omega) hq1t2 hq2t2) (ob_recv hK hm.1 rfl) dX3_isLeapYear_7 k1119 k1121 ks10 k6 k1122 hd_X3_fails rfl ⟨by decide, by decide⟩ (Nat.le_of_ble_eq_true rfl) ⟨by dsimp only; omega, by dsimp only; omega⟩ hS (fun x hx => hx ▸ Or.inl (Or.inl rfl)) (fun H4 locs hmH4 hszH4 hk0H4 hS => ?_)
  have hkH4 : ∀ x : Nat, x < (s.heap).size → ¬ x = w 0 → H4[x]? = (s.heap)[x]? := hk0H4
  have hzH4 := hz0.at hAB hS
  have hltH4 := hmH4.lt
  refine q_ine (tgt := 36) hx hb dX3_isLeapYear_10 (by decide) (by omega) (fun c5 => ?_) (fun c5 => ?_)
  · refine q_con hx hb dX3_isLeapYear_36 ?_
    obtain rfl : t2 = 1 := by omega
    have hmw : MWR θ S0 w H4 r q dt sv 1 dn rf kn := ⟨hzH4, hu, hmH4, hd, hsv⟩
    exact e_z hx hb hr hlk (by decide) hS dX3_isLeapYear_37 (Nat.le_of_ble_eq_true rfl) (Nat.le_of_ble_eq_true rfl) ⟨ex_i (by omega), r, q, by first | exact hmw | (subst_vars; exact hmw) | (simp only [inI_self, inI_1, inI_31] at hmw; subst_vars; exact hmw), by first | exact nw_rf | exact nw_up (by omega) | exact nw_up2 (by omega), by first | exact nw_rf | exact nw_up (by omega) | exact nw_up2 (by omega)⟩
  · exact (show False by omega).elim

set_option maxHeartbeats 4000000 in
set_option maxRecDepth 100000 in
theorem mok_between (θ : TH) (l : Launch) (S0 : State) (H : Heap) (w : Nat → Nat) (r q : Nat → Nat) (dt : Nat → Int) (sv : Nat → Nat → Int) (th dn rf kn : Int) (hw : MWR θ S0 w H r q dt sv th dn rf kn) (a b : Int) (h_0 : -2147483648 ≤ a ∧ a < 2147483648) (h_1 : -2147483648 ≤ b ∧ b < 2147483648) (h_2 : 0 ≤ a ∧ a < 6) (h_3 : 0 ≤ b ∧ b < 6) : CT l yX3_between cX3_between 3 (some .int) 7 148 0 0 [.ref (w 0), .int (iI a), .int (iI b)] S0 H (fun v9 H1 => v9 = some (.int (iI (dt b.toNat - dt a.toNat))) ∧ ∃ r1 q1 : Nat → Nat, MWR θ S0 w H1 r1 q1 dt sv 0 dn rf kn ∧ NW 6 H.size r r1 ∧ NW 3 H.size q q1) (fun _ _ => False) (WA w H.size) := by
  refine ct_of (by decide +kernel) (Nat.le_of_ble_eq_true rfl) ?_
  intro pg en s mi args below meth co ls fx hs hr hlk hxt hin hl
  subst hs
  obtain ⟨hx, hb, hml, hown, hts⟩ := id fx.1
  have hS : va_S (WA w s.heap.size) s.heap s.heap [] := va_S.rf
  obtain ⟨hz, hu, hm, hd, hsv⟩ := id hw
  have hAB : ∀ x : Nat, (WA w s.heap.size) x → θ.2.2.2 ≤ x := wa_b hu hz.2.1
  have hz0 := hz
  have hK := sz_K fx.2 hz
  have hlt0 := hm.lt
  have hu1 := hu.1
  have hAn : ∀ x : Nat, s.heap.size ≤ x → (WA w s.heap.size) x := fun _ h => Or.inr h
  refine lv_aload_n hx hb dX3_between_0 rfl (lv_at hl 0 rfl) ?_
  refine lv_iload_n hx hb dX3_between_1 rfl (lv_at hl 1 rfl) ?_
  refine lv_iload_n hx hb dX3_between_2 rfl (lv_at hl 2 rfl) ?_
  obtain ⟨r1, hr1⟩ := bex ((a < 0 ∨ 5 < a) ∨ (b < 0 ∨ 5 < b))
  refine c_P (As := [.int (iI a), .int (iI b)]) (rest := [.ref (w 0)]) fx hl (pm_X3_areNo l a b r1 hr1 (by omega) (by omega)) dX3_between_3 k1162 k1163 k6 k1164 hd_X3_areNo rfl ⟨by decide, by decide⟩ (Nat.le_of_ble_eq_true rfl) ⟨by dsimp only; omega, by dsimp only; omega⟩ ?_
  have br1 : r1 = 0 ∨ r1 = 1 := hr1.elim (fun h => Or.inr h.1) (fun h => Or.inl h.1)
  refine q_con hx hb dX3_between_6 ?_
  refine q_con hx hb dX3_between_7 ?_
  obtain ⟨t2, f3, hq1t2, hq2t2⟩ := fails_ex r1 0 0 (by omega) (by omega) (by omega)
  have hmw : MWR θ S0 w s.heap r q dt sv th dn rf kn := ⟨hz, hu, hm, hd, hsv⟩
  refine c_M (w := w) (As := [.int (iI r1), .int (iI 0), .int (iI 0)]) (rest := []) (b := w 0) (C := RX3) fx hl (mw_fails θ l S0 _ w _ _ _ _ _ _ _ _ hmw r1 0 0 t2 f3 (by omega) hq1t2 hq2t2) (ob_recv hK hm.1 rfl) dX3_between_8 k1119 k1121 ks10 k6 k1122 hd_X3_fails rfl ⟨by decide, by decide⟩ (Nat.le_of_ble_eq_true rfl) ⟨by dsimp only; omega, by dsimp only; omega⟩ hS (fun x hx => hx ▸ Or.inl (Or.inl rfl)) (fun H4 locs hmH4 hszH4 hk0H4 hS => ?_)
  have hkH4 : ∀ x : Nat, x < (s.heap).size → ¬ x = w 0 → H4[x]? = (s.heap)[x]? := hk0H4
  have hzH4 := hz0.at hAB hS
  have hltH4 := hmH4.lt
  refine q_ieq (tgt := 18) hx hb dX3_between_11 (by decide) (by omega) (fun c5 => ?_) (fun c5 => ?_)
  · refine lv_aload_n hx hb dX3_between_18 rfl (lv_at hl 0 rfl) ?_
    refine lv_iload_n hx hb dX3_between_19 rfl (lv_at hl 2 rfl) ?_
    have hmw : MWR θ S0 w H4 r q dt sv t2 dn rf kn := ⟨hzH4, hu, hmH4, hd, hsv⟩
    refine c_HV (As := [.int (iI b)]) (rest := []) (b := w 0) (C := RX3) fx hl (mr_became θ l S0 _ w _ _ _ _ _ _ _ _ hmw b (by omega)) (ob_recv hK hmH4.1 rfl) dX3_between_20 k1141 k1143 ks12 k6 k1144 hd_X3_became rfl ⟨by decide, by decide⟩ (Nat.le_of_ble_eq_true rfl) ⟨by dsimp only; omega, by dsimp only; omega⟩ ?_
    have t0z6 := hd b.toNat (by omega)
    refine lv_aload_n hx hb dX3_between_23 rfl (lv_at hl 0 rfl) ?_
    refine lv_iload_n hx hb dX3_between_24 rfl (lv_at hl 1 rfl) ?_
    have hmw : MWR θ S0 w H4 r q dt sv t2 dn rf kn := ⟨hzH4, hu, hmH4, hd, hsv⟩
    refine c_HV (As := [.int (iI a)]) (rest := [.int (iI (dt b.toNat))]) (b := w 0) (C := RX3) fx hl (mr_became θ l S0 _ w _ _ _ _ _ _ _ _ hmw a (by omega)) (ob_recv hK hmH4.1 rfl) dX3_between_25 k1141 k1143 ks12 k6 k1144 hd_X3_became rfl ⟨by decide, by decide⟩ (Nat.le_of_ble_eq_true rfl) ⟨by dsimp only; omega, by dsimp only; omega⟩ ?_
    have t0z7 := hd a.toNat (by omega)
    refine q_sub hx hb dX3_between_28 ?_
    obtain rfl : t2 = 0 := by omega
    have hmw : MWR θ S0 w H4 r q dt sv 0 dn rf kn := ⟨hzH4, hu, hmH4, hd, hsv⟩
    exact e_i hx hb hr hlk hS dX3_between_29 (Nat.le_of_ble_eq_true rfl) (Nat.le_of_ble_eq_true rfl) ⟨ex_i (by subst_vars; first | omega | (simp only [up_s, inI_self, inI_1, inI_31]; done) | (simp only [up_s, inI_self, inI_1, inI_31]; omega) | (simp only [up_s, inI_self, inI_1, inI_31]; subst_vars; first | rfl | omega)), r, q, by first | exact hmw | (subst_vars; exact hmw) | (simp only [inI_self, inI_1, inI_31] at hmw; subst_vars; exact hmw), by first | exact nw_rf | exact nw_up (by omega) | exact nw_up2 (by omega), by first | exact nw_rf | exact nw_up (by omega) | exact nw_up2 (by omega)⟩
  · exact (show False by omega).elim

set_option maxHeartbeats 4000000 in
set_option maxRecDepth 100000 in
theorem mno1_between (θ : TH) (l : Launch) (S0 : State) (H : Heap) (w : Nat → Nat) (r q : Nat → Nat) (dt : Nat → Int) (sv : Nat → Nat → Int) (th dn rf kn : Int) (hw : MWR θ S0 w H r q dt sv th dn rf kn) (a b : Int) (h_0 : -2147483648 ≤ a ∧ a < 2147483648) (h_1 : -2147483648 ≤ b ∧ b < 2147483648) (h_2 : ¬ (0 ≤ a ∧ a < 6)) : CT l yX3_between cX3_between 3 (some .int) 3 63 0 0 [.ref (w 0), .int (iI a), .int (iI b)] S0 H (fun v9 H1 => v9 = some (.int (iI 0)) ∧ ∃ r1 q1 : Nat → Nat, MWR θ S0 w H1 r1 q1 dt sv 1 dn rf kn ∧ NW 6 H.size r r1 ∧ NW 3 H.size q q1) (fun _ _ => False) (WA w H.size) := by
  refine ct_of (by decide +kernel) (Nat.le_of_ble_eq_true rfl) ?_
  intro pg en s mi args below meth co ls fx hs hr hlk hxt hin hl
  subst hs
  obtain ⟨hx, hb, hml, hown, hts⟩ := id fx.1
  have hS : va_S (WA w s.heap.size) s.heap s.heap [] := va_S.rf
  obtain ⟨hz, hu, hm, hd, hsv⟩ := id hw
  have hAB : ∀ x : Nat, (WA w s.heap.size) x → θ.2.2.2 ≤ x := wa_b hu hz.2.1
  have hz0 := hz
  have hK := sz_K fx.2 hz
  have hlt0 := hm.lt
  have hu1 := hu.1
  have hAn : ∀ x : Nat, s.heap.size ≤ x → (WA w s.heap.size) x := fun _ h => Or.inr h
  refine lv_aload_n hx hb dX3_between_0 rfl (lv_at hl 0 rfl) ?_
  refine lv_iload_n hx hb dX3_between_1 rfl (lv_at hl 1 rfl) ?_
  refine lv_iload_n hx hb dX3_between_2 rfl (lv_at hl 2 rfl) ?_
  obtain ⟨r1, hr1⟩ := bex ((a < 0 ∨ 5 < a) ∨ (b < 0 ∨ 5 < b))
  refine c_P (As := [.int (iI a), .int (iI b)]) (rest := [.ref (w 0)]) fx hl (pm_X3_areNo l a b r1 hr1 (by omega) (by omega)) dX3_between_3 k1162 k1163 k6 k1164 hd_X3_areNo rfl ⟨by decide, by decide⟩ (Nat.le_of_ble_eq_true rfl) ⟨by dsimp only; omega, by dsimp only; omega⟩ ?_
  have br1 : r1 = 0 ∨ r1 = 1 := hr1.elim (fun h => Or.inr h.1) (fun h => Or.inl h.1)
  refine q_con hx hb dX3_between_6 ?_
  refine q_con hx hb dX3_between_7 ?_
  obtain ⟨t2, f3, hq1t2, hq2t2⟩ := fails_ex r1 0 0 (by omega) (by omega) (by omega)
  have hmw : MWR θ S0 w s.heap r q dt sv th dn rf kn := ⟨hz, hu, hm, hd, hsv⟩
  refine c_M (w := w) (As := [.int (iI r1), .int (iI 0), .int (iI 0)]) (rest := []) (b := w 0) (C := RX3) fx hl (mw_fails θ l S0 _ w _ _ _ _ _ _ _ _ hmw r1 0 0 t2 f3 (by omega) hq1t2 hq2t2) (ob_recv hK hm.1 rfl) dX3_between_8 k1119 k1121 ks10 k6 k1122 hd_X3_fails rfl ⟨by decide, by decide⟩ (Nat.le_of_ble_eq_true rfl) ⟨by dsimp only; omega, by dsimp only; omega⟩ hS (fun x hx => hx ▸ Or.inl (Or.inl rfl)) (fun H4 locs hmH4 hszH4 hk0H4 hS => ?_)
  have hkH4 : ∀ x : Nat, x < (s.heap).size → ¬ x = w 0 → H4[x]? = (s.heap)[x]? := hk0H4
  have hzH4 := hz0.at hAB hS
  have hltH4 := hmH4.lt
  refine q_ieq (tgt := 18) hx hb dX3_between_11 (by decide) (by omega) (fun c5 => ?_) (fun c5 => ?_)
  · exact (show False by omega).elim
  · refine q_con hx hb dX3_between_14 ?_
    refine lv_goto (tgt := 29) hx hb dX3_between_15 (by decide) ?_
    obtain rfl : t2 = 1 := by omega
    have hmw : MWR θ S0 w H4 r q dt sv 1 dn rf kn := ⟨hzH4, hu, hmH4, hd, hsv⟩
    exact e_i hx hb hr hlk hS dX3_between_29 (Nat.le_of_ble_eq_true rfl) (Nat.le_of_ble_eq_true rfl) ⟨ex_i (by omega), r, q, by first | exact hmw | (subst_vars; exact hmw) | (simp only [inI_self, inI_1, inI_31] at hmw; subst_vars; exact hmw), by first | exact nw_rf | exact nw_up (by omega) | exact nw_up2 (by omega), by first | exact nw_rf | exact nw_up (by omega) | exact nw_up2 (by omega)⟩

set_option maxHeartbeats 4000000 in
set_option maxRecDepth 100000 in
theorem mno2_between (θ : TH) (l : Launch) (S0 : State) (H : Heap) (w : Nat → Nat) (r q : Nat → Nat) (dt : Nat → Int) (sv : Nat → Nat → Int) (th dn rf kn : Int) (hw : MWR θ S0 w H r q dt sv th dn rf kn) (a b : Int) (h_0 : -2147483648 ≤ a ∧ a < 2147483648) (h_1 : -2147483648 ≤ b ∧ b < 2147483648) (h_2 : 0 ≤ a ∧ a < 6) (h_3 : ¬ (0 ≤ b ∧ b < 6)) : CT l yX3_between cX3_between 3 (some .int) 3 63 0 0 [.ref (w 0), .int (iI a), .int (iI b)] S0 H (fun v9 H1 => v9 = some (.int (iI 0)) ∧ ∃ r1 q1 : Nat → Nat, MWR θ S0 w H1 r1 q1 dt sv 1 dn rf kn ∧ NW 6 H.size r r1 ∧ NW 3 H.size q q1) (fun _ _ => False) (WA w H.size) := by
  refine ct_of (by decide +kernel) (Nat.le_of_ble_eq_true rfl) ?_
  intro pg en s mi args below meth co ls fx hs hr hlk hxt hin hl
  subst hs
  obtain ⟨hx, hb, hml, hown, hts⟩ := id fx.1
  have hS : va_S (WA w s.heap.size) s.heap s.heap [] := va_S.rf
  obtain ⟨hz, hu, hm, hd, hsv⟩ := id hw
  have hAB : ∀ x : Nat, (WA w s.heap.size) x → θ.2.2.2 ≤ x := wa_b hu hz.2.1
  have hz0 := hz
  have hK := sz_K fx.2 hz
  have hlt0 := hm.lt
  have hu1 := hu.1
  have hAn : ∀ x : Nat, s.heap.size ≤ x → (WA w s.heap.size) x := fun _ h => Or.inr h
  refine lv_aload_n hx hb dX3_between_0 rfl (lv_at hl 0 rfl) ?_
  refine lv_iload_n hx hb dX3_between_1 rfl (lv_at hl 1 rfl) ?_
  refine lv_iload_n hx hb dX3_between_2 rfl (lv_at hl 2 rfl) ?_
  obtain ⟨r1, hr1⟩ := bex ((a < 0 ∨ 5 < a) ∨ (b < 0 ∨ 5 < b))
  refine c_P (As := [.int (iI a), .int (iI b)]) (rest := [.ref (w 0)]) fx hl (pm_X3_areNo l a b r1 hr1 (by omega) (by omega)) dX3_between_3 k1162 k1163 k6 k1164 hd_X3_areNo rfl ⟨by decide, by decide⟩ (Nat.le_of_ble_eq_true rfl) ⟨by dsimp only; omega, by dsimp only; omega⟩ ?_
  have br1 : r1 = 0 ∨ r1 = 1 := hr1.elim (fun h => Or.inr h.1) (fun h => Or.inl h.1)
  refine q_con hx hb dX3_between_6 ?_
  refine q_con hx hb dX3_between_7 ?_
  obtain ⟨t2, f3, hq1t2, hq2t2⟩ := fails_ex r1 0 0 (by omega) (by omega) (by omega)
  have hmw : MWR θ S0 w s.heap r q dt sv th dn rf kn := ⟨hz, hu, hm, hd, hsv⟩
  refine c_M (w := w) (As := [.int (iI r1), .int (iI 0), .int (iI 0)]) (rest := []) (b := w 0) (C := RX3) fx hl (mw_fails θ l S0 _ w _ _ _ _ _ _ _ _ hmw r1 0 0 t2 f3 (by omega) hq1t2 hq2t2) (ob_recv hK hm.1 rfl) dX3_between_8 k1119 k1121 ks10 k6 k1122 hd_X3_fails rfl ⟨by decide, by decide⟩ (Nat.le_of_ble_eq_true rfl) ⟨by dsimp only; omega, by dsimp only; omega⟩ hS (fun x hx => hx ▸ Or.inl (Or.inl rfl)) (fun H4 locs hmH4 hszH4 hk0H4 hS => ?_)
  have hkH4 : ∀ x : Nat, x < (s.heap).size → ¬ x = w 0 → H4[x]? = (s.heap)[x]? := hk0H4
  have hzH4 := hz0.at hAB hS
  have hltH4 := hmH4.lt
  refine q_ieq (tgt := 18) hx hb dX3_between_11 (by decide) (by omega) (fun c5 => ?_) (fun c5 => ?_)
  · exact (show False by omega).elim
  · refine q_con hx hb dX3_between_14 ?_
    refine lv_goto (tgt := 29) hx hb dX3_between_15 (by decide) ?_
    obtain rfl : t2 = 1 := by omega
    have hmw : MWR θ S0 w H4 r q dt sv 1 dn rf kn := ⟨hzH4, hu, hmH4, hd, hsv⟩
    exact e_i hx hb hr hlk hS dX3_between_29 (Nat.le_of_ble_eq_true rfl) (Nat.le_of_ble_eq_true rfl) ⟨ex_i (by omega), r, q, by first | exact hmw | (subst_vars; exact hmw) | (simp only [inI_self, inI_1, inI_31] at hmw; subst_vars; exact hmw), by first | exact nw_rf | exact nw_up (by omega) | exact nw_up2 (by omega), by first | exact nw_rf | exact nw_up (by omega) | exact nw_up2 (by omega)⟩

set_option maxHeartbeats 4000000 in
set_option maxRecDepth 100000 in
theorem mok_twice (θ : TH) (l : Launch) (S0 : State) (H : Heap) (w : Nat → Nat) (r q : Nat → Nat) (dt : Nat → Int) (sv : Nat → Nat → Int) (th dn rf kn : Int) (hw : MWR θ S0 w H r q dt sv th dn rf kn) (a n k : Int) (h_0 : -2147483648 ≤ a ∧ a < 2147483648) (h_1 : -2147483648 ≤ n ∧ n < 2147483648) (h_2 : -2147483648 ≤ k ∧ k < 2147483648) (h_3 : 0 ≤ a ∧ a < 6) (h_4 : -240000 ≤ n ∧ n ≤ 240000) (h_5 : -240000 ≤ k ∧ k ≤ 240000) : CT l yX3_twice cX3_twice 4 (some .int) 6 127 3 6 [.ref (w 0), .int (iI a), .int (iI n), .int (iI k)] S0 H (fun v9 H1 => v9 = some (.int (iI (shI (dt a.toNat) (n + k) - shI (shI (dt a.toNat) n) k))) ∧ ∃ r1 q1 : Nat → Nat, MWR θ S0 w H1 r1 q1 dt sv 0 dn rf kn ∧ NW 6 H.size r r1 ∧ NW 3 H.size q q1) (fun _ _ => False) (WA w H.size) := by
  refine ct_of (by decide +kernel) (Nat.le_of_ble_eq_true rfl) ?_
  intro pg en s mi args below meth co ls fx hs hr hlk hxt hin hl
  subst hs
  obtain ⟨hx, hb, hml, hown, hts⟩ := id fx.1
  have hS : va_S (WA w s.heap.size) s.heap s.heap [] := va_S.rf
  obtain ⟨hz, hu, hm, hd, hsv⟩ := id hw
  have hAB : ∀ x : Nat, (WA w s.heap.size) x → θ.2.2.2 ≤ x := wa_b hu hz.2.1
  have hz0 := hz
  have hK := sz_K fx.2 hz
  have hlt0 := hm.lt
  have hu1 := hu.1
  have hAn : ∀ x : Nat, s.heap.size ≤ x → (WA w s.heap.size) x := fun _ h => Or.inr h
  refine lv_aload_n hx hb dX3_twice_0 rfl (lv_at hl 0 rfl) ?_
  refine lv_iload_n hx hb dX3_twice_1 rfl (lv_at hl 1 rfl) ?_
  obtain ⟨r1, hr1⟩ := bex (a < 0 ∨ 5 < a)
  refine c_P (As := [.int (iI a)]) (rest := [.ref (w 0)]) fx hl (pm_X3_isNo l a r1 hr1 (by omega)) dX3_twice_2 k1113 k1114 k6 k1115 hd_X3_isNo rfl ⟨by decide, by decide⟩ (Nat.le_of_ble_eq_true rfl) ⟨by dsimp only; omega, by dsimp only; omega⟩ ?_
  have br1 : r1 = 0 ∨ r1 = 1 := hr1.elim (fun h => Or.inr h.1) (fun h => Or.inl h.1)
  refine lv_iload_n hx hb dX3_twice_5 rfl (lv_at hl 2 rfl) ?_
  refine q_ldc (n := -240000) hx hb hown (hts _ k1181) (by decide) dX3_twice_6 ?_
  refine q_ldc (n := 240000) hx hb hown (hts _ k1182) (by decide) dX3_twice_8 ?_
  obtain ⟨r2, hr2⟩ := bex (n < (-240000) ∨ 240000 < n)
  refine c_P (As := [.int (iI n), .int (iI (-240000)), .int (iI 240000)]) (rest := [.int (iI r1), .ref (w 0)]) fx hl (pm_X3_isOut l n (-240000) 240000 r2 hr2 (by omega) (by omega) (by omega)) dX3_twice_10 k1116 k1117 k6 k1118 hd_X3_isOut rfl ⟨by decide, by decide⟩ (Nat.le_of_ble_eq_true rfl) ⟨by dsimp only; omega, by dsimp only; omega⟩ ?_
  have br2 : r2 = 0 ∨ r2 = 1 := hr2.elim (fun h => Or.inr h.1) (fun h => Or.inl h.1)
  refine q_ine (tgt := 27) hx hb dX3_twice_13 (by decide) (by omega) (fun c3 => ?_) (fun c3 => ?_)
  · exact (show False by omega).elim
  · refine lv_iload_n hx hb dX3_twice_16 rfl (lv_at hl 3 rfl) ?_
    refine q_ldc (n := -240000) hx hb hown (hts _ k1181) (by decide) dX3_twice_17 ?_
    refine q_ldc (n := 240000) hx hb hown (hts _ k1182) (by decide) dX3_twice_19 ?_
    obtain ⟨r4, hr4⟩ := bex (k < (-240000) ∨ 240000 < k)
    refine c_P (As := [.int (iI k), .int (iI (-240000)), .int (iI 240000)]) (rest := [.int (iI r1), .ref (w 0)]) fx hl (pm_X3_isOut l k (-240000) 240000 r4 hr4 (by omega) (by omega) (by omega)) dX3_twice_21 k1116 k1117 k6 k1118 hd_X3_isOut rfl ⟨by decide, by decide⟩ (Nat.le_of_ble_eq_true rfl) ⟨by dsimp only; omega, by dsimp only; omega⟩ ?_
    have br4 : r4 = 0 ∨ r4 = 1 := hr4.elim (fun h => Or.inr h.1) (fun h => Or.inl h.1)
    refine q_ieq (tgt := 31) hx hb dX3_twice_24 (by decide) (by omega) (fun c5 => ?_) (fun c5 => ?_)
    · refine q_con hx hb dX3_twice_31 ?_
      refine q_con hx hb dX3_twice_32 ?_
      obtain ⟨t6, f7, hq1t6, hq2t6⟩ := fails_ex r1 0 0 (by omega) (by omega) (by omega)
      have hmw : MWR θ S0 w s.heap r q dt sv th dn rf kn := ⟨hz, hu, hm, hd, hsv⟩
      refine c_M (w := w) (As := [.int (iI r1), .int (iI 0), .int (iI 0)]) (rest := []) (b := w 0) (C := RX3) fx hl (mw_fails θ l S0 _ w _ _ _ _ _ _ _ _ hmw r1 0 0 t6 f7 (by omega) hq1t6 hq2t6) (ob_recv hK hm.1 rfl) dX3_twice_33 k1119 k1121 ks10 k6 k1122 hd_X3_fails rfl ⟨by decide, by decide⟩ (Nat.le_of_ble_eq_true rfl) ⟨by dsimp only; omega, by dsimp only; omega⟩ hS (fun x hx => hx ▸ Or.inl (Or.inl rfl)) (fun H8 locs hmH8 hszH8 hk0H8 hS => ?_)
      have hkH8 : ∀ x : Nat, x < (s.heap).size → ¬ x = w 0 → H8[x]? = (s.heap)[x]? := hk0H8
      have hzH8 := hz0.at hAB hS
      have hltH8 := hmH8.lt
      refine q_ieq (tgt := 41) hx hb dX3_twice_36 (by decide) (by omega) (fun c9 => ?_) (fun c9 => ?_)
      · refine lv_aload_n hx hb dX3_twice_41 rfl (lv_at hl 0 rfl) ?_
        refine r_get (θ := θ) (C := RX3) (T := TX3) (N := 6) (ci := 9) hx hb hts gwX3 hown hK hmH8.1 rfl 4 (by decide) k1094 (fun _ h => h) (v := .ref (w 1)) rfl dX3_twice_42 ?_
        refine lv_iload_n hx hb dX3_twice_45 rfl (lv_at hl 1 rfl) ?_
        refine r_aald (θ := θ) hx hb hK hmH8.2.1 (i := a) (by omega) (by decide) dX3_twice_46 ?_
        have rw10 := (hmH8.2.2.2.1 (a.toNat) (by omega)).1
        have rw10n := (hmH8.2.2.2.1 (a.toNat) (by omega)).2
        have rw10t := hd (a.toNat) (by omega)
        have rw10l := rw10.lt
        have rw10i := inR rw10t
        have rw10m := inM rw10i
        have rw10d := dI_b (dt a.toNat)
        refine lv_iload_n hx hb dX3_twice_47 rfl (lv_at hl 2 rfl) ?_
        refine lv_iload_n hx hb dX3_twice_48 rfl (lv_at hl 3 rfl) ?_
        refine q_add hx hb dX3_twice_49 ?_
        refine c_NR (θ := θ) (As := [.ref (r a.toNat), .int (iI (n + k))]) (rest := []) fx hl (pm_X3_shifted θ l S0 _ hzH8 (r a.toNat) (n + k) (dt a.toNat) rw10 (by omega) (by omega)) dX3_twice_50 k1183 k1184 k6 k1185 hd_X3_shifted rfl ⟨by decide, by decide⟩ (Nat.le_of_ble_eq_true rfl) ⟨by dsimp only; omega, by dsimp only; omega⟩ hS (fun x hx => hAn x (Nat.le_trans hS.1 hx)) (fun q12 H11 locs hqH11 haH11 hszH11 hkH11 hS => ?_)
        have rw10_H11 := rw10.kept (hkH11 _ rw10.lt)
        have hzH11 := hz0.at hAB hS
        have hmH11 := hmH8.kept hkH11
        have hltH11 := haH11.lt
        have t0q12 := shI_s (dt a.toNat) (n + k)
        have t1q12 := shI_bd (dt a.toNat) (n + k)
        refine c_H (As := [.ref q12]) (rest := []) fx hl (pm_X3_numberOf θ l S0 _ hzH11 q12 (shI (dt a.toNat) (n + k)) haH11 (by omega)) dX3_twice_53 k1133 k1134 k6 k1135 hd_X3_numberOf rfl ⟨by decide, by decide⟩ (Nat.le_of_ble_eq_true rfl) ⟨by dsimp only; omega, by dsimp only; omega⟩ ?_
        refine lv_aload_n hx hb dX3_twice_56 rfl (lv_at hl 0 rfl) ?_
        refine r_get (θ := θ) (C := RX3) (T := TX3) (N := 6) (ci := 9) hx hb hts gwX3 hown hK hmH11.1 rfl 4 (by decide) k1094 (fun _ h => h) (v := .ref (w 1)) rfl dX3_twice_57 ?_
        refine lv_iload_n hx hb dX3_twice_60 rfl (lv_at hl 1 rfl) ?_
        refine r_aald (θ := θ) hx hb hK hmH11.2.1 (i := a) (by omega) (by decide) dX3_twice_61 ?_
        have rw14 := (hmH11.2.2.2.1 (a.toNat) (by omega)).1
        have rw14n := (hmH11.2.2.2.1 (a.toNat) (by omega)).2
        have rw14t := hd (a.toNat) (by omega)
        have rw14l := rw14.lt
        have rw14i := inR rw14t
        have rw14m := inM rw14i
        have rw14d := dI_b (dt a.toNat)
        refine lv_iload_n hx hb dX3_twice_62 rfl (lv_at hl 2 rfl) ?_
        refine c_NR (θ := θ) (As := [.ref (r a.toNat), .int (iI n)]) (rest := [.int (iI (shI (dt a.toNat) (n + k)))]) fx hl (pm_X3_shifted θ l S0 _ hzH11 (r a.toNat) n (dt a.toNat) rw14 (by omega) (by omega)) dX3_twice_63 k1183 k1184 k6 k1185 hd_X3_shifted rfl ⟨by decide, by decide⟩ (Nat.le_of_ble_eq_true rfl) ⟨by dsimp only; omega, by dsimp only; omega⟩ hS (fun x hx => hAn x (Nat.le_trans hS.1 hx)) (fun q16 H15 locs hqH15 haH15 hszH15 hkH15 hS => ?_)
        have rw14_H15 := rw14.kept (hkH15 _ rw14.lt)
        have haH11_H15 := haH11.kept (hkH15 _ haH11.lt)
        have hzH15 := hz0.at hAB hS
        have hmH15 := hmH11.kept hkH15
        have hltH15 := haH15.lt
        have t0q16 := shI_s (dt a.toNat) n
        have t1q16 := shI_bd (dt a.toNat) n
        refine lv_iload_n hx hb dX3_twice_66 rfl (lv_at hl 3 rfl) ?_
        refine c_NR (θ := θ) (As := [.ref q16, .int (iI k)]) (rest := [.int (iI (shI (dt a.toNat) (n + k)))]) fx hl (pm_X3_shifted θ l S0 _ hzH15 q16 k (shI (dt a.toNat) n) haH15 (by omega) (by omega)) dX3_twice_67 k1183 k1184 k6 k1185 hd_X3_shifted rfl ⟨by decide, by decide⟩ (Nat.le_of_ble_eq_true rfl) ⟨by dsimp only; omega, by dsimp only; omega⟩ hS (fun x hx => hAn x (Nat.le_trans hS.1 hx)) (fun q18 H17 locs hqH17 haH17 hszH17 hkH17 hS => ?_)
        have rw14_H17 := rw14_H15.kept (hkH17 _ rw14_H15.lt)
        have haH11_H17 := haH11_H15.kept (hkH17 _ haH11_H15.lt)
        have haH15_H17 := haH15.kept (hkH17 _ haH15.lt)
        have hzH17 := hz0.at hAB hS
        have hmH17 := hmH15.kept hkH17
        have hltH17 := haH17.lt
        have t0q18 := shI_s (shI (dt a.toNat) n) k
        have t1q18 := shI_bd (shI (dt a.toNat) n) k
        refine c_H (As := [.ref q18]) (rest := [.int (iI (shI (dt a.toNat) (n + k)))]) fx hl (pm_X3_numberOf θ l S0 _ hzH17 q18 (shI (shI (dt a.toNat) n) k) haH17 (by omega)) dX3_twice_70 k1133 k1134 k6 k1135 hd_X3_numberOf rfl ⟨by decide, by decide⟩ (Nat.le_of_ble_eq_true rfl) ⟨by dsimp only; omega, by dsimp only; omega⟩ ?_
        refine q_sub hx hb dX3_twice_73 ?_
        obtain rfl : t6 = 0 := by omega
        have hmw : MWR θ S0 w H17 r q dt sv 0 dn rf kn := ⟨hzH17, hu, hmH17, hd, hsv⟩
        exact e_i hx hb hr hlk hS dX3_twice_74 (Nat.le_of_ble_eq_true rfl) (Nat.le_of_ble_eq_true rfl) ⟨ex_i (by subst_vars; first | omega | (simp only [up_s, inI_self, inI_1, inI_31]; done) | (simp only [up_s, inI_self, inI_1, inI_31]; omega) | (simp only [up_s, inI_self, inI_1, inI_31]; subst_vars; first | rfl | omega)), r, q, by first | exact hmw | (subst_vars; exact hmw) | (simp only [inI_self, inI_1, inI_31] at hmw; subst_vars; exact hmw), by first | exact nw_rf | exact nw_up (by omega) | exact nw_up2 (by omega), by first | exact nw_rf | exact nw_up (by omega) | exact nw_up2 (by omega)⟩
      · exact (show False by omega).elim
    · exact (show False by omega).elim

set_option maxHeartbeats 4000000 in
set_option maxRecDepth 100000 in
theorem mno1_twice (θ : TH) (l : Launch) (S0 : State) (H : Heap) (w : Nat → Nat) (r q : Nat → Nat) (dt : Nat → Int) (sv : Nat → Nat → Int) (th dn rf kn : Int) (hw : MWR θ S0 w H r q dt sv th dn rf kn) (a n k : Int) (h_0 : -2147483648 ≤ a ∧ a < 2147483648) (h_1 : -2147483648 ≤ n ∧ n < 2147483648) (h_2 : -2147483648 ≤ k ∧ k < 2147483648) (h_3 : ¬ (0 ≤ a ∧ a < 6)) : CT l yX3_twice cX3_twice 4 (some .int) 2 42 0 0 [.ref (w 0), .int (iI a), .int (iI n), .int (iI k)] S0 H (fun v9 H1 => v9 = some (.int (iI 0)) ∧ ∃ r1 q1 : Nat → Nat, MWR θ S0 w H1 r1 q1 dt sv 1 dn rf kn ∧ NW 6 H.size r r1 ∧ NW 3 H.size q q1) (fun _ _ => False) (WA w H.size) := by
  refine ct_of (by decide +kernel) (Nat.le_of_ble_eq_true rfl) ?_
  intro pg en s mi args below meth co ls fx hs hr hlk hxt hin hl
  subst hs
  obtain ⟨hx, hb, hml, hown, hts⟩ := id fx.1
  have hS : va_S (WA w s.heap.size) s.heap s.heap [] := va_S.rf
  obtain ⟨hz, hu, hm, hd, hsv⟩ := id hw
  have hAB : ∀ x : Nat, (WA w s.heap.size) x → θ.2.2.2 ≤ x := wa_b hu hz.2.1
  have hz0 := hz
  have hK := sz_K fx.2 hz
  have hlt0 := hm.lt
  have hu1 := hu.1
  have hAn : ∀ x : Nat, s.heap.size ≤ x → (WA w s.heap.size) x := fun _ h => Or.inr h
  refine lv_aload_n hx hb dX3_twice_0 rfl (lv_at hl 0 rfl) ?_
  refine lv_iload_n hx hb dX3_twice_1 rfl (lv_at hl 1 rfl) ?_
  obtain ⟨r1, hr1⟩ := bex (a < 0 ∨ 5 < a)
  refine c_P (As := [.int (iI a)]) (rest := [.ref (w 0)]) fx hl (pm_X3_isNo l a r1 hr1 (by omega)) dX3_twice_2 k1113 k1114 k6 k1115 hd_X3_isNo rfl ⟨by decide, by decide⟩ (Nat.le_of_ble_eq_true rfl) ⟨by dsimp only; omega, by dsimp only; omega⟩ ?_
  have br1 : r1 = 0 ∨ r1 = 1 := hr1.elim (fun h => Or.inr h.1) (fun h => Or.inl h.1)
  refine lv_iload_n hx hb dX3_twice_5 rfl (lv_at hl 2 rfl) ?_
  refine q_ldc (n := -240000) hx hb hown (hts _ k1181) (by decide) dX3_twice_6 ?_
  refine q_ldc (n := 240000) hx hb hown (hts _ k1182) (by decide) dX3_twice_8 ?_
  obtain ⟨r2, hr2⟩ := bex (n < (-240000) ∨ 240000 < n)
  refine c_P (As := [.int (iI n), .int (iI (-240000)), .int (iI 240000)]) (rest := [.int (iI r1), .ref (w 0)]) fx hl (pm_X3_isOut l n (-240000) 240000 r2 hr2 (by omega) (by omega) (by omega)) dX3_twice_10 k1116 k1117 k6 k1118 hd_X3_isOut rfl ⟨by decide, by decide⟩ (Nat.le_of_ble_eq_true rfl) ⟨by dsimp only; omega, by dsimp only; omega⟩ ?_
  have br2 : r2 = 0 ∨ r2 = 1 := hr2.elim (fun h => Or.inr h.1) (fun h => Or.inl h.1)
  refine q_ine (tgt := 27) hx hb dX3_twice_13 (by decide) (by omega) (fun c3 => ?_) (fun c3 => ?_)
  · refine q_con hx hb dX3_twice_27 ?_
    refine lv_goto (tgt := 32) hx hb dX3_twice_28 (by decide) ?_
    refine q_con hx hb dX3_twice_32 ?_
    obtain ⟨t4, f5, hq1t4, hq2t4⟩ := fails_ex r1 1 0 (by omega) (by omega) (by omega)
    have hmw : MWR θ S0 w s.heap r q dt sv th dn rf kn := ⟨hz, hu, hm, hd, hsv⟩
    refine c_M (w := w) (As := [.int (iI r1), .int (iI 1), .int (iI 0)]) (rest := []) (b := w 0) (C := RX3) fx hl (mw_fails θ l S0 _ w _ _ _ _ _ _ _ _ hmw r1 1 0 t4 f5 (by omega) hq1t4 hq2t4) (ob_recv hK hm.1 rfl) dX3_twice_33 k1119 k1121 ks10 k6 k1122 hd_X3_fails rfl ⟨by decide, by decide⟩ (Nat.le_of_ble_eq_true rfl) ⟨by dsimp only; omega, by dsimp only; omega⟩ hS (fun x hx => hx ▸ Or.inl (Or.inl rfl)) (fun H6 locs hmH6 hszH6 hk0H6 hS => ?_)
    have hkH6 : ∀ x : Nat, x < (s.heap).size → ¬ x = w 0 → H6[x]? = (s.heap)[x]? := hk0H6
    have hzH6 := hz0.at hAB hS
    have hltH6 := hmH6.lt
    refine q_ieq (tgt := 41) hx hb dX3_twice_36 (by decide) (by omega) (fun c7 => ?_) (fun c7 => ?_)
    · exact (show False by omega).elim
    · refine q_con hx hb dX3_twice_39 ?_
      obtain rfl : t4 = 1 := by omega
      have hmw : MWR θ S0 w H6 r q dt sv 1 dn rf kn := ⟨hzH6, hu, hmH6, hd, hsv⟩
      exact e_i hx hb hr hlk hS dX3_twice_40 (Nat.le_of_ble_eq_true rfl) (Nat.le_of_ble_eq_true rfl) ⟨ex_i (by omega), r, q, by first | exact hmw | (subst_vars; exact hmw) | (simp only [inI_self, inI_1, inI_31] at hmw; subst_vars; exact hmw), by first | exact nw_rf | exact nw_up (by omega) | exact nw_up2 (by omega), by first | exact nw_rf | exact nw_up (by omega) | exact nw_up2 (by omega)⟩
  · refine lv_iload_n hx hb dX3_twice_16 rfl (lv_at hl 3 rfl) ?_
    refine q_ldc (n := -240000) hx hb hown (hts _ k1181) (by decide) dX3_twice_17 ?_
    refine q_ldc (n := 240000) hx hb hown (hts _ k1182) (by decide) dX3_twice_19 ?_
    obtain ⟨r8, hr8⟩ := bex (k < (-240000) ∨ 240000 < k)
    refine c_P (As := [.int (iI k), .int (iI (-240000)), .int (iI 240000)]) (rest := [.int (iI r1), .ref (w 0)]) fx hl (pm_X3_isOut l k (-240000) 240000 r8 hr8 (by omega) (by omega) (by omega)) dX3_twice_21 k1116 k1117 k6 k1118 hd_X3_isOut rfl ⟨by decide, by decide⟩ (Nat.le_of_ble_eq_true rfl) ⟨by dsimp only; omega, by dsimp only; omega⟩ ?_
    have br8 : r8 = 0 ∨ r8 = 1 := hr8.elim (fun h => Or.inr h.1) (fun h => Or.inl h.1)
    refine q_ieq (tgt := 31) hx hb dX3_twice_24 (by decide) (by omega) (fun c9 => ?_) (fun c9 => ?_)
    · refine q_con hx hb dX3_twice_31 ?_
      refine q_con hx hb dX3_twice_32 ?_
      obtain ⟨t10, f11, hq1t10, hq2t10⟩ := fails_ex r1 0 0 (by omega) (by omega) (by omega)
      have hmw : MWR θ S0 w s.heap r q dt sv th dn rf kn := ⟨hz, hu, hm, hd, hsv⟩
      refine c_M (w := w) (As := [.int (iI r1), .int (iI 0), .int (iI 0)]) (rest := []) (b := w 0) (C := RX3) fx hl (mw_fails θ l S0 _ w _ _ _ _ _ _ _ _ hmw r1 0 0 t10 f11 (by omega) hq1t10 hq2t10) (ob_recv hK hm.1 rfl) dX3_twice_33 k1119 k1121 ks10 k6 k1122 hd_X3_fails rfl ⟨by decide, by decide⟩ (Nat.le_of_ble_eq_true rfl) ⟨by dsimp only; omega, by dsimp only; omega⟩ hS (fun x hx => hx ▸ Or.inl (Or.inl rfl)) (fun H12 locs hmH12 hszH12 hk0H12 hS => ?_)
      have hkH12 : ∀ x : Nat, x < (s.heap).size → ¬ x = w 0 → H12[x]? = (s.heap)[x]? := hk0H12
      have hzH12 := hz0.at hAB hS
      have hltH12 := hmH12.lt
      refine q_ieq (tgt := 41) hx hb dX3_twice_36 (by decide) (by omega) (fun c13 => ?_) (fun c13 => ?_)
      · exact (show False by omega).elim
      · refine q_con hx hb dX3_twice_39 ?_
        obtain rfl : t10 = 1 := by omega
        have hmw : MWR θ S0 w H12 r q dt sv 1 dn rf kn := ⟨hzH12, hu, hmH12, hd, hsv⟩
        exact e_i hx hb hr hlk hS dX3_twice_40 (Nat.le_of_ble_eq_true rfl) (Nat.le_of_ble_eq_true rfl) ⟨ex_i (by omega), r, q, by first | exact hmw | (subst_vars; exact hmw) | (simp only [inI_self, inI_1, inI_31] at hmw; subst_vars; exact hmw), by first | exact nw_rf | exact nw_up (by omega) | exact nw_up2 (by omega), by first | exact nw_rf | exact nw_up (by omega) | exact nw_up2 (by omega)⟩
    · refine q_con hx hb dX3_twice_27 ?_
      refine lv_goto (tgt := 32) hx hb dX3_twice_28 (by decide) ?_
      refine q_con hx hb dX3_twice_32 ?_
      obtain ⟨t14, f15, hq1t14, hq2t14⟩ := fails_ex r1 1 0 (by omega) (by omega) (by omega)
      have hmw : MWR θ S0 w s.heap r q dt sv th dn rf kn := ⟨hz, hu, hm, hd, hsv⟩
      refine c_M (w := w) (As := [.int (iI r1), .int (iI 1), .int (iI 0)]) (rest := []) (b := w 0) (C := RX3) fx hl (mw_fails θ l S0 _ w _ _ _ _ _ _ _ _ hmw r1 1 0 t14 f15 (by omega) hq1t14 hq2t14) (ob_recv hK hm.1 rfl) dX3_twice_33 k1119 k1121 ks10 k6 k1122 hd_X3_fails rfl ⟨by decide, by decide⟩ (Nat.le_of_ble_eq_true rfl) ⟨by dsimp only; omega, by dsimp only; omega⟩ hS (fun x hx => hx ▸ Or.inl (Or.inl rfl)) (fun H16 locs hmH16 hszH16 hk0H16 hS => ?_)
      have hkH16 : ∀ x : Nat, x < (s.heap).size → ¬ x = w 0 → H16[x]? = (s.heap)[x]? := hk0H16
      have hzH16 := hz0.at hAB hS
      have hltH16 := hmH16.lt
      refine q_ieq (tgt := 41) hx hb dX3_twice_36 (by decide) (by omega) (fun c17 => ?_) (fun c17 => ?_)
      · exact (show False by omega).elim
      · refine q_con hx hb dX3_twice_39 ?_
        obtain rfl : t14 = 1 := by omega
        have hmw : MWR θ S0 w H16 r q dt sv 1 dn rf kn := ⟨hzH16, hu, hmH16, hd, hsv⟩
        exact e_i hx hb hr hlk hS dX3_twice_40 (Nat.le_of_ble_eq_true rfl) (Nat.le_of_ble_eq_true rfl) ⟨ex_i (by omega), r, q, by first | exact hmw | (subst_vars; exact hmw) | (simp only [inI_self, inI_1, inI_31] at hmw; subst_vars; exact hmw), by first | exact nw_rf | exact nw_up (by omega) | exact nw_up2 (by omega), by first | exact nw_rf | exact nw_up (by omega) | exact nw_up2 (by omega)⟩

set_option maxHeartbeats 4000000 in
set_option maxRecDepth 100000 in
theorem mno2_twice (θ : TH) (l : Launch) (S0 : State) (H : Heap) (w : Nat → Nat) (r q : Nat → Nat) (dt : Nat → Int) (sv : Nat → Nat → Int) (th dn rf kn : Int) (hw : MWR θ S0 w H r q dt sv th dn rf kn) (a n k : Int) (h_0 : -2147483648 ≤ a ∧ a < 2147483648) (h_1 : -2147483648 ≤ n ∧ n < 2147483648) (h_2 : -2147483648 ≤ k ∧ k < 2147483648) (h_3 : 0 ≤ a ∧ a < 6) (h_4 : ¬ (-240000 ≤ n ∧ n ≤ 240000)) : CT l yX3_twice cX3_twice 4 (some .int) 2 42 0 0 [.ref (w 0), .int (iI a), .int (iI n), .int (iI k)] S0 H (fun v9 H1 => v9 = some (.int (iI 0)) ∧ ∃ r1 q1 : Nat → Nat, MWR θ S0 w H1 r1 q1 dt sv 2 dn rf kn ∧ NW 6 H.size r r1 ∧ NW 3 H.size q q1) (fun _ _ => False) (WA w H.size) := by
  refine ct_of (by decide +kernel) (Nat.le_of_ble_eq_true rfl) ?_
  intro pg en s mi args below meth co ls fx hs hr hlk hxt hin hl
  subst hs
  obtain ⟨hx, hb, hml, hown, hts⟩ := id fx.1
  have hS : va_S (WA w s.heap.size) s.heap s.heap [] := va_S.rf
  obtain ⟨hz, hu, hm, hd, hsv⟩ := id hw
  have hAB : ∀ x : Nat, (WA w s.heap.size) x → θ.2.2.2 ≤ x := wa_b hu hz.2.1
  have hz0 := hz
  have hK := sz_K fx.2 hz
  have hlt0 := hm.lt
  have hu1 := hu.1
  have hAn : ∀ x : Nat, s.heap.size ≤ x → (WA w s.heap.size) x := fun _ h => Or.inr h
  refine lv_aload_n hx hb dX3_twice_0 rfl (lv_at hl 0 rfl) ?_
  refine lv_iload_n hx hb dX3_twice_1 rfl (lv_at hl 1 rfl) ?_
  obtain ⟨r1, hr1⟩ := bex (a < 0 ∨ 5 < a)
  refine c_P (As := [.int (iI a)]) (rest := [.ref (w 0)]) fx hl (pm_X3_isNo l a r1 hr1 (by omega)) dX3_twice_2 k1113 k1114 k6 k1115 hd_X3_isNo rfl ⟨by decide, by decide⟩ (Nat.le_of_ble_eq_true rfl) ⟨by dsimp only; omega, by dsimp only; omega⟩ ?_
  have br1 : r1 = 0 ∨ r1 = 1 := hr1.elim (fun h => Or.inr h.1) (fun h => Or.inl h.1)
  refine lv_iload_n hx hb dX3_twice_5 rfl (lv_at hl 2 rfl) ?_
  refine q_ldc (n := -240000) hx hb hown (hts _ k1181) (by decide) dX3_twice_6 ?_
  refine q_ldc (n := 240000) hx hb hown (hts _ k1182) (by decide) dX3_twice_8 ?_
  obtain ⟨r2, hr2⟩ := bex (n < (-240000) ∨ 240000 < n)
  refine c_P (As := [.int (iI n), .int (iI (-240000)), .int (iI 240000)]) (rest := [.int (iI r1), .ref (w 0)]) fx hl (pm_X3_isOut l n (-240000) 240000 r2 hr2 (by omega) (by omega) (by omega)) dX3_twice_10 k1116 k1117 k6 k1118 hd_X3_isOut rfl ⟨by decide, by decide⟩ (Nat.le_of_ble_eq_true rfl) ⟨by dsimp only; omega, by dsimp only; omega⟩ ?_
  have br2 : r2 = 0 ∨ r2 = 1 := hr2.elim (fun h => Or.inr h.1) (fun h => Or.inl h.1)
  refine q_ine (tgt := 27) hx hb dX3_twice_13 (by decide) (by omega) (fun c3 => ?_) (fun c3 => ?_)
  · refine q_con hx hb dX3_twice_27 ?_
    refine lv_goto (tgt := 32) hx hb dX3_twice_28 (by decide) ?_
    refine q_con hx hb dX3_twice_32 ?_
    obtain ⟨t4, f5, hq1t4, hq2t4⟩ := fails_ex r1 1 0 (by omega) (by omega) (by omega)
    have hmw : MWR θ S0 w s.heap r q dt sv th dn rf kn := ⟨hz, hu, hm, hd, hsv⟩
    refine c_M (w := w) (As := [.int (iI r1), .int (iI 1), .int (iI 0)]) (rest := []) (b := w 0) (C := RX3) fx hl (mw_fails θ l S0 _ w _ _ _ _ _ _ _ _ hmw r1 1 0 t4 f5 (by omega) hq1t4 hq2t4) (ob_recv hK hm.1 rfl) dX3_twice_33 k1119 k1121 ks10 k6 k1122 hd_X3_fails rfl ⟨by decide, by decide⟩ (Nat.le_of_ble_eq_true rfl) ⟨by dsimp only; omega, by dsimp only; omega⟩ hS (fun x hx => hx ▸ Or.inl (Or.inl rfl)) (fun H6 locs hmH6 hszH6 hk0H6 hS => ?_)
    have hkH6 : ∀ x : Nat, x < (s.heap).size → ¬ x = w 0 → H6[x]? = (s.heap)[x]? := hk0H6
    have hzH6 := hz0.at hAB hS
    have hltH6 := hmH6.lt
    refine q_ieq (tgt := 41) hx hb dX3_twice_36 (by decide) (by omega) (fun c7 => ?_) (fun c7 => ?_)
    · exact (show False by omega).elim
    · refine q_con hx hb dX3_twice_39 ?_
      obtain rfl : t4 = 2 := by omega
      have hmw : MWR θ S0 w H6 r q dt sv 2 dn rf kn := ⟨hzH6, hu, hmH6, hd, hsv⟩
      exact e_i hx hb hr hlk hS dX3_twice_40 (Nat.le_of_ble_eq_true rfl) (Nat.le_of_ble_eq_true rfl) ⟨ex_i (by omega), r, q, by first | exact hmw | (subst_vars; exact hmw) | (simp only [inI_self, inI_1, inI_31] at hmw; subst_vars; exact hmw), by first | exact nw_rf | exact nw_up (by omega) | exact nw_up2 (by omega), by first | exact nw_rf | exact nw_up (by omega) | exact nw_up2 (by omega)⟩
  · exact (show False by omega).elim

set_option maxHeartbeats 4000000 in
set_option maxRecDepth 100000 in
theorem mno3_twice (θ : TH) (l : Launch) (S0 : State) (H : Heap) (w : Nat → Nat) (r q : Nat → Nat) (dt : Nat → Int) (sv : Nat → Nat → Int) (th dn rf kn : Int) (hw : MWR θ S0 w H r q dt sv th dn rf kn) (a n k : Int) (h_0 : -2147483648 ≤ a ∧ a < 2147483648) (h_1 : -2147483648 ≤ n ∧ n < 2147483648) (h_2 : -2147483648 ≤ k ∧ k < 2147483648) (h_3 : 0 ≤ a ∧ a < 6) (h_4 : -240000 ≤ n ∧ n ≤ 240000) (h_5 : ¬ (-240000 ≤ k ∧ k ≤ 240000)) : CT l yX3_twice cX3_twice 4 (some .int) 2 42 0 0 [.ref (w 0), .int (iI a), .int (iI n), .int (iI k)] S0 H (fun v9 H1 => v9 = some (.int (iI 0)) ∧ ∃ r1 q1 : Nat → Nat, MWR θ S0 w H1 r1 q1 dt sv 2 dn rf kn ∧ NW 6 H.size r r1 ∧ NW 3 H.size q q1) (fun _ _ => False) (WA w H.size) := by
  refine ct_of (by decide +kernel) (Nat.le_of_ble_eq_true rfl) ?_
  intro pg en s mi args below meth co ls fx hs hr hlk hxt hin hl
  subst hs
  obtain ⟨hx, hb, hml, hown, hts⟩ := id fx.1
  have hS : va_S (WA w s.heap.size) s.heap s.heap [] := va_S.rf
  obtain ⟨hz, hu, hm, hd, hsv⟩ := id hw
  have hAB : ∀ x : Nat, (WA w s.heap.size) x → θ.2.2.2 ≤ x := wa_b hu hz.2.1
  have hz0 := hz
  have hK := sz_K fx.2 hz
  have hlt0 := hm.lt
  have hu1 := hu.1
  have hAn : ∀ x : Nat, s.heap.size ≤ x → (WA w s.heap.size) x := fun _ h => Or.inr h
  refine lv_aload_n hx hb dX3_twice_0 rfl (lv_at hl 0 rfl) ?_
  refine lv_iload_n hx hb dX3_twice_1 rfl (lv_at hl 1 rfl) ?_
  obtain ⟨r1, hr1⟩ := bex (a < 0 ∨ 5 < a)
  refine c_P (As := [.int (iI a)]) (rest := [.ref (w 0)]) fx hl (pm_X3_isNo l a r1 hr1 (by omega)) dX3_twice_2 k1113 k1114 k6 k1115 hd_X3_isNo rfl ⟨by decide, by decide⟩ (Nat.le_of_ble_eq_true rfl) ⟨by dsimp only; omega, by dsimp only; omega⟩ ?_
  have br1 : r1 = 0 ∨ r1 = 1 := hr1.elim (fun h => Or.inr h.1) (fun h => Or.inl h.1)
  refine lv_iload_n hx hb dX3_twice_5 rfl (lv_at hl 2 rfl) ?_
  refine q_ldc (n := -240000) hx hb hown (hts _ k1181) (by decide) dX3_twice_6 ?_
  refine q_ldc (n := 240000) hx hb hown (hts _ k1182) (by decide) dX3_twice_8 ?_
  obtain ⟨r2, hr2⟩ := bex (n < (-240000) ∨ 240000 < n)
  refine c_P (As := [.int (iI n), .int (iI (-240000)), .int (iI 240000)]) (rest := [.int (iI r1), .ref (w 0)]) fx hl (pm_X3_isOut l n (-240000) 240000 r2 hr2 (by omega) (by omega) (by omega)) dX3_twice_10 k1116 k1117 k6 k1118 hd_X3_isOut rfl ⟨by decide, by decide⟩ (Nat.le_of_ble_eq_true rfl) ⟨by dsimp only; omega, by dsimp only; omega⟩ ?_
  have br2 : r2 = 0 ∨ r2 = 1 := hr2.elim (fun h => Or.inr h.1) (fun h => Or.inl h.1)
  refine q_ine (tgt := 27) hx hb dX3_twice_13 (by decide) (by omega) (fun c3 => ?_) (fun c3 => ?_)
  · exact (show False by omega).elim
  · refine lv_iload_n hx hb dX3_twice_16 rfl (lv_at hl 3 rfl) ?_
    refine q_ldc (n := -240000) hx hb hown (hts _ k1181) (by decide) dX3_twice_17 ?_
    refine q_ldc (n := 240000) hx hb hown (hts _ k1182) (by decide) dX3_twice_19 ?_
    obtain ⟨r4, hr4⟩ := bex (k < (-240000) ∨ 240000 < k)
    refine c_P (As := [.int (iI k), .int (iI (-240000)), .int (iI 240000)]) (rest := [.int (iI r1), .ref (w 0)]) fx hl (pm_X3_isOut l k (-240000) 240000 r4 hr4 (by omega) (by omega) (by omega)) dX3_twice_21 k1116 k1117 k6 k1118 hd_X3_isOut rfl ⟨by decide, by decide⟩ (Nat.le_of_ble_eq_true rfl) ⟨by dsimp only; omega, by dsimp only; omega⟩ ?_
    have br4 : r4 = 0 ∨ r4 = 1 := hr4.elim (fun h => Or.inr h.1) (fun h => Or.inl h.1)
    refine q_ieq (tgt := 31) hx hb dX3_twice_24 (by decide) (by omega) (fun c5 => ?_) (fun c5 => ?_)
    · exact (show False by omega).elim
    · refine q_con hx hb dX3_twice_27 ?_
      refine lv_goto (tgt := 32) hx hb dX3_twice_28 (by decide) ?_
      refine q_con hx hb dX3_twice_32 ?_
      obtain ⟨t6, f7, hq1t6, hq2t6⟩ := fails_ex r1 1 0 (by omega) (by omega) (by omega)
      have hmw : MWR θ S0 w s.heap r q dt sv th dn rf kn := ⟨hz, hu, hm, hd, hsv⟩
      refine c_M (w := w) (As := [.int (iI r1), .int (iI 1), .int (iI 0)]) (rest := []) (b := w 0) (C := RX3) fx hl (mw_fails θ l S0 _ w _ _ _ _ _ _ _ _ hmw r1 1 0 t6 f7 (by omega) hq1t6 hq2t6) (ob_recv hK hm.1 rfl) dX3_twice_33 k1119 k1121 ks10 k6 k1122 hd_X3_fails rfl ⟨by decide, by decide⟩ (Nat.le_of_ble_eq_true rfl) ⟨by dsimp only; omega, by dsimp only; omega⟩ hS (fun x hx => hx ▸ Or.inl (Or.inl rfl)) (fun H8 locs hmH8 hszH8 hk0H8 hS => ?_)
      have hkH8 : ∀ x : Nat, x < (s.heap).size → ¬ x = w 0 → H8[x]? = (s.heap)[x]? := hk0H8
      have hzH8 := hz0.at hAB hS
      have hltH8 := hmH8.lt
      refine q_ieq (tgt := 41) hx hb dX3_twice_36 (by decide) (by omega) (fun c9 => ?_) (fun c9 => ?_)
      · exact (show False by omega).elim
      · refine q_con hx hb dX3_twice_39 ?_
        obtain rfl : t6 = 2 := by omega
        have hmw : MWR θ S0 w H8 r q dt sv 2 dn rf kn := ⟨hzH8, hu, hmH8, hd, hsv⟩
        exact e_i hx hb hr hlk hS dX3_twice_40 (Nat.le_of_ble_eq_true rfl) (Nat.le_of_ble_eq_true rfl) ⟨ex_i (by omega), r, q, by first | exact hmw | (subst_vars; exact hmw) | (simp only [inI_self, inI_1, inI_31] at hmw; subst_vars; exact hmw), by first | exact nw_rf | exact nw_up (by omega) | exact nw_up2 (by omega), by first | exact nw_rf | exact nw_up (by omega) | exact nw_up2 (by omega)⟩

set_option maxHeartbeats 4000000 in
set_option maxRecDepth 100000 in
theorem mok_ofMonthNumber (θ : TH) (l : Launch) (S0 : State) (H : Heap) (w : Nat → Nat) (r q : Nat → Nat) (dt : Nat → Int) (sv : Nat → Nat → Int) (th dn rf kn : Int) (hw : MWR θ S0 w H r q dt sv th dn rf kn) (m k : Int) (h_0 : -2147483648 ≤ m ∧ m < 2147483648) (h_1 : -2147483648 ≤ k ∧ k < 2147483648) (h_2 : -119988 ≤ m ∧ m ≤ 119999) (h_3 : 0 ≤ k ∧ k ≤ 3) : CT l yX3_ofMonthNumber cX3_ofMonthNumber 4 (some .int) 5 107 1 4 [.ref (w 0), .int (iI m), .int (iI k)] S0 H (fun v9 H1 => v9 = some (.int (iI (if k = 0 then m / 12 else if k = 1 then m % 12 + 1 else if k = 2 then fI (m + 1) - fI m else fI m))) ∧ ∃ r1 q1 : Nat → Nat, MWR θ S0 w H1 r1 q1 dt sv 0 dn rf kn ∧ NW 6 H.size r r1 ∧ NW 3 H.size q q1) (fun _ _ => False) (WA w H.size) := by
  refine ct_of (by decide +kernel) (Nat.le_of_ble_eq_true rfl) ?_
  intro pg en s mi args below meth co ls fx hs hr hlk hxt hin hl
  subst hs
  obtain ⟨hx, hb, hml, hown, hts⟩ := id fx.1
  have hS : va_S (WA w s.heap.size) s.heap s.heap [] := va_S.rf
  obtain ⟨hz, hu, hm, hd, hsv⟩ := id hw
  have hAB : ∀ x : Nat, (WA w s.heap.size) x → θ.2.2.2 ≤ x := wa_b hu hz.2.1
  have hz0 := hz
  have hK := sz_K fx.2 hz
  have hlt0 := hm.lt
  have hu1 := hu.1
  have hAn : ∀ x : Nat, s.heap.size ≤ x → (WA w s.heap.size) x := fun _ h => Or.inr h
  refine lv_aload_n hx hb dX3_ofMonthNumber_0 rfl (lv_at hl 0 rfl) ?_
  refine lv_iload_n hx hb dX3_ofMonthNumber_1 rfl (lv_at hl 1 rfl) ?_
  obtain ⟨r1, hr1⟩ := bex (m < -119988 ∨ 119999 < m)
  refine c_P (As := [.int (iI m)]) (rest := [.ref (w 0)]) fx hl (pm_X3_isNoMonth l m r1 hr1 (by omega)) dX3_ofMonthNumber_2 k1488 k1489 k6 k1490 hd_X3_isNoMonth rfl ⟨by decide, by decide⟩ (Nat.le_of_ble_eq_true rfl) ⟨by dsimp only; omega, by dsimp only; omega⟩ ?_
  have br1 : r1 = 0 ∨ r1 = 1 := hr1.elim (fun h => Or.inr h.1) (fun h => Or.inl h.1)
  refine q_ine (tgt := 17) hx hb dX3_ofMonthNumber_5 (by decide) (by omega) (fun c2 => ?_) (fun c2 => ?_)
  · exact (show False by omega).elim
  · refine lv_iload_n hx hb dX3_ofMonthNumber_8 rfl (lv_at hl 2 rfl) ?_
    refine q_con hx hb dX3_ofMonthNumber_9 ?_
    refine q_con hx hb dX3_ofMonthNumber_10 ?_
    obtain ⟨r3, hr3⟩ := bex (k < 0 ∨ 3 < k)
    refine c_P (As := [.int (iI k), .int (iI 0), .int (iI 3)]) (rest := [.ref (w 0)]) fx hl (pm_X3_isOut l k 0 3 r3 hr3 (by omega) (by omega) (by omega)) dX3_ofMonthNumber_11 k1116 k1117 k6 k1118 hd_X3_isOut rfl ⟨by decide, by decide⟩ (Nat.le_of_ble_eq_true rfl) ⟨by dsimp only; omega, by dsimp only; omega⟩ ?_
    have br3 : r3 = 0 ∨ r3 = 1 := hr3.elim (fun h => Or.inr h.1) (fun h => Or.inl h.1)
    refine q_ieq (tgt := 21) hx hb dX3_ofMonthNumber_14 (by decide) (by omega) (fun c4 => ?_) (fun c4 => ?_)
    · refine q_con hx hb dX3_ofMonthNumber_21 ?_
      refine q_con hx hb dX3_ofMonthNumber_22 ?_
      refine q_con hx hb dX3_ofMonthNumber_23 ?_
      obtain ⟨t5, f6, hq1t5, hq2t5⟩ := fails_ex 0 0 0 (by omega) (by omega) (by omega)
      have hmw : MWR θ S0 w s.heap r q dt sv th dn rf kn := ⟨hz, hu, hm, hd, hsv⟩
      refine c_M (w := w) (As := [.int (iI 0), .int (iI 0), .int (iI 0)]) (rest := []) (b := w 0) (C := RX3) fx hl (mw_fails θ l S0 _ w _ _ _ _ _ _ _ _ hmw 0 0 0 t5 f6 (by omega) hq1t5 hq2t5) (ob_recv hK hm.1 rfl) dX3_ofMonthNumber_24 k1119 k1121 ks10 k6 k1122 hd_X3_fails rfl ⟨by decide, by decide⟩ (Nat.le_of_ble_eq_true rfl) ⟨by dsimp only; omega, by dsimp only; omega⟩ hS (fun x hx => hx ▸ Or.inl (Or.inl rfl)) (fun H7 locs hmH7 hszH7 hk0H7 hS => ?_)
      have hkH7 : ∀ x : Nat, x < (s.heap).size → ¬ x = w 0 → H7[x]? = (s.heap)[x]? := hk0H7
      have hzH7 := hz0.at hAB hS
      have hltH7 := hmH7.lt
      refine q_ieq (tgt := 32) hx hb dX3_ofMonthNumber_27 (by decide) (by omega) (fun c8 => ?_) (fun c8 => ?_)
      · refine q_con hx hb dX3_ofMonthNumber_32 ?_
        refine r_newI (θ := θ) hx hb hts hK k71 hS (by omega) (by dsimp only; omega) (by dsimp only; omega) dX3_ofMonthNumber_33 (fun H9 haH9 hszH9 hkH9 hS => ?_)
        have hzH9 := hz0.at hAB hS
        have hkkH9 := hkH9
        have hmH9 := hmH7.kept hkH9
        have hltmH9 := hmH7.lt
        refine lv_dup hx hb dX3_ofMonthNumber_35 rfl ?_
        refine q_con hx hb dX3_ofMonthNumber_36 ?_
        refine lv_iload_n hx hb dX3_ofMonthNumber_37 rfl (lv_at hl 1 rfl) ?_
        refine q_bip hx hb dX3_ofMonthNumber_38 (by decide) ?_
        refine c_P (As := [.int (iI m), .int (iI 12)]) (rest := [.int (iI 0), .ref H7.size, .ref H7.size]) fx hl (pm_X3_down l m 12 (by omega) (by omega)) dX3_ofMonthNumber_40 k1073 k1074 k6 k1075 hd_X3_down rfl ⟨by decide, by decide⟩ (Nat.le_of_ble_eq_true rfl) ⟨by dsimp only; omega, by dsimp only; omega⟩ ?_
        refine q_nm (fun z10 ez10 => ?_)
        refine r_iast (θ := θ) (a := H7.size) hx hb hK haH9 (hAn _ (by omega)) hS (i := 0) (x := z10) (by omega) (by decide) dX3_ofMonthNumber_43 (fun H11 locs haH11 hszH11 hkH11 hS => ?_)
        have hzH11 := hz0.at hAB hS
        have hkkH11 : ∀ x : Nat, x < (H7).size → H11[x]? = (H7)[x]? := fun x hx => (hkH11 x (by omega)).trans (hkkH9 x hx)
        have hmH11 := hmH7.kept hkkH11
        refine lv_dup hx hb dX3_ofMonthNumber_44 rfl ?_
        refine q_con hx hb dX3_ofMonthNumber_45 ?_
        refine q_con hx hb dX3_ofMonthNumber_46 ?_
        refine lv_iload_n hx hb dX3_ofMonthNumber_47 rfl (lv_at hl 1 rfl) ?_
        refine q_bip hx hb dX3_ofMonthNumber_48 (by decide) ?_
        refine c_P (As := [.int (iI m), .int (iI 12)]) (rest := [.int (iI 1), .int (iI 1), .ref H7.size, .ref H7.size]) fx hl (pm_X3_left l m 12 (by omega) (by omega)) dX3_ofMonthNumber_50 k1082 k1083 k6 k1084 hd_X3_left rfl ⟨by decide, by decide⟩ (Nat.le_of_ble_eq_true rfl) ⟨by dsimp only; omega, by dsimp only; omega⟩ ?_
        refine q_nm (fun z12 ez12 => ?_)
        refine q_add hx hb dX3_ofMonthNumber_53 ?_
        refine r_iast (θ := θ) (a := H7.size) hx hb hK haH11 (hAn _ (by omega)) hS (i := 1) (x := 1 + z12) (by omega) (by decide) dX3_ofMonthNumber_54 (fun H13 locs haH13 hszH13 hkH13 hS => ?_)
        have hzH13 := hz0.at hAB hS
        have hkkH13 : ∀ x : Nat, x < (H7).size → H13[x]? = (H7)[x]? := fun x hx => (hkH13 x (by omega)).trans (hkkH11 x hx)
        have hmH13 := hmH7.kept hkkH13
        refine lv_dup hx hb dX3_ofMonthNumber_55 rfl ?_
        refine q_con hx hb dX3_ofMonthNumber_56 ?_
        refine lv_iload_n hx hb dX3_ofMonthNumber_57 rfl (lv_at hl 1 rfl) ?_
        refine c_H (As := [.int (iI m)]) (rest := [.int (iI 2), .ref H7.size, .ref H7.size]) fx hl (pm_X3_length θ l S0 _ hzH13 m (by omega)) dX3_ofMonthNumber_58 k1085 k1086 k6 k1087 hd_X3_length rfl ⟨by decide, by decide⟩ (Nat.le_of_ble_eq_true rfl) ⟨by dsimp only; omega, by dsimp only; omega⟩ ?_
        refine q_nm (fun z14 ez14 => ?_)
        have t0z14 := len_b m
        refine r_iast (θ := θ) (a := H7.size) hx hb hK haH13 (hAn _ (by omega)) hS (i := 2) (x := z14) (by omega) (by decide) dX3_ofMonthNumber_61 (fun H15 locs haH15 hszH15 hkH15 hS => ?_)
        have hzH15 := hz0.at hAB hS
        have hkkH15 : ∀ x : Nat, x < (H7).size → H15[x]? = (H7)[x]? := fun x hx => (hkH15 x (by omega)).trans (hkkH13 x hx)
        have hmH15 := hmH7.kept hkkH15
        refine lv_dup hx hb dX3_ofMonthNumber_62 rfl ?_
        refine q_con hx hb dX3_ofMonthNumber_63 ?_
        refine lv_iload_n hx hb dX3_ofMonthNumber_64 rfl (lv_at hl 1 rfl) ?_
        refine c_H (As := [.int (iI m)]) (rest := [.int (iI 3), .ref H7.size, .ref H7.size]) fx hl (pm_X3_begin θ l S0 _ hzH15 m (by omega)) dX3_ofMonthNumber_65 k1136 k1137 k6 k1138 hd_X3_begin rfl ⟨by decide, by decide⟩ (Nat.le_of_ble_eq_true rfl) ⟨by dsimp only; omega, by dsimp only; omega⟩ ?_
        have t0z16 := fI_bd m
        refine r_iast (θ := θ) (a := H7.size) hx hb hK haH15 (hAn _ (by omega)) hS (i := 3) (x := fI m) (by omega) (by decide) dX3_ofMonthNumber_68 (fun H17 locs haH17 hszH17 hkH17 hS => ?_)
        have hzH17 := hz0.at hAB hS
        have hkkH17 : ∀ x : Nat, x < (H7).size → H17[x]? = (H7)[x]? := fun x hx => (hkH17 x (by omega)).trans (hkkH15 x hx)
        have hmH17 := hmH7.kept hkkH17
        refine lv_astore_n (lv' := [(3, .ref H7.size), (0, .ref (w 0)), (1, .int (iI m)), (2, .int (iI k))]) hx hb dX3_ofMonthNumber_69 rfl hl (by decide) rfl (fun ls hl => ?_)
        refine lv_aload_n hx hb dX3_ofMonthNumber_70 rfl (lv_at hl 0 rfl) ?_
        refine lv_iload_n hx hb dX3_ofMonthNumber_71 rfl (lv_at hl 3 rfl) ?_
        refine r_iald (θ := θ) hx hb hK haH17 (i := k) (by omega) (by decide) dX3_ofMonthNumber_72 ?_
        obtain rfl : t5 = 0 := by omega
        have hmw : MWR θ S0 w H17 r q dt sv 0 dn rf kn := ⟨hzH17, hu, hmH17, hd, hsv⟩
        exact e_i hx hb hr hlk hS dX3_ofMonthNumber_73 (Nat.le_of_ble_eq_true rfl) (Nat.le_of_ble_eq_true rfl) ⟨ex_i (by subst_vars; unfold up; (repeat' split) <;> omega), r, q, by first | exact hmw | (subst_vars; exact hmw) | (simp only [inI_self, inI_1, inI_31] at hmw; subst_vars; exact hmw), by first | exact nw_rf | exact nw_up (by omega) | exact nw_up2 (by omega), by first | exact nw_rf | exact nw_up (by omega) | exact nw_up2 (by omega)⟩
      · exact (show False by omega).elim
    · exact (show False by omega).elim

set_option maxHeartbeats 4000000 in
set_option maxRecDepth 100000 in
theorem mno1_ofMonthNumber (θ : TH) (l : Launch) (S0 : State) (H : Heap) (w : Nat → Nat) (r q : Nat → Nat) (dt : Nat → Int) (sv : Nat → Nat → Int) (th dn rf kn : Int) (hw : MWR θ S0 w H r q dt sv th dn rf kn) (m k : Int) (h_0 : -2147483648 ≤ m ∧ m < 2147483648) (h_1 : -2147483648 ≤ k ∧ k < 2147483648) (h_2 : ¬ (-119988 ≤ m ∧ m ≤ 119999)) : CT l yX3_ofMonthNumber cX3_ofMonthNumber 4 (some .int) 2 42 0 0 [.ref (w 0), .int (iI m), .int (iI k)] S0 H (fun v9 H1 => v9 = some (.int (iI 0)) ∧ ∃ r1 q1 : Nat → Nat, MWR θ S0 w H1 r1 q1 dt sv 1 dn rf kn ∧ NW 6 H.size r r1 ∧ NW 3 H.size q q1) (fun _ _ => False) (WA w H.size) := by
  refine ct_of (by decide +kernel) (Nat.le_of_ble_eq_true rfl) ?_
  intro pg en s mi args below meth co ls fx hs hr hlk hxt hin hl
  subst hs
  obtain ⟨hx, hb, hml, hown, hts⟩ := id fx.1
  have hS : va_S (WA w s.heap.size) s.heap s.heap [] := va_S.rf
  obtain ⟨hz, hu, hm, hd, hsv⟩ := id hw
  have hAB : ∀ x : Nat, (WA w s.heap.size) x → θ.2.2.2 ≤ x := wa_b hu hz.2.1
  have hz0 := hz
  have hK := sz_K fx.2 hz
  have hlt0 := hm.lt
  have hu1 := hu.1
  have hAn : ∀ x : Nat, s.heap.size ≤ x → (WA w s.heap.size) x := fun _ h => Or.inr h
  refine lv_aload_n hx hb dX3_ofMonthNumber_0 rfl (lv_at hl 0 rfl) ?_
  refine lv_iload_n hx hb dX3_ofMonthNumber_1 rfl (lv_at hl 1 rfl) ?_
  obtain ⟨r1, hr1⟩ := bex (m < -119988 ∨ 119999 < m)
  refine c_P (As := [.int (iI m)]) (rest := [.ref (w 0)]) fx hl (pm_X3_isNoMonth l m r1 hr1 (by omega)) dX3_ofMonthNumber_2 k1488 k1489 k6 k1490 hd_X3_isNoMonth rfl ⟨by decide, by decide⟩ (Nat.le_of_ble_eq_true rfl) ⟨by dsimp only; omega, by dsimp only; omega⟩ ?_
  have br1 : r1 = 0 ∨ r1 = 1 := hr1.elim (fun h => Or.inr h.1) (fun h => Or.inl h.1)
  refine q_ine (tgt := 17) hx hb dX3_ofMonthNumber_5 (by decide) (by omega) (fun c2 => ?_) (fun c2 => ?_)
  · refine q_con hx hb dX3_ofMonthNumber_17 ?_
    refine lv_goto (tgt := 22) hx hb dX3_ofMonthNumber_18 (by decide) ?_
    refine q_con hx hb dX3_ofMonthNumber_22 ?_
    refine q_con hx hb dX3_ofMonthNumber_23 ?_
    obtain ⟨t3, f4, hq1t3, hq2t3⟩ := fails_ex 1 0 0 (by omega) (by omega) (by omega)
    have hmw : MWR θ S0 w s.heap r q dt sv th dn rf kn := ⟨hz, hu, hm, hd, hsv⟩
    refine c_M (w := w) (As := [.int (iI 1), .int (iI 0), .int (iI 0)]) (rest := []) (b := w 0) (C := RX3) fx hl (mw_fails θ l S0 _ w _ _ _ _ _ _ _ _ hmw 1 0 0 t3 f4 (by omega) hq1t3 hq2t3) (ob_recv hK hm.1 rfl) dX3_ofMonthNumber_24 k1119 k1121 ks10 k6 k1122 hd_X3_fails rfl ⟨by decide, by decide⟩ (Nat.le_of_ble_eq_true rfl) ⟨by dsimp only; omega, by dsimp only; omega⟩ hS (fun x hx => hx ▸ Or.inl (Or.inl rfl)) (fun H5 locs hmH5 hszH5 hk0H5 hS => ?_)
    have hkH5 : ∀ x : Nat, x < (s.heap).size → ¬ x = w 0 → H5[x]? = (s.heap)[x]? := hk0H5
    have hzH5 := hz0.at hAB hS
    have hltH5 := hmH5.lt
    refine q_ieq (tgt := 32) hx hb dX3_ofMonthNumber_27 (by decide) (by omega) (fun c6 => ?_) (fun c6 => ?_)
    · exact (show False by omega).elim
    · refine q_con hx hb dX3_ofMonthNumber_30 ?_
      obtain rfl : t3 = 1 := by omega
      have hmw : MWR θ S0 w H5 r q dt sv 1 dn rf kn := ⟨hzH5, hu, hmH5, hd, hsv⟩
      exact e_i hx hb hr hlk hS dX3_ofMonthNumber_31 (Nat.le_of_ble_eq_true rfl) (Nat.le_of_ble_eq_true rfl) ⟨ex_i (by omega), r, q, by first | exact hmw | (subst_vars; exact hmw) | (simp only [inI_self, inI_1, inI_31] at hmw; subst_vars; exact hmw), by first | exact nw_rf | exact nw_up (by omega) | exact nw_up2 (by omega), by first | exact nw_rf | exact nw_up (by omega) | exact nw_up2 (by omega)⟩
  · exact (show False by omega).elim

set_option maxHeartbeats 4000000 in
set_option maxRecDepth 100000 in
theorem mno2_ofMonthNumber (θ : TH) (l : Launch) (S0 : State) (H : Heap) (w : Nat → Nat) (r q : Nat → Nat) (dt : Nat → Int) (sv : Nat → Nat → Int) (th dn rf kn : Int) (hw : MWR θ S0 w H r q dt sv th dn rf kn) (m k : Int) (h_0 : -2147483648 ≤ m ∧ m < 2147483648) (h_1 : -2147483648 ≤ k ∧ k < 2147483648) (h_2 : -119988 ≤ m ∧ m ≤ 119999) (h_3 : ¬ (0 ≤ k ∧ k ≤ 3)) : CT l yX3_ofMonthNumber cX3_ofMonthNumber 4 (some .int) 2 42 0 0 [.ref (w 0), .int (iI m), .int (iI k)] S0 H (fun v9 H1 => v9 = some (.int (iI 0)) ∧ ∃ r1 q1 : Nat → Nat, MWR θ S0 w H1 r1 q1 dt sv 1 dn rf kn ∧ NW 6 H.size r r1 ∧ NW 3 H.size q q1) (fun _ _ => False) (WA w H.size) := by
  refine ct_of (by decide +kernel) (Nat.le_of_ble_eq_true rfl) ?_
  intro pg en s mi args below meth co ls fx hs hr hlk hxt hin hl
  subst hs
  obtain ⟨hx, hb, hml, hown, hts⟩ := id fx.1
  have hS : va_S (WA w s.heap.size) s.heap s.heap [] := va_S.rf
  obtain ⟨hz, hu, hm, hd, hsv⟩ := id hw
  have hAB : ∀ x : Nat, (WA w s.heap.size) x → θ.2.2.2 ≤ x := wa_b hu hz.2.1
  have hz0 := hz
  have hK := sz_K fx.2 hz
  have hlt0 := hm.lt
  have hu1 := hu.1
  have hAn : ∀ x : Nat, s.heap.size ≤ x → (WA w s.heap.size) x := fun _ h => Or.inr h
  refine lv_aload_n hx hb dX3_ofMonthNumber_0 rfl (lv_at hl 0 rfl) ?_
  refine lv_iload_n hx hb dX3_ofMonthNumber_1 rfl (lv_at hl 1 rfl) ?_
  obtain ⟨r1, hr1⟩ := bex (m < -119988 ∨ 119999 < m)
  refine c_P (As := [.int (iI m)]) (rest := [.ref (w 0)]) fx hl (pm_X3_isNoMonth l m r1 hr1 (by omega)) dX3_ofMonthNumber_2 k1488 k1489 k6 k1490 hd_X3_isNoMonth rfl ⟨by decide, by decide⟩ (Nat.le_of_ble_eq_true rfl) ⟨by dsimp only; omega, by dsimp only; omega⟩ ?_
  have br1 : r1 = 0 ∨ r1 = 1 := hr1.elim (fun h => Or.inr h.1) (fun h => Or.inl h.1)
  refine q_ine (tgt := 17) hx hb dX3_ofMonthNumber_5 (by decide) (by omega) (fun c2 => ?_) (fun c2 => ?_)
  · exact (show False by omega).elim
  · refine lv_iload_n hx hb dX3_ofMonthNumber_8 rfl (lv_at hl 2 rfl) ?_
    refine q_con hx hb dX3_ofMonthNumber_9 ?_
    refine q_con hx hb dX3_ofMonthNumber_10 ?_
    obtain ⟨r3, hr3⟩ := bex (k < 0 ∨ 3 < k)
    refine c_P (As := [.int (iI k), .int (iI 0), .int (iI 3)]) (rest := [.ref (w 0)]) fx hl (pm_X3_isOut l k 0 3 r3 hr3 (by omega) (by omega) (by omega)) dX3_ofMonthNumber_11 k1116 k1117 k6 k1118 hd_X3_isOut rfl ⟨by decide, by decide⟩ (Nat.le_of_ble_eq_true rfl) ⟨by dsimp only; omega, by dsimp only; omega⟩ ?_
    have br3 : r3 = 0 ∨ r3 = 1 := hr3.elim (fun h => Or.inr h.1) (fun h => Or.inl h.1)
    refine q_ieq (tgt := 21) hx hb dX3_ofMonthNumber_14 (by decide) (by omega) (fun c4 => ?_) (fun c4 => ?_)
    · exact (show False by omega).elim
    · refine q_con hx hb dX3_ofMonthNumber_17 ?_
      refine lv_goto (tgt := 22) hx hb dX3_ofMonthNumber_18 (by decide) ?_
      refine q_con hx hb dX3_ofMonthNumber_22 ?_
      refine q_con hx hb dX3_ofMonthNumber_23 ?_
      obtain ⟨t5, f6, hq1t5, hq2t5⟩ := fails_ex 1 0 0 (by omega) (by omega) (by omega)
      have hmw : MWR θ S0 w s.heap r q dt sv th dn rf kn := ⟨hz, hu, hm, hd, hsv⟩
      refine c_M (w := w) (As := [.int (iI 1), .int (iI 0), .int (iI 0)]) (rest := []) (b := w 0) (C := RX3) fx hl (mw_fails θ l S0 _ w _ _ _ _ _ _ _ _ hmw 1 0 0 t5 f6 (by omega) hq1t5 hq2t5) (ob_recv hK hm.1 rfl) dX3_ofMonthNumber_24 k1119 k1121 ks10 k6 k1122 hd_X3_fails rfl ⟨by decide, by decide⟩ (Nat.le_of_ble_eq_true rfl) ⟨by dsimp only; omega, by dsimp only; omega⟩ hS (fun x hx => hx ▸ Or.inl (Or.inl rfl)) (fun H7 locs hmH7 hszH7 hk0H7 hS => ?_)
      have hkH7 : ∀ x : Nat, x < (s.heap).size → ¬ x = w 0 → H7[x]? = (s.heap)[x]? := hk0H7
      have hzH7 := hz0.at hAB hS
      have hltH7 := hmH7.lt
      refine q_ieq (tgt := 32) hx hb dX3_ofMonthNumber_27 (by decide) (by omega) (fun c8 => ?_) (fun c8 => ?_)
      · exact (show False by omega).elim
      · refine q_con hx hb dX3_ofMonthNumber_30 ?_
        obtain rfl : t5 = 1 := by omega
        have hmw : MWR θ S0 w H7 r q dt sv 1 dn rf kn := ⟨hzH7, hu, hmH7, hd, hsv⟩
        exact e_i hx hb hr hlk hS dX3_ofMonthNumber_31 (Nat.le_of_ble_eq_true rfl) (Nat.le_of_ble_eq_true rfl) ⟨ex_i (by omega), r, q, by first | exact hmw | (subst_vars; exact hmw) | (simp only [inI_self, inI_1, inI_31] at hmw; subst_vars; exact hmw), by first | exact nw_rf | exact nw_up (by omega) | exact nw_up2 (by omega), by first | exact nw_rf | exact nw_up (by omega) | exact nw_up2 (by omega)⟩
