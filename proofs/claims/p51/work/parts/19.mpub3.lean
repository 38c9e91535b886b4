def Hid (P : Prop) : Prop := P
theorem Hid.mk {P : Prop} (h : P) : Hid P := h
theorem Hid.out {P : Prop} (h : Hid P) : P := h
set_option maxHeartbeats 4000000 in
set_option maxRecDepth 100000 in
theorem mw_acted (θ : TH) (l : Launch) (S0 : State) (H : Heap) (w : Nat → Nat) (r q : Nat → Nat) (dt : Nat → Int) (sv : Nat → Nat → Int) (th dn rf kn : Int) (hw : MWR θ S0 w H r q dt sv th dn rf kn) (a : Nat) (s1 f g d n k z : Int) (hdr : DR θ H a d) (h_s : 0 ≤ s1 ∧ s1 < 3) (h_f : 0 ≤ f ∧ f ≤ 1) (h_nk : -480000 ≤ n ∧ n ≤ 480000 ∧ -100000 ≤ k ∧ k ≤ 100000) (h_d : -395000000 ≤ d ∧ d ≤ 395000000) (h_g : Hid ((g = 1 ∧ n = 12 * sv s1.toNat 0 + sv s1.toNat 1 ∧ k = sv s1.toNat 2) ∨ (g = -1 ∧ n = -(12 * sv s1.toNat 0 + sv s1.toNat 1) ∧ k = -(sv s1.toNat 2)))) (h_r : Hid ((f = 1 → z = shI (d + k) n) ∧ (f = 0 → z = shI d n + k))) : CT l yX3_acted cX3_acted 7 (some (.array .int)) 7 148 2 4 [.ref (w 0), .ref a, .int (iI s1), .int (iI f), .int (iI g)] S0 H (fun v H1 => ∃ q : Nat, v = some (.ref q) ∧ H.size ≤ q ∧ DR θ H1 q z) (fun _ _ => False) (fun x => H.size ≤ x) := by
  refine ct_of (by decide +kernel) (Nat.le_of_ble_eq_true rfl) ?_
  intro pg en s mi args below meth co ls fx hs hr hlk hxt hin hl
  subst hs
  obtain ⟨hx, hb, hml, hown, hts⟩ := id fx.1
  have hS : va_S (fun x : Nat => s.heap.size ≤ x) s.heap s.heap [] := va_S.rf
  obtain ⟨hz, hu, hm, hd, hsv⟩ := id hw
  have hAB : ∀ x : Nat, (fun x : Nat => s.heap.size ≤ x) x → θ.2.2.2 ≤ x := fun x h => Nat.le_trans hz.2.1 h
  have hz0 := hz
  have hK := sz_K fx.2 hz
  have hlt0 := hm.lt
  have hu1 := hu.1
  have hAn : ∀ x : Nat, s.heap.size ≤ x → (fun x : Nat => s.heap.size ≤ x) x := fun _ h => h
  have lta := hdr.lt
  have tb0 := hsv s1.toNat (by omega)
  refine lv_iload hx hb dX3_acted_0 (lv_at hl 4 rfl) ?_
  refine lv_aload_n hx hb dX3_acted_2 rfl (lv_at hl 0 rfl) ?_
  refine lv_iload_n hx hb dX3_acted_3 rfl (lv_at hl 2 rfl) ?_
  have hmw : MWR θ S0 w s.heap r q dt sv th dn rf kn := ⟨hz, hu, hm, hd, hsv⟩
  refine c_HV (As := [.int (iI s1)]) (rest := [.int (iI g)]) (b := w 0) (C := RX3) fx hl (mr_all θ l S0 _ w _ _ _ _ _ _ _ _ hmw s1 (by omega)) (ob_recv hK hm.1 rfl) dX3_acted_4 k1214 k1216 ks14 k6 k1217 hd_X3_all rfl ⟨by decide, by decide⟩ (Nat.le_of_ble_eq_true rfl) ⟨by dsimp only; omega, by dsimp only; omega⟩ ?_
  refine q_nm (fun z1 ez1 => ?_)
  refine q_mul hx hb dX3_acted_7 ?_
  refine q_as (n) (by (rcases h_g.out with ⟨q1, q2, q3⟩ | ⟨q1, q2, q3⟩ <;> subst q1 <;> omega)) ?_
  refine lv_istore (lv' := [(5, .int (iI n)), (0, .ref (w 0)), (1, .ref a), (2, .int (iI s1)), (3, .int (iI f)), (4, .int (iI g))]) hx hb dX3_acted_8 hl (by decide) rfl (fun ls hl => ?_)
  refine lv_iload hx hb dX3_acted_10 (lv_at hl 5 rfl) ?_
  refine lv_aload_n hx hb dX3_acted_12 rfl (lv_at hl 1 rfl) ?_
  refine r_get (θ := θ) (C := RX3) (T := TX3) (N := 6) (ci := 9) hx hb hts gwX3 hown hK hm.1 rfl 5 (by decide) k1095 (fun _ h => h) (v := .ref (w 2)) rfl dX3_acted_13 ?_
  refine lv_iload_n hx hb dX3_acted_16 rfl (lv_at hl 3 rfl) ?_
  refine r_aald (θ := θ) hx hb hK hm.2.2.1 (i := s1) (by omega) (by decide) dX3_acted_17 ?_
  have rw2 := (hm.2.2.2.2 (s1.toNat) (by omega)).1
  have rw2t := hsv (s1.toNat) (by omega)
  have rw2l := rw2.lt
  refine q_con hx hb dX3_acted_18 ?_
  refine r_iald (θ := θ) hx hb hK rw2 (i := 2) (by omega) (by decide) dX3_acted_19 ?_
  refine q_as ((sv s1.toNat) 2) rfl ?_
  refine q_mul hx hb dX3_acted_20 ?_
  refine q_as (k) (by (rcases h_g.out with ⟨q1, q2, q3⟩ | ⟨q1, q2, q3⟩ <;> subst q1 <;> omega)) ?_
  refine lv_istore (lv' := [(6, .int (iI k)), (5, .int (iI n)), (0, .ref (w 0)), (1, .ref a), (2, .int (iI s1)), (3, .int (iI f)), (4, .int (iI g))]) hx hb dX3_acted_21 hl (by decide) rfl (fun ls hl => ?_)
  refine lv_iload_n hx hb dX3_acted_23 rfl (lv_at hl 5 rfl) ?_
  refine q_ieq (tgt := 41) hx hb dX3_acted_24 (by decide) (by omega) (fun c3 => ?_) (fun c3 => ?_)
  · refine lv_aload_n hx hb dX3_acted_41 rfl (lv_at hl 3 rfl) ?_
    refine lv_iload hx hb dX3_acted_42 (lv_at hl 1 rfl) ?_
    refine c_NR (θ := θ) (As := [.ref a, .int (iI n)]) (rest := []) fx hl (pm_X3_shifted θ l S0 _ hz a n d hdr (by omega) (by omega)) dX3_acted_44 k1183 k1184 k6 k1185 hd_X3_shifted rfl ⟨by decide, by decide⟩ (Nat.le_of_ble_eq_true rfl) ⟨by dsimp only; omega, by dsimp only; omega⟩ hS (fun x hx => hAn x (Nat.le_trans hS.1 hx)) (fun q5 H4 locs hqH4 haH4 hszH4 hkH4 hS => ?_)
    have hdr_H4 := hdr.kept (hkH4 _ hdr.lt)
    have hzH4 := hz0.at hAB hS
    have hmH4 := hm.kept hkH4
    have hltH4 := haH4.lt
    have t0q5 := shI_s d n
    have t1q5 := shI_bd d n
    refine lv_iload hx hb dX3_acted_47 (lv_at hl 0 rfl) ?_
    refine c_NR (θ := θ) (As := [.ref q5, .int (iI k)]) (rest := []) fx hl (pm_X3_on θ l S0 _ hzH4 q5 k (shI d n) haH4 (by omega) (by omega)) dX3_acted_49 k1196 k1197 k6 k1198 hd_X3_on rfl ⟨by decide, by decide⟩ (Nat.le_of_ble_eq_true rfl) ⟨by dsimp only; omega, by dsimp only; omega⟩ hS (fun x hx => hAn x (Nat.le_trans hS.1 hx)) (fun q7 H6 locs hqH6 haH6 hszH6 hkH6 hS => ?_)
    have hdr_H6 := hdr_H4.kept (hkH6 _ hdr_H4.lt)
    have haH4_H6 := haH4.kept (hkH6 _ haH4.lt)
    have hzH6 := hz0.at hAB hS
    have hmH6 := hmH4.kept hkH6
    have hltH6 := haH6.lt
    exact e_a hx hb hr (Or.inr ⟨_, rfl⟩) hlk hS dX3_acted_52 (Nat.le_of_ble_eq_true rfl) (Nat.le_of_ble_eq_true rfl) ⟨_, rfl, by omega, by first | (rw [h_r.out.1 (by omega)]; exact haH6) | (rw [h_r.out.2 (by omega)]; exact haH6)⟩
  · refine lv_aload_n hx hb dX3_acted_27 rfl (lv_at hl 3 rfl) ?_
    refine lv_iload hx hb dX3_acted_28 (lv_at hl 0 rfl) ?_
    refine c_NR (θ := θ) (As := [.ref a, .int (iI k)]) (rest := []) fx hl (pm_X3_on θ l S0 _ hz a k d hdr (by omega) (by omega)) dX3_acted_30 k1196 k1197 k6 k1198 hd_X3_on rfl ⟨by decide, by decide⟩ (Nat.le_of_ble_eq_true rfl) ⟨by dsimp only; omega, by dsimp only; omega⟩ hS (fun x hx => hAn x (Nat.le_trans hS.1 hx)) (fun q9 H8 locs hqH8 haH8 hszH8 hkH8 hS => ?_)
    have hdr_H8 := hdr.kept (hkH8 _ hdr.lt)
    have hzH8 := hz0.at hAB hS
    have hmH8 := hm.kept hkH8
    have hltH8 := haH8.lt
    refine lv_iload hx hb dX3_acted_33 (lv_at hl 1 rfl) ?_
    refine c_NR (θ := θ) (As := [.ref q9, .int (iI n)]) (rest := []) fx hl (pm_X3_shifted θ l S0 _ hzH8 q9 n (d + k) haH8 (by omega) (by omega)) dX3_acted_35 k1183 k1184 k6 k1185 hd_X3_shifted rfl ⟨by decide, by decide⟩ (Nat.le_of_ble_eq_true rfl) ⟨by dsimp only; omega, by dsimp only; omega⟩ hS (fun x hx => hAn x (Nat.le_trans hS.1 hx)) (fun q11 H10 locs hqH10 haH10 hszH10 hkH10 hS => ?_)
    have hdr_H10 := hdr_H8.kept (hkH10 _ hdr_H8.lt)
    have haH8_H10 := haH8.kept (hkH10 _ haH8.lt)
    have hzH10 := hz0.at hAB hS
    have hmH10 := hmH8.kept hkH10
    have hltH10 := haH10.lt
    have t0q11 := shI_s (d + k) n
    have t1q11 := shI_bd (d + k) n
    refine lv_goto (tgt := 52) hx hb dX3_acted_38 (by decide) ?_
    exact e_a hx hb hr (Or.inr ⟨_, rfl⟩) hlk hS dX3_acted_52 (Nat.le_of_ble_eq_true rfl) (Nat.le_of_ble_eq_true rfl) ⟨_, rfl, by omega, by first | (rw [h_r.out.1 (by omega)]; exact haH10) | (rw [h_r.out.2 (by omega)]; exact haH10)⟩

set_option maxHeartbeats 4000000 in
set_option maxRecDepth 100000 in
theorem mok_act (θ : TH) (l : Launch) (S0 : State) (H : Heap) (w : Nat → Nat) (r q : Nat → Nat) (dt : Nat → Int) (sv : Nat → Nat → Int) (th dn rf kn : Int) (hw : MWR θ S0 w H r q dt sv th dn rf kn) (a s1 f g n k z0 : Int) (h_0 : -2147483648 ≤ a ∧ a < 2147483648) (h_1 : -2147483648 ≤ s1 ∧ s1 < 2147483648) (h_2 : -2147483648 ≤ f ∧ f < 2147483648) (h_3 : -2147483648 ≤ g ∧ g < 2147483648) (h_4 : 0 ≤ f ∧ f ≤ 1) (h_5 : 0 ≤ g ∧ g ≤ 1) (h_6 : Hid ((g = 0 → n = 12 * sv s1.toNat 0 + sv s1.toNat 1) ∧ (g = 1 → n = -(12 * sv s1.toNat 0 + sv s1.toNat 1)))) (h_7 : Hid ((g = 0 → k = sv s1.toNat 2) ∧ (g = 1 → k = -(sv s1.toNat 2)))) (h_8 : Hid ((f = 1 → z0 = shI (dt a.toNat + k) n) ∧ (f = 0 → z0 = shI (dt a.toNat) n + k))) (h_9 : 0 ≤ a ∧ a < 6) (h_10 : 0 ≤ s1 ∧ s1 < 3) (h_11 : -4371587 ≤ z0 ∧ z0 ≤ 2932896) : CT l yX3_act cX3_act 5 (some .int) 8 174 2 4 [.ref (w 0), .int (iI a), .int (iI s1), .int (iI f), .int (iI g)] S0 H (fun v9 H1 => v9 = some (.int (iI z0)) ∧ ∃ r1 q1 : Nat → Nat, MWR θ S0 w H1 r1 q1 (up dt a.toNat z0) sv 0 (dn + 1) rf kn ∧ NW 6 H.size r r1 ∧ NW 3 H.size q q1) (fun _ _ => False) (WA w H.size) := by
  refine ct_of (by decide +kernel) (Nat.le_of_ble_eq_true rfl) ?_
  intro pg en s mi args below meth co ls fx hs hr hlk hxt hin hl
  subst hs
  obtain ⟨hx, hb, hml, hown, hts⟩ := id fx.1
  have hS : va_S (WA w s.heap.size) s.heap s.heap [] := va_S.rf
  obtain ⟨hz, hu, hm, hd, hsv⟩ := id hw
  have hAB : ∀ x : Nat, (WA w s.heap.size) x → θ.2.2.2 ≤ x := wa_b hu hz.2.1
  have hz0 := hz
  have hK := sz_K fx.2 hz
  have hlt0 := hm.lt
  have hu1 := hu.1
  have hAn : ∀ x : Nat, s.heap.size ≤ x → (WA w s.heap.size) x := fun _ h => Or.inr h
  have tb9 : (0 ≤ s1 ∧ s1 < 3) → -480000 ≤ n ∧ n ≤ 480000 ∧ -100000 ≤ k ∧ k ≤ 100000 := fun h => by have h9 := h_6.out; have h10 := h_7.out; have h11 := hsv s1.toNat (by omega); omega
  refine lv_aload_n hx hb dX3_act_0 rfl (lv_at hl 0 rfl) ?_
  refine lv_iload_n hx hb dX3_act_1 rfl (lv_at hl 1 rfl) ?_
  obtain ⟨r1, hr1⟩ := bex (a < 0 ∨ 5 < a)
  refine c_P (As := [.int (iI a)]) (rest := [.ref (w 0)]) fx hl (pm_X3_isNo l a r1 hr1 (by omega)) dX3_act_2 k1113 k1114 k6 k1115 hd_X3_isNo rfl ⟨by decide, by decide⟩ (Nat.le_of_ble_eq_true rfl) ⟨by dsimp only; omega, by dsimp only; omega⟩ ?_
  have br1 : r1 = 0 ∨ r1 = 1 := hr1.elim (fun h => Or.inr h.1) (fun h => Or.inl h.1)
  refine q_ine (tgt := 15) hx hb dX3_act_5 (by decide) (by omega) (fun c2 => ?_) (fun c2 => ?_)
  · exact (show False by omega).elim
  · refine lv_iload_n hx hb dX3_act_8 rfl (lv_at hl 2 rfl) ?_
    obtain ⟨r3, hr3⟩ := bex (s1 < 0 ∨ 2 < s1)
    refine c_P (As := [.int (iI s1)]) (rest := [.ref (w 0)]) fx hl (pm_X3_isNoSpan l s1 r3 hr3 (by omega)) dX3_act_9 k1207 k1208 k6 k1209 hd_X3_isNoSpan rfl ⟨by decide, by decide⟩ (Nat.le_of_ble_eq_true rfl) ⟨by dsimp only; omega, by dsimp only; omega⟩ ?_
    have br3 : r3 = 0 ∨ r3 = 1 := hr3.elim (fun h => Or.inr h.1) (fun h => Or.inl h.1)
    refine q_ieq (tgt := 19) hx hb dX3_act_12 (by decide) (by omega) (fun c4 => ?_) (fun c4 => ?_)
    · refine q_con hx hb dX3_act_19 ?_
      refine q_con hx hb dX3_act_20 ?_
      refine q_con hx hb dX3_act_21 ?_
      obtain ⟨t5, f6, hq1t5, hq2t5⟩ := fails_ex 0 0 0 (by omega) (by omega) (by omega)
      have hmw : MWR θ S0 w s.heap r q dt sv th dn rf kn := ⟨hz, hu, hm, hd, hsv⟩
      refine c_M (w := w) (As := [.int (iI 0), .int (iI 0), .int (iI 0)]) (rest := []) (b := w 0) (C := RX3) fx hl (mw_fails θ l S0 _ w _ _ _ _ _ _ _ _ hmw 0 0 0 t5 f6 (by omega) hq1t5 hq2t5) (ob_recv hK hm.1 rfl) dX3_act_22 k1119 k1121 ks10 k6 k1122 hd_X3_fails rfl ⟨by decide, by decide⟩ (Nat.le_of_ble_eq_true rfl) ⟨by dsimp only; omega, by dsimp only; omega⟩ hS (fun x hx => hx ▸ Or.inl (Or.inl rfl)) (fun H7 locs hmH7 hszH7 hk0H7 hS => ?_)
      have hkH7 : ∀ x : Nat, x < (s.heap).size → ¬ x = w 0 → H7[x]? = (s.heap)[x]? := hk0H7
      have hzH7 := hz0.at hAB hS
      have hltH7 := hmH7.lt
      refine q_ieq (tgt := 30) hx hb dX3_act_25 (by decide) (by omega) (fun c8 => ?_) (fun c8 => ?_)
      · refine lv_aload_n hx hb dX3_act_30 rfl (lv_at hl 0 rfl) ?_
        refine lv_iload_n hx hb dX3_act_31 rfl (lv_at hl 1 rfl) ?_
        refine lv_aload_n hx hb dX3_act_32 rfl (lv_at hl 0 rfl) ?_
        refine lv_aload_n hx hb dX3_act_33 rfl (lv_at hl 0 rfl) ?_
        refine r_get (θ := θ) (C := RX3) (T := TX3) (N := 6) (ci := 9) hx hb hts gwX3 hown hK hmH7.1 rfl 4 (by decide) k1094 (fun _ h => h) (v := .ref (w 1)) rfl dX3_act_34 ?_
        refine lv_iload_n hx hb dX3_act_37 rfl (lv_at hl 1 rfl) ?_
        refine r_aald (θ := θ) hx hb hK hmH7.2.1 (i := a) (by omega) (by decide) dX3_act_38 ?_
        have rw9 := (hmH7.2.2.2.1 (a.toNat) (by omega)).1
        have rw9n := (hmH7.2.2.2.1 (a.toNat) (by omega)).2
        have rw9t := hd (a.toNat) (by omega)
        have rw9l := rw9.lt
        have rw9i := inR rw9t
        have rw9m := inM rw9i
        have rw9d := dI_b (dt a.toNat)
        refine lv_iload_n hx hb dX3_act_39 rfl (lv_at hl 2 rfl) ?_
        refine lv_iload_n hx hb dX3_act_40 rfl (lv_at hl 3 rfl) ?_
        refine lv_iload hx hb dX3_act_41 (lv_at hl 4 rfl) ?_
        refine q_ieq (tgt := 50) hx hb dX3_act_43 (by decide) (by omega) (fun c10 => ?_) (fun c10 => ?_)
        · refine q_con hx hb dX3_act_50 ?_
          have hmw : MWR θ S0 w H7 r q dt sv t5 dn rf kn := ⟨hzH7, hu, hmH7, hd, hsv⟩
          refine c_MR (θ := θ) (d := z0) (As := [.ref (r a.toNat), .int (iI s1), .int (iI f), .int (iI 1)]) (rest := [.int (iI a), .ref (w 0)]) (b := w 0) (C := RX3) fx hl (mw_acted θ l S0 _ w _ _ _ _ _ _ _ _ hmw (r a.toNat) s1 f 1 (dt a.toNat) n k z0 rw9 (by omega) (by omega) (by omega) (by omega) (by have h9 := h_6.out; have h10 := h_7.out; exact Hid.mk (by omega)) h_8) (ob_recv hK hmH7.1 rfl) dX3_act_51 k1210 k1212 ks13 k6 k1213 hd_X3_acted rfl ⟨by decide, by decide⟩ (Nat.le_of_ble_eq_true rfl) ⟨by dsimp only; omega, by dsimp only; omega⟩ hS (fun x hx => hAn x (Nat.le_trans hS.1 hx)) (fun q11 H12 locs hqH12 haH12 hszH12 hkH12 hS => ?_)
          have rw9_H12 := rw9.kept (hkH12 _ rw9.lt)
          have hzH12 := hz0.at hAB hS
          have hmH12 := hmH7.kept hkH12
          have hltH12 := haH12.lt
          have hluH12 := hmH12.lt
          have tac1 : -420000000 ≤ z0 ∧ z0 ≤ 420000000 := by have h9 := h_8.out; have h10 := shI_bd (dt a.toNat + k) n; have h11 := shI_bd (dt a.toNat) n; omega
          refine q_con hx hb dX3_act_54 ?_
          have hmw : MWR θ S0 w H12 r q dt sv t5 dn rf kn := ⟨hzH12, hu, hmH12, hd, hsv⟩
          refine c_M (w := w) (As := [.int (iI a), .ref q11, .int (iI 2)]) (rest := []) (b := w 0) (C := RX3) fx hl (mw_become_ok θ l S0 _ w _ _ _ _ _ _ _ _ hmw a q11 2 z0 haH12 ⟨by omega, by omega, by omega⟩ (by omega) (by omega) (by omega)) (ob_recv hK hmH12.1 rfl) dX3_act_55 k1126 k1128 ks11 k6 k1129 hd_X3_become rfl ⟨by decide, by decide⟩ (Nat.le_of_ble_eq_true rfl) ⟨by dsimp only; omega, by dsimp only; omega⟩ hS (fun x hx => hx.elim (fun e => Or.inl (Or.inl e)) (fun e => Or.inl (Or.inr (Or.inl e)))) (fun H13 locs hmH13 hszH13 hk0H13 hS => ?_)
          have hkH13 : ∀ x : Nat, x < (H12).size → ¬ (x = w 0 ∨ x = w 1) → H13[x]? = (H12)[x]? := hk0H13
          have haH12_H13 := haH12.kept (hkH13 _ haH12.lt (by omega))
          have hzH13 := hz0.at hAB hS
          have hltH13 := hmH13.lt
          refine q_ieq (tgt := 69) hx hb dX3_act_58 (by decide) (by omega) (fun c14 => ?_) (fun c14 => ?_)
          · exact (show False by omega).elim
          · refine lv_aload_n hx hb dX3_act_61 rfl (lv_at hl 0 rfl) ?_
            refine lv_iload_n hx hb dX3_act_62 rfl (lv_at hl 1 rfl) ?_
            have hmw : MWR θ S0 w H13 (up r (Int.toNat a) q11) q (up dt (Int.toNat a) z0) sv t5 (dn + 1) rf kn := ⟨hzH13, hu, hmH13, (fun j hj => by have h9 := hd j hj; show -4371587 ≤ _ ∧ _; simp only [up]; (split <;> omega)), hsv⟩
            refine c_HV (As := [.int (iI a)]) (rest := []) (b := w 0) (C := RX3) fx hl (mr_became θ l S0 _ w _ _ _ _ _ _ _ _ hmw a (by omega)) (ob_recv hK hmH13.1 rfl) dX3_act_63 k1141 k1143 ks12 k6 k1144 hd_X3_became rfl ⟨by decide, by decide⟩ (Nat.le_of_ble_eq_true rfl) ⟨by dsimp only; omega, by dsimp only; omega⟩ ?_
            refine q_nm (fun z15 ez15 => ?_)
            refine lv_goto (tgt := 70) hx hb dX3_act_66 (by decide) ?_
            obtain rfl : t5 = 0 := by omega
            have hmw : MWR θ S0 w H13 (up r (Int.toNat a) q11) q (up dt (Int.toNat a) z0) sv 0 (dn + 1) rf kn := ⟨hzH13, hu, hmH13, (fun j hj => by have h9 := hd j hj; show -4371587 ≤ _ ∧ _; simp only [up]; (split <;> omega)), hsv⟩
            exact e_i hx hb hr hlk hS dX3_act_70 (Nat.le_of_ble_eq_true rfl) (Nat.le_of_ble_eq_true rfl) ⟨ex_i (by subst_vars; first | omega | (simp only [up_s, tri_0, tri_1, tri_2, inI_self, inI_1, inI_31]; done) | (simp only [up_s, tri_0, tri_1, tri_2, inI_self, inI_1, inI_31]; omega) | (simp only [up_s, tri_0, tri_1, tri_2]; subst_vars; first | rfl | omega)), (up r (Int.toNat a) q11), q, by first | exact hmw | (subst_vars; exact hmw) | (simp only [inI_self, inI_1, inI_31] at hmw; subst_vars; exact hmw), by first | exact nw_rf | exact nw_up (by omega) | exact nw_up2 (by omega), by first | exact nw_rf | exact nw_up (by omega) | exact nw_up2 (by omega)⟩
        · refine q_con hx hb dX3_act_46 ?_
          refine lv_goto (tgt := 51) hx hb dX3_act_47 (by decide) ?_
          have hmw : MWR θ S0 w H7 r q dt sv t5 dn rf kn := ⟨hzH7, hu, hmH7, hd, hsv⟩
          refine c_MR (θ := θ) (d := z0) (As := [.ref (r a.toNat), .int (iI s1), .int (iI f), .int (iI (-1))]) (rest := [.int (iI a), .ref (w 0)]) (b := w 0) (C := RX3) fx hl (mw_acted θ l S0 _ w _ _ _ _ _ _ _ _ hmw (r a.toNat) s1 f (-1) (dt a.toNat) n k z0 rw9 (by omega) (by omega) (by omega) (by omega) (by have h9 := h_6.out; have h10 := h_7.out; exact Hid.mk (by omega)) h_8) (ob_recv hK hmH7.1 rfl) dX3_act_51 k1210 k1212 ks13 k6 k1213 hd_X3_acted rfl ⟨by decide, by decide⟩ (Nat.le_of_ble_eq_true rfl) ⟨by dsimp only; omega, by dsimp only; omega⟩ hS (fun x hx => hAn x (Nat.le_trans hS.1 hx)) (fun q16 H17 locs hqH17 haH17 hszH17 hkH17 hS => ?_)
          have rw9_H17 := rw9.kept (hkH17 _ rw9.lt)
          have hzH17 := hz0.at hAB hS
          have hmH17 := hmH7.kept hkH17
          have hltH17 := haH17.lt
          have hluH17 := hmH17.lt
          have tac1 : -420000000 ≤ z0 ∧ z0 ≤ 420000000 := by have h9 := h_8.out; have h10 := shI_bd (dt a.toNat + k) n; have h11 := shI_bd (dt a.toNat) n; omega
          refine q_con hx hb dX3_act_54 ?_
          have hmw : MWR θ S0 w H17 r q dt sv t5 dn rf kn := ⟨hzH17, hu, hmH17, hd, hsv⟩
          refine c_M (w := w) (As := [.int (iI a), .ref q16, .int (iI 2)]) (rest := []) (b := w 0) (C := RX3) fx hl (mw_become_ok θ l S0 _ w _ _ _ _ _ _ _ _ hmw a q16 2 z0 haH17 ⟨by omega, by omega, by omega⟩ (by omega) (by omega) (by omega)) (ob_recv hK hmH17.1 rfl) dX3_act_55 k1126 k1128 ks11 k6 k1129 hd_X3_become rfl ⟨by decide, by decide⟩ (Nat.le_of_ble_eq_true rfl) ⟨by dsimp only; omega, by dsimp only; omega⟩ hS (fun x hx => hx.elim (fun e => Or.inl (Or.inl e)) (fun e => Or.inl (Or.inr (Or.inl e)))) (fun H18 locs hmH18 hszH18 hk0H18 hS => ?_)
          have hkH18 : ∀ x : Nat, x < (H17).size → ¬ (x = w 0 ∨ x = w 1) → H18[x]? = (H17)[x]? := hk0H18
          have haH17_H18 := haH17.kept (hkH18 _ haH17.lt (by omega))
          have hzH18 := hz0.at hAB hS
          have hltH18 := hmH18.lt
          refine q_ieq (tgt := 69) hx hb dX3_act_58 (by decide) (by omega) (fun c19 => ?_) (fun c19 => ?_)
          · exact (show False by omega).elim
          · refine lv_aload_n hx hb dX3_act_61 rfl (lv_at hl 0 rfl) ?_
            refine lv_iload_n hx hb dX3_act_62 rfl (lv_at hl 1 rfl) ?_
            have hmw : MWR θ S0 w H18 (up r (Int.toNat a) q16) q (up dt (Int.toNat a) z0) sv t5 (dn + 1) rf kn := ⟨hzH18, hu, hmH18, (fun j hj => by have h9 := hd j hj; show -4371587 ≤ _ ∧ _; simp only [up]; (split <;> omega)), hsv⟩
            refine c_HV (As := [.int (iI a)]) (rest := []) (b := w 0) (C := RX3) fx hl (mr_became θ l S0 _ w _ _ _ _ _ _ _ _ hmw a (by omega)) (ob_recv hK hmH18.1 rfl) dX3_act_63 k1141 k1143 ks12 k6 k1144 hd_X3_became rfl ⟨by decide, by decide⟩ (Nat.le_of_ble_eq_true rfl) ⟨by dsimp only; omega, by dsimp only; omega⟩ ?_
            refine q_nm (fun z20 ez20 => ?_)
            refine lv_goto (tgt := 70) hx hb dX3_act_66 (by decide) ?_
            obtain rfl : t5 = 0 := by omega
            have hmw : MWR θ S0 w H18 (up r (Int.toNat a) q16) q (up dt (Int.toNat a) z0) sv 0 (dn + 1) rf kn := ⟨hzH18, hu, hmH18, (fun j hj => by have h9 := hd j hj; show -4371587 ≤ _ ∧ _; simp only [up]; (split <;> omega)), hsv⟩
            exact e_i hx hb hr hlk hS dX3_act_70 (Nat.le_of_ble_eq_true rfl) (Nat.le_of_ble_eq_true rfl) ⟨ex_i (by subst_vars; first | omega | (simp only [up_s, tri_0, tri_1, tri_2, inI_self, inI_1, inI_31]; done) | (simp only [up_s, tri_0, tri_1, tri_2, inI_self, inI_1, inI_31]; omega) | (simp only [up_s, tri_0, tri_1, tri_2]; subst_vars; first | rfl | omega)), (up r (Int.toNat a) q16), q, by first | exact hmw | (subst_vars; exact hmw) | (simp only [inI_self, inI_1, inI_31] at hmw; subst_vars; exact hmw), by first | exact nw_rf | exact nw_up (by omega) | exact nw_up2 (by omega), by first | exact nw_rf | exact nw_up (by omega) | exact nw_up2 (by omega)⟩
      · exact (show False by omega).elim
    · exact (show False by omega).elim

set_option maxHeartbeats 4000000 in
set_option maxRecDepth 100000 in
theorem mno1_act (θ : TH) (l : Launch) (S0 : State) (H : Heap) (w : Nat → Nat) (r q : Nat → Nat) (dt : Nat → Int) (sv : Nat → Nat → Int) (th dn rf kn : Int) (hw : MWR θ S0 w H r q dt sv th dn rf kn) (a s1 f g n k z0 : Int) (h_0 : -2147483648 ≤ a ∧ a < 2147483648) (h_1 : -2147483648 ≤ s1 ∧ s1 < 2147483648) (h_2 : -2147483648 ≤ f ∧ f < 2147483648) (h_3 : -2147483648 ≤ g ∧ g < 2147483648) (h_4 : 0 ≤ f ∧ f ≤ 1) (h_5 : 0 ≤ g ∧ g ≤ 1) (h_6 : Hid ((g = 0 → n = 12 * sv s1.toNat 0 + sv s1.toNat 1) ∧ (g = 1 → n = -(12 * sv s1.toNat 0 + sv s1.toNat 1)))) (h_7 : Hid ((g = 0 → k = sv s1.toNat 2) ∧ (g = 1 → k = -(sv s1.toNat 2)))) (h_8 : Hid ((f = 1 → z0 = shI (dt a.toNat + k) n) ∧ (f = 0 → z0 = shI (dt a.toNat) n + k))) (h_9 : ¬ (0 ≤ a ∧ a < 6)) : CT l yX3_act cX3_act 5 (some .int) 2 42 0 0 [.ref (w 0), .int (iI a), .int (iI s1), .int (iI f), .int (iI g)] S0 H (fun v9 H1 => v9 = some (.int (iI 0)) ∧ ∃ r1 q1 : Nat → Nat, MWR θ S0 w H1 r1 q1 dt sv 1 dn rf kn ∧ NW 6 H.size r r1 ∧ NW 3 H.size q q1) (fun _ _ => False) (WA w H.size) := by
  refine ct_of (by decide +kernel) (Nat.le_of_ble_eq_true rfl) ?_
  intro pg en s mi args below meth co ls fx hs hr hlk hxt hin hl
  subst hs
  obtain ⟨hx, hb, hml, hown, hts⟩ := id fx.1
  have hS : va_S (WA w s.heap.size) s.heap s.heap [] := va_S.rf
  obtain ⟨hz, hu, hm, hd, hsv⟩ := id hw
  have hAB : ∀ x : Nat, (WA w s.heap.size) x → θ.2.2.2 ≤ x := wa_b hu hz.2.1
  have hz0 := hz
  have hK := sz_K fx.2 hz
  have hlt0 := hm.lt
  have hu1 := hu.1
  have hAn : ∀ x : Nat, s.heap.size ≤ x → (WA w s.heap.size) x := fun _ h => Or.inr h
  have tb9 : (0 ≤ s1 ∧ s1 < 3) → -480000 ≤ n ∧ n ≤ 480000 ∧ -100000 ≤ k ∧ k ≤ 100000 := fun h => by have h9 := h_6.out; have h10 := h_7.out; have h11 := hsv s1.toNat (by omega); omega
  refine lv_aload_n hx hb dX3_act_0 rfl (lv_at hl 0 rfl) ?_
  refine lv_iload_n hx hb dX3_act_1 rfl (lv_at hl 1 rfl) ?_
  obtain ⟨r1, hr1⟩ := bex (a < 0 ∨ 5 < a)
  refine c_P (As := [.int (iI a)]) (rest := [.ref (w 0)]) fx hl (pm_X3_isNo l a r1 hr1 (by omega)) dX3_act_2 k1113 k1114 k6 k1115 hd_X3_isNo rfl ⟨by decide, by decide⟩ (Nat.le_of_ble_eq_true rfl) ⟨by dsimp only; omega, by dsimp only; omega⟩ ?_
  have br1 : r1 = 0 ∨ r1 = 1 := hr1.elim (fun h => Or.inr h.1) (fun h => Or.inl h.1)
  refine q_ine (tgt := 15) hx hb dX3_act_5 (by decide) (by omega) (fun c2 => ?_) (fun c2 => ?_)
  · refine q_con hx hb dX3_act_15 ?_
    refine lv_goto (tgt := 20) hx hb dX3_act_16 (by decide) ?_
    refine q_con hx hb dX3_act_20 ?_
    refine q_con hx hb dX3_act_21 ?_
    obtain ⟨t3, f4, hq1t3, hq2t3⟩ := fails_ex 1 0 0 (by omega) (by omega) (by omega)
    have hmw : MWR θ S0 w s.heap r q dt sv th dn rf kn := ⟨hz, hu, hm, hd, hsv⟩
    refine c_M (w := w) (As := [.int (iI 1), .int (iI 0), .int (iI 0)]) (rest := []) (b := w 0) (C := RX3) fx hl (mw_fails θ l S0 _ w _ _ _ _ _ _ _ _ hmw 1 0 0 t3 f4 (by omega) hq1t3 hq2t3) (ob_recv hK hm.1 rfl) dX3_act_22 k1119 k1121 ks10 k6 k1122 hd_X3_fails rfl ⟨by decide, by decide⟩ (Nat.le_of_ble_eq_true rfl) ⟨by dsimp only; omega, by dsimp only; omega⟩ hS (fun x hx => hx ▸ Or.inl (Or.inl rfl)) (fun H5 locs hmH5 hszH5 hk0H5 hS => ?_)
    have hkH5 : ∀ x : Nat, x < (s.heap).size → ¬ x = w 0 → H5[x]? = (s.heap)[x]? := hk0H5
    have hzH5 := hz0.at hAB hS
    have hltH5 := hmH5.lt
    refine q_ieq (tgt := 30) hx hb dX3_act_25 (by decide) (by omega) (fun c6 => ?_) (fun c6 => ?_)
    · exact (show False by omega).elim
    · refine q_con hx hb dX3_act_28 ?_
      obtain rfl : t3 = 1 := by omega
      have hmw : MWR θ S0 w H5 r q dt sv 1 dn rf kn := ⟨hzH5, hu, hmH5, hd, hsv⟩
      exact e_i hx hb hr hlk hS dX3_act_29 (Nat.le_of_ble_eq_true rfl) (Nat.le_of_ble_eq_true rfl) ⟨ex_i (by omega), r, q, by first | exact hmw | (subst_vars; exact hmw) | (simp only [inI_self, inI_1, inI_31] at hmw; subst_vars; exact hmw), by first | exact nw_rf | exact nw_up (by omega) | exact nw_up2 (by omega), by first | exact nw_rf | exact nw_up (by omega) | exact nw_up2 (by omega)⟩
  · exact (show False by omega).elim

set_option maxHeartbeats 4000000 in
set_option maxRecDepth 100000 in
theorem mno2_act (θ : TH) (l : Launch) (S0 : State) (H : Heap) (w : Nat → Nat) (r q : Nat → Nat) (dt : Nat → Int) (sv : Nat → Nat → Int) (th dn rf kn : Int) (hw : MWR θ S0 w H r q dt sv th dn rf kn) (a s1 f g n k z0 : Int) (h_0 : -2147483648 ≤ a ∧ a < 2147483648) (h_1 : -2147483648 ≤ s1 ∧ s1 < 2147483648) (h_2 : -2147483648 ≤ f ∧ f < 2147483648) (h_3 : -2147483648 ≤ g ∧ g < 2147483648) (h_4 : 0 ≤ f ∧ f ≤ 1) (h_5 : 0 ≤ g ∧ g ≤ 1) (h_6 : Hid ((g = 0 → n = 12 * sv s1.toNat 0 + sv s1.toNat 1) ∧ (g = 1 → n = -(12 * sv s1.toNat 0 + sv s1.toNat 1)))) (h_7 : Hid ((g = 0 → k = sv s1.toNat 2) ∧ (g = 1 → k = -(sv s1.toNat 2)))) (h_8 : Hid ((f = 1 → z0 = shI (dt a.toNat + k) n) ∧ (f = 0 → z0 = shI (dt a.toNat) n + k))) (h_9 : 0 ≤ a ∧ a < 6) (h_10 : ¬ (0 ≤ s1 ∧ s1 < 3)) : CT l yX3_act cX3_act 5 (some .int) 2 42 0 0 [.ref (w 0), .int (iI a), .int (iI s1), .int (iI f), .int (iI g)] S0 H (fun v9 H1 => v9 = some (.int (iI 0)) ∧ ∃ r1 q1 : Nat → Nat, MWR θ S0 w H1 r1 q1 dt sv 1 dn rf kn ∧ NW 6 H.size r r1 ∧ NW 3 H.size q q1) (fun _ _ => False) (WA w H.size) := by
  refine ct_of (by decide +kernel) (Nat.le_of_ble_eq_true rfl) ?_
  intro pg en s mi args below meth co ls fx hs hr hlk hxt hin hl
  subst hs
  obtain ⟨hx, hb, hml, hown, hts⟩ := id fx.1
  have hS : va_S (WA w s.heap.size) s.heap s.heap [] := va_S.rf
  obtain ⟨hz, hu, hm, hd, hsv⟩ := id hw
  have hAB : ∀ x : Nat, (WA w s.heap.size) x → θ.2.2.2 ≤ x := wa_b hu hz.2.1
  have hz0 := hz
  have hK := sz_K fx.2 hz
  have hlt0 := hm.lt
  have hu1 := hu.1
  have hAn : ∀ x : Nat, s.heap.size ≤ x → (WA w s.heap.size) x := fun _ h => Or.inr h
  have tb9 : (0 ≤ s1 ∧ s1 < 3) → -480000 ≤ n ∧ n ≤ 480000 ∧ -100000 ≤ k ∧ k ≤ 100000 := fun h => by have h9 := h_6.out; have h10 := h_7.out; have h11 := hsv s1.toNat (by omega); omega
  refine lv_aload_n hx hb dX3_act_0 rfl (lv_at hl 0 rfl) ?_
  refine lv_iload_n hx hb dX3_act_1 rfl (lv_at hl 1 rfl) ?_
  obtain ⟨r1, hr1⟩ := bex (a < 0 ∨ 5 < a)
  refine c_P (As := [.int (iI a)]) (rest := [.ref (w 0)]) fx hl (pm_X3_isNo l a r1 hr1 (by omega)) dX3_act_2 k1113 k1114 k6 k1115 hd_X3_isNo rfl ⟨by decide, by decide⟩ (Nat.le_of_ble_eq_true rfl) ⟨by dsimp only; omega, by dsimp only; omega⟩ ?_
  have br1 : r1 = 0 ∨ r1 = 1 := hr1.elim (fun h => Or.inr h.1) (fun h => Or.inl h.1)
  refine q_ine (tgt := 15) hx hb dX3_act_5 (by decide) (by omega) (fun c2 => ?_) (fun c2 => ?_)
  · exact (show False by omega).elim
  · refine lv_iload_n hx hb dX3_act_8 rfl (lv_at hl 2 rfl) ?_
    obtain ⟨r3, hr3⟩ := bex (s1 < 0 ∨ 2 < s1)
    refine c_P (As := [.int (iI s1)]) (rest := [.ref (w 0)]) fx hl (pm_X3_isNoSpan l s1 r3 hr3 (by omega)) dX3_act_9 k1207 k1208 k6 k1209 hd_X3_isNoSpan rfl ⟨by decide, by decide⟩ (Nat.le_of_ble_eq_true rfl) ⟨by dsimp only; omega, by dsimp only; omega⟩ ?_
    have br3 : r3 = 0 ∨ r3 = 1 := hr3.elim (fun h => Or.inr h.1) (fun h => Or.inl h.1)
    refine q_ieq (tgt := 19) hx hb dX3_act_12 (by decide) (by omega) (fun c4 => ?_) (fun c4 => ?_)
    · exact (show False by omega).elim
    · refine q_con hx hb dX3_act_15 ?_
      refine lv_goto (tgt := 20) hx hb dX3_act_16 (by decide) ?_
      refine q_con hx hb dX3_act_20 ?_
      refine q_con hx hb dX3_act_21 ?_
      obtain ⟨t5, f6, hq1t5, hq2t5⟩ := fails_ex 1 0 0 (by omega) (by omega) (by omega)
      have hmw : MWR θ S0 w s.heap r q dt sv th dn rf kn := ⟨hz, hu, hm, hd, hsv⟩
      refine c_M (w := w) (As := [.int (iI 1), .int (iI 0), .int (iI 0)]) (rest := []) (b := w 0) (C := RX3) fx hl (mw_fails θ l S0 _ w _ _ _ _ _ _ _ _ hmw 1 0 0 t5 f6 (by omega) hq1t5 hq2t5) (ob_recv hK hm.1 rfl) dX3_act_22 k1119 k1121 ks10 k6 k1122 hd_X3_fails rfl ⟨by decide, by decide⟩ (Nat.le_of_ble_eq_true rfl) ⟨by dsimp only; omega, by dsimp only; omega⟩ hS (fun x hx => hx ▸ Or.inl (Or.inl rfl)) (fun H7 locs hmH7 hszH7 hk0H7 hS => ?_)
      have hkH7 : ∀ x : Nat, x < (s.heap).size → ¬ x = w 0 → H7[x]? = (s.heap)[x]? := hk0H7
      have hzH7 := hz0.at hAB hS
      have hltH7 := hmH7.lt
      refine q_ieq (tgt := 30) hx hb dX3_act_25 (by decide) (by omega) (fun c8 => ?_) (fun c8 => ?_)
      · exact (show False by omega).elim
      · refine q_con hx hb dX3_act_28 ?_
        obtain rfl : t5 = 1 := by omega
        have hmw : MWR θ S0 w H7 r q dt sv 1 dn rf kn := ⟨hzH7, hu, hmH7, hd, hsv⟩
        exact e_i hx hb hr hlk hS dX3_act_29 (Nat.le_of_ble_eq_true rfl) (Nat.le_of_ble_eq_true rfl) ⟨ex_i (by omega), r, q, by first | exact hmw | (subst_vars; exact hmw) | (simp only [inI_self, inI_1, inI_31] at hmw; subst_vars; exact hmw), by first | exact nw_rf | exact nw_up (by omega) | exact nw_up2 (by omega), by first | exact nw_rf | exact nw_up (by omega) | exact nw_up2 (by omega)⟩

set_option maxHeartbeats 4000000 in
set_option maxRecDepth 100000 in
theorem mno3_act (θ : TH) (l : Launch) (S0 : State) (H : Heap) (w : Nat → Nat) (r q : Nat → Nat) (dt : Nat → Int) (sv : Nat → Nat → Int) (th dn rf kn : Int) (hw : MWR θ S0 w H r q dt sv th dn rf kn) (a s1 f g n k z0 : Int) (h_0 : -2147483648 ≤ a ∧ a < 2147483648) (h_1 : -2147483648 ≤ s1 ∧ s1 < 2147483648) (h_2 : -2147483648 ≤ f ∧ f < 2147483648) (h_3 : -2147483648 ≤ g ∧ g < 2147483648) (h_4 : 0 ≤ f ∧ f ≤ 1) (h_5 : 0 ≤ g ∧ g ≤ 1) (h_6 : Hid ((g = 0 → n = 12 * sv s1.toNat 0 + sv s1.toNat 1) ∧ (g = 1 → n = -(12 * sv s1.toNat 0 + sv s1.toNat 1)))) (h_7 : Hid ((g = 0 → k = sv s1.toNat 2) ∧ (g = 1 → k = -(sv s1.toNat 2)))) (h_8 : Hid ((f = 1 → z0 = shI (dt a.toNat + k) n) ∧ (f = 0 → z0 = shI (dt a.toNat) n + k))) (h_9 : 0 ≤ a ∧ a < 6) (h_10 : 0 ≤ s1 ∧ s1 < 3) (h_11 : ¬ (-4371587 ≤ z0 ∧ z0 ≤ 2932896)) : CT l yX3_act cX3_act 5 (some .int) 8 174 2 4 [.ref (w 0), .int (iI a), .int (iI s1), .int (iI f), .int (iI g)] S0 H (fun v9 H1 => v9 = some (.int (iI 0)) ∧ ∃ r1 q1 : Nat → Nat, MWR θ S0 w H1 r1 q1 dt sv 2 dn rf kn ∧ NW 6 H.size r r1 ∧ NW 3 H.size q q1) (fun _ _ => False) (WA w H.size) := by
  refine ct_of (by decide +kernel) (Nat.le_of_ble_eq_true rfl) ?_
  intro pg en s mi args below meth co ls fx hs hr hlk hxt hin hl
  subst hs
  obtain ⟨hx, hb, hml, hown, hts⟩ := id fx.1
  have hS : va_S (WA w s.heap.size) s.heap s.heap [] := va_S.rf
  obtain ⟨hz, hu, hm, hd, hsv⟩ := id hw
  have hAB : ∀ x : Nat, (WA w s.heap.size) x → θ.2.2.2 ≤ x := wa_b hu hz.2.1
  have hz0 := hz
  have hK := sz_K fx.2 hz
  have hlt0 := hm.lt
  have hu1 := hu.1
  have hAn : ∀ x : Nat, s.heap.size ≤ x → (WA w s.heap.size) x := fun _ h => Or.inr h
  have tb9 : (0 ≤ s1 ∧ s1 < 3) → -480000 ≤ n ∧ n ≤ 480000 ∧ -100000 ≤ k ∧ k ≤ 100000 := fun h => by have h9 := h_6.out; have h10 := h_7.out; have h11 := hsv s1.toNat (by omega); omega
  refine lv_aload_n hx hb dX3_act_0 rfl (lv_at hl 0 rfl) ?_
  refine lv_iload_n hx hb dX3_act_1 rfl (lv_at hl 1 rfl) ?_
  obtain ⟨r1, hr1⟩ := bex (a < 0 ∨ 5 < a)
  refine c_P (As := [.int (iI a)]) (rest := [.ref (w 0)]) fx hl (pm_X3_isNo l a r1 hr1 (by omega)) dX3_act_2 k1113 k1114 k6 k1115 hd_X3_isNo rfl ⟨by decide, by decide⟩ (Nat.le_of_ble_eq_true rfl) ⟨by dsimp only; omega, by dsimp only; omega⟩ ?_
  have br1 : r1 = 0 ∨ r1 = 1 := hr1.elim (fun h => Or.inr h.1) (fun h => Or.inl h.1)
  refine q_ine (tgt := 15) hx hb dX3_act_5 (by decide) (by omega) (fun c2 => ?_) (fun c2 => ?_)
  · exact (show False by omega).elim
  · refine lv_iload_n hx hb dX3_act_8 rfl (lv_at hl 2 rfl) ?_
    obtain ⟨r3, hr3⟩ := bex (s1 < 0 ∨ 2 < s1)
    refine c_P (As := [.int (iI s1)]) (rest := [.ref (w 0)]) fx hl (pm_X3_isNoSpan l s1 r3 hr3 (by omega)) dX3_act_9 k1207 k1208 k6 k1209 hd_X3_isNoSpan rfl ⟨by decide, by decide⟩ (Nat.le_of_ble_eq_true rfl) ⟨by dsimp only; omega, by dsimp only; omega⟩ ?_
    have br3 : r3 = 0 ∨ r3 = 1 := hr3.elim (fun h => Or.inr h.1) (fun h => Or.inl h.1)
    refine q_ieq (tgt := 19) hx hb dX3_act_12 (by decide) (by omega) (fun c4 => ?_) (fun c4 => ?_)
    · refine q_con hx hb dX3_act_19 ?_
      refine q_con hx hb dX3_act_20 ?_
      refine q_con hx hb dX3_act_21 ?_
      obtain ⟨t5, f6, hq1t5, hq2t5⟩ := fails_ex 0 0 0 (by omega) (by omega) (by omega)
      have hmw : MWR θ S0 w s.heap r q dt sv th dn rf kn := ⟨hz, hu, hm, hd, hsv⟩
      refine c_M (w := w) (As := [.int (iI 0), .int (iI 0), .int (iI 0)]) (rest := []) (b := w 0) (C := RX3) fx hl (mw_fails θ l S0 _ w _ _ _ _ _ _ _ _ hmw 0 0 0 t5 f6 (by omega) hq1t5 hq2t5) (ob_recv hK hm.1 rfl) dX3_act_22 k1119 k1121 ks10 k6 k1122 hd_X3_fails rfl ⟨by decide, by decide⟩ (Nat.le_of_ble_eq_true rfl) ⟨by dsimp only; omega, by dsimp only; omega⟩ hS (fun x hx => hx ▸ Or.inl (Or.inl rfl)) (fun H7 locs hmH7 hszH7 hk0H7 hS => ?_)
      have hkH7 : ∀ x : Nat, x < (s.heap).size → ¬ x = w 0 → H7[x]? = (s.heap)[x]? := hk0H7
      have hzH7 := hz0.at hAB hS
      have hltH7 := hmH7.lt
      refine q_ieq (tgt := 30) hx hb dX3_act_25 (by decide) (by omega) (fun c8 => ?_) (fun c8 => ?_)
      · refine lv_aload_n hx hb dX3_act_30 rfl (lv_at hl 0 rfl) ?_
        refine lv_iload_n hx hb dX3_act_31 rfl (lv_at hl 1 rfl) ?_
        refine lv_aload_n hx hb dX3_act_32 rfl (lv_at hl 0 rfl) ?_
        refine lv_aload_n hx hb dX3_act_33 rfl (lv_at hl 0 rfl) ?_
        refine r_get (θ := θ) (C := RX3) (T := TX3) (N := 6) (ci := 9) hx hb hts gwX3 hown hK hmH7.1 rfl 4 (by decide) k1094 (fun _ h => h) (v := .ref (w 1)) rfl dX3_act_34 ?_
        refine lv_iload_n hx hb dX3_act_37 rfl (lv_at hl 1 rfl) ?_
        refine r_aald (θ := θ) hx hb hK hmH7.2.1 (i := a) (by omega) (by decide) dX3_act_38 ?_
        have rw9 := (hmH7.2.2.2.1 (a.toNat) (by omega)).1
        have rw9n := (hmH7.2.2.2.1 (a.toNat) (by omega)).2
        have rw9t := hd (a.toNat) (by omega)
        have rw9l := rw9.lt
        have rw9i := inR rw9t
        have rw9m := inM rw9i
        have rw9d := dI_b (dt a.toNat)
        refine lv_iload_n hx hb dX3_act_39 rfl (lv_at hl 2 rfl) ?_
        refine lv_iload_n hx hb dX3_act_40 rfl (lv_at hl 3 rfl) ?_
        refine lv_iload hx hb dX3_act_41 (lv_at hl 4 rfl) ?_
        refine q_ieq (tgt := 50) hx hb dX3_act_43 (by decide) (by omega) (fun c10 => ?_) (fun c10 => ?_)
        · refine q_con hx hb dX3_act_50 ?_
          have hmw : MWR θ S0 w H7 r q dt sv t5 dn rf kn := ⟨hzH7, hu, hmH7, hd, hsv⟩
          refine c_MR (θ := θ) (d := z0) (As := [.ref (r a.toNat), .int (iI s1), .int (iI f), .int (iI 1)]) (rest := [.int (iI a), .ref (w 0)]) (b := w 0) (C := RX3) fx hl (mw_acted θ l S0 _ w _ _ _ _ _ _ _ _ hmw (r a.toNat) s1 f 1 (dt a.toNat) n k z0 rw9 (by omega) (by omega) (by omega) (by omega) (by have h9 := h_6.out; have h10 := h_7.out; exact Hid.mk (by omega)) h_8) (ob_recv hK hmH7.1 rfl) dX3_act_51 k1210 k1212 ks13 k6 k1213 hd_X3_acted rfl ⟨by decide, by decide⟩ (Nat.le_of_ble_eq_true rfl) ⟨by dsimp only; omega, by dsimp only; omega⟩ hS (fun x hx => hAn x (Nat.le_trans hS.1 hx)) (fun q11 H12 locs hqH12 haH12 hszH12 hkH12 hS => ?_)
          have rw9_H12 := rw9.kept (hkH12 _ rw9.lt)
          have hzH12 := hz0.at hAB hS
          have hmH12 := hmH7.kept hkH12
          have hltH12 := haH12.lt
          have hluH12 := hmH12.lt
          have tac1 : -420000000 ≤ z0 ∧ z0 ≤ 420000000 := by have h9 := h_8.out; have h10 := shI_bd (dt a.toNat + k) n; have h11 := shI_bd (dt a.toNat) n; omega
          refine q_con hx hb dX3_act_54 ?_
          have hmw : MWR θ S0 w H12 r q dt sv t5 dn rf kn := ⟨hzH12, hu, hmH12, hd, hsv⟩
          refine c_M (w := w) (As := [.int (iI a), .ref q11, .int (iI 2)]) (rest := []) (b := w 0) (C := RX3) fx hl (mw_become_no θ l S0 _ w _ _ _ _ _ _ _ _ hmw a q11 2 z0 haH12 ⟨by omega, by omega, by omega⟩ (by omega) (by omega) (by omega)) (ob_recv hK hmH12.1 rfl) dX3_act_55 k1126 k1128 ks11 k6 k1129 hd_X3_become rfl ⟨by decide, by decide⟩ (Nat.le_of_ble_eq_true rfl) ⟨by dsimp only; omega, by dsimp only; omega⟩ hS (fun x hx => hx.elim (fun e => Or.inl (Or.inl e)) (fun e => Or.inl (Or.inr (Or.inl e)))) (fun H13 locs hmH13 hszH13 hk0H13 hS => ?_)
          have hkH13 : ∀ x : Nat, x < (H12).size → ¬ (x = w 0 ∨ x = w 1) → H13[x]? = (H12)[x]? := hk0H13
          have haH12_H13 := haH12.kept (hkH13 _ haH12.lt (by omega))
          have hzH13 := hz0.at hAB hS
          have hltH13 := hmH13.lt
          refine q_ieq (tgt := 69) hx hb dX3_act_58 (by decide) (by omega) (fun c14 => ?_) (fun c14 => ?_)
          · refine q_con hx hb dX3_act_69 ?_
            have hmw : MWR θ S0 w H13 r q dt sv 2 dn rf kn := ⟨hzH13, hu, hmH13, hd, hsv⟩
            exact e_i hx hb hr hlk hS dX3_act_70 (Nat.le_of_ble_eq_true rfl) (Nat.le_of_ble_eq_true rfl) ⟨ex_i (by omega), r, q, by first | exact hmw | (subst_vars; exact hmw) | (simp only [inI_self, inI_1, inI_31] at hmw; subst_vars; exact hmw), by first | exact nw_rf | exact nw_up (by omega) | exact nw_up2 (by omega), by first | exact nw_rf | exact nw_up (by omega) | exact nw_up2 (by omega)⟩
          · exact (show False by omega).elim
        · refine q_con hx hb dX3_act_46 ?_
          refine lv_goto (tgt := 51) hx hb dX3_act_47 (by decide) ?_
          have hmw : MWR θ S0 w H7 r q dt sv t5 dn rf kn := ⟨hzH7, hu, hmH7, hd, hsv⟩
          refine c_MR (θ := θ) (d := z0) (As := [.ref (r a.toNat), .int (iI s1), .int (iI f), .int (iI (-1))]) (rest := [.int (iI a), .ref (w 0)]) (b := w 0) (C := RX3) fx hl (mw_acted θ l S0 _ w _ _ _ _ _ _ _ _ hmw (r a.toNat) s1 f (-1) (dt a.toNat) n k z0 rw9 (by omega) (by omega) (by omega) (by omega) (by have h9 := h_6.out; have h10 := h_7.out; exact Hid.mk (by omega)) h_8) (ob_recv hK hmH7.1 rfl) dX3_act_51 k1210 k1212 ks13 k6 k1213 hd_X3_acted rfl ⟨by decide, by decide⟩ (Nat.le_of_ble_eq_true rfl) ⟨by dsimp only; omega, by dsimp only; omega⟩ hS (fun x hx => hAn x (Nat.le_trans hS.1 hx)) (fun q15 H16 locs hqH16 haH16 hszH16 hkH16 hS => ?_)
          have rw9_H16 := rw9.kept (hkH16 _ rw9.lt)
          have hzH16 := hz0.at hAB hS
          have hmH16 := hmH7.kept hkH16
          have hltH16 := haH16.lt
          have hluH16 := hmH16.lt
          have tac1 : -420000000 ≤ z0 ∧ z0 ≤ 420000000 := by have h9 := h_8.out; have h10 := shI_bd (dt a.toNat + k) n; have h11 := shI_bd (dt a.toNat) n; omega
          refine q_con hx hb dX3_act_54 ?_
          have hmw : MWR θ S0 w H16 r q dt sv t5 dn rf kn := ⟨hzH16, hu, hmH16, hd, hsv⟩
          refine c_M (w := w) (As := [.int (iI a), .ref q15, .int (iI 2)]) (rest := []) (b := w 0) (C := RX3) fx hl (mw_become_no θ l S0 _ w _ _ _ _ _ _ _ _ hmw a q15 2 z0 haH16 ⟨by omega, by omega, by omega⟩ (by omega) (by omega) (by omega)) (ob_recv hK hmH16.1 rfl) dX3_act_55 k1126 k1128 ks11 k6 k1129 hd_X3_become rfl ⟨by decide, by decide⟩ (Nat.le_of_ble_eq_true rfl) ⟨by dsimp only; omega, by dsimp only; omega⟩ hS (fun x hx => hx.elim (fun e => Or.inl (Or.inl e)) (fun e => Or.inl (Or.inr (Or.inl e)))) (fun H17 locs hmH17 hszH17 hk0H17 hS => ?_)
          have hkH17 : ∀ x : Nat, x < (H16).size → ¬ (x = w 0 ∨ x = w 1) → H17[x]? = (H16)[x]? := hk0H17
          have haH16_H17 := haH16.kept (hkH17 _ haH16.lt (by omega))
          have hzH17 := hz0.at hAB hS
          have hltH17 := hmH17.lt
          refine q_ieq (tgt := 69) hx hb dX3_act_58 (by decide) (by omega) (fun c18 => ?_) (fun c18 => ?_)
          · refine q_con hx hb dX3_act_69 ?_
            have hmw : MWR θ S0 w H17 r q dt sv 2 dn rf kn := ⟨hzH17, hu, hmH17, hd, hsv⟩
            exact e_i hx hb hr hlk hS dX3_act_70 (Nat.le_of_ble_eq_true rfl) (Nat.le_of_ble_eq_true rfl) ⟨ex_i (by omega), r, q, by first | exact hmw | (subst_vars; exact hmw) | (simp only [inI_self, inI_1, inI_31] at hmw; subst_vars; exact hmw), by first | exact nw_rf | exact nw_up (by omega) | exact nw_up2 (by omega), by first | exact nw_rf | exact nw_up (by omega) | exact nw_up2 (by omega)⟩
          · exact (show False by omega).elim
      · exact (show False by omega).elim
    · exact (show False by omega).elim
