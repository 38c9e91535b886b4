set_option maxHeartbeats 4000000 in
set_option maxRecDepth 100000 in
theorem mr_anniversary (θ : TH) (l : Launch) (S0 : State) (H : Heap) (w : Nat → Nat) (r q : Nat → Nat) (dt : Nat → Int) (sv : Nat → Nat → Int) (th dn rf kn : Int) (hw : MWR θ S0 w H r q dt sv th dn rf kn) (a n g : Int) (h_0 : 0 ≤ a ∧ a < 6) (h_1 : -100000 ≤ n ∧ n ≤ 100000) (h_2 : g = 0 ∨ g = 1) : CT l yX3_anniversary cX3_anniversary 6 (some .int) 5 107 0 0 [.ref (w 0), .int (iI a), .int (iI n), .int (iI g)] S0 H (fun v H1 => v = some (.int (iI (anI (dt a.toNat) n g))) ∧ H1 = H) (fun _ _ => False) (fun _ => False) := by
  refine ct_of (by decide +kernel) (Nat.le_of_ble_eq_true rfl) ?_
  intro pg en s mi args below meth co ls fx hs hr hlk hxt hin hl
  subst hs
  obtain ⟨hx, hb, hml, hown, hts⟩ := id fx.1
  have hS : va_S (fun _ : Nat => False) s.heap s.heap [] := va_S.rf
  obtain ⟨hz, hu, hm, hd, hsv⟩ := id hw
  have hAB : ∀ x : Nat, (fun _ : Nat => False) x → θ.2.2.2 ≤ x := fun _ h => h.elim
  have hz0 := hz
  have hK := sz_K fx.2 hz
  have hlt0 := hm.lt
  have hu1 := hu.1
  have tv := an_v (dt a.toNat) n g h_2
  refine lv_aload_n hx hb dX3_anniversary_0 rfl (lv_at hl 0 rfl) ?_
  refine r_get (θ := θ) (C := RX3) (T := TX3) (N := 6) (ci := 9) hx hb hts gwX3 hown hK hm.1 rfl 4 (by decide) k1094 (fun _ h => h) (v := .ref (w 1)) rfl dX3_anniversary_1 ?_
  refine lv_iload_n hx hb dX3_anniversary_4 rfl (lv_at hl 1 rfl) ?_
  refine r_aald (θ := θ) hx hb hK hm.2.1 (i := a) (by omega) (by decide) dX3_anniversary_5 ?_
  have rw1 := (hm.2.2.2.1 (a.toNat) (by omega)).1
  have rw1n := (hm.2.2.2.1 (a.toNat) (by omega)).2
  have rw1t := hd (a.toNat) (by omega)
  have rw1l := rw1.lt
  have rw1i := inR rw1t
  have rw1m := inM rw1i
  have rw1d := dI_b (dt a.toNat)
  refine lv_astore (lv' := [(4, .ref (r a.toNat)), (0, .ref (w 0)), (1, .int (iI a)), (2, .int (iI n)), (3, .int (iI g))]) hx hb dX3_anniversary_6 hl (by decide) rfl (fun ls hl => ?_)
  refine lv_aload hx hb dX3_anniversary_8 (lv_at hl 0 rfl) ?_
  refine q_con hx hb dX3_anniversary_10 ?_
  refine r_iald (θ := θ) hx hb hK rw1 (i := 0) (by omega) (by decide) dX3_anniversary_11 ?_
  refine q_as (mI (dt a.toNat)) rfl ?_
  refine q_bip hx hb dX3_anniversary_12 (by decide) ?_
  refine lv_iload_n hx hb dX3_anniversary_14 rfl (lv_at hl 3 rfl) ?_
  refine q_mul hx hb dX3_anniversary_15 ?_
  refine q_add hx hb dX3_anniversary_16 ?_
  refine q_nm (fun z2 ez2 => ?_)
  refine lv_istore (lv' := [(5, .int (iI z2)), (4, .ref (r a.toNat)), (0, .ref (w 0)), (1, .int (iI a)), (2, .int (iI n)), (3, .int (iI g))]) hx hb dX3_anniversary_17 hl (by decide) rfl (fun ls hl => ?_)
  refine lv_aload hx hb dX3_anniversary_19 (lv_at hl 1 rfl) ?_
  refine q_con hx hb dX3_anniversary_21 ?_
  refine r_iald (θ := θ) hx hb hK rw1 (i := 1) (by omega) (by decide) dX3_anniversary_22 ?_
  refine q_as (dI (dt a.toNat)) rfl ?_
  refine lv_iload hx hb dX3_anniversary_23 (lv_at hl 0 rfl) ?_
  refine c_H (As := [.int (iI z2)]) (rest := [.int (iI (dI (dt a.toNat)))]) fx hl (pm_X3_length θ l S0 _ hz z2 (by omega)) dX3_anniversary_25 k1085 k1086 k6 k1087 hd_X3_length rfl ⟨by decide, by decide⟩ (Nat.le_of_ble_eq_true rfl) ⟨by dsimp only; omega, by dsimp only; omega⟩ ?_
  refine q_nm (fun z3 ez3 => ?_)
  have t0z3 := len_b z2
  refine q_cgt (tgt := 44) hx hb dX3_anniversary_28 (by decide) (by omega) (by omega) (fun c4 => ?_) (fun c4 => ?_)
  · refine lv_iload_n hx hb dX3_anniversary_44 rfl (lv_at hl 5 rfl) ?_
    refine q_ieq (tgt := 58) hx hb dX3_anniversary_45 (by decide) (by omega) (fun c5 => ?_) (fun c5 => ?_)
    · refine lv_iload hx hb dX3_anniversary_58 (lv_at hl 0 rfl) ?_
      refine c_H (As := [.int (iI z2)]) (rest := []) fx hl (pm_X3_begin θ l S0 _ hz z2 (by omega)) dX3_anniversary_60 k1136 k1137 k6 k1138 hd_X3_begin rfl ⟨by decide, by decide⟩ (Nat.le_of_ble_eq_true rfl) ⟨by dsimp only; omega, by dsimp only; omega⟩ ?_
      have t0z6 := fI_bd z2
      refine q_bip hx hb dX3_anniversary_63 (by decide) ?_
      refine q_add hx hb dX3_anniversary_65 ?_
      exact e_i hx hb hr hlk hS dX3_anniversary_66 (Nat.le_refl _) (Nat.le_refl _) ⟨ex_i (by subst_vars; (split at tv <;> (try split at tv) <;> omega)), rfl⟩
    · refine lv_iload hx hb dX3_anniversary_48 (lv_at hl 0 rfl) ?_
      refine q_con hx hb dX3_anniversary_50 ?_
      refine q_add hx hb dX3_anniversary_51 ?_
      refine c_H (As := [.int (iI (z2 + 1))]) (rest := []) fx hl (pm_X3_begin θ l S0 _ hz (z2 + 1) (by omega)) dX3_anniversary_52 k1136 k1137 k6 k1138 hd_X3_begin rfl ⟨by decide, by decide⟩ (Nat.le_of_ble_eq_true rfl) ⟨by dsimp only; omega, by dsimp only; omega⟩ ?_
      have t0z7 := fI_bd (z2 + 1)
      refine lv_goto (tgt := 66) hx hb dX3_anniversary_55 (by decide) ?_
      exact e_i hx hb hr hlk hS dX3_anniversary_66 (Nat.le_refl _) (Nat.le_refl _) ⟨ex_i (by subst_vars; (split at tv <;> (try split at tv) <;> omega)), rfl⟩
  · refine lv_iload hx hb dX3_anniversary_31 (lv_at hl 0 rfl) ?_
    refine c_H (As := [.int (iI z2)]) (rest := []) fx hl (pm_X3_begin θ l S0 _ hz z2 (by omega)) dX3_anniversary_33 k1136 k1137 k6 k1138 hd_X3_begin rfl ⟨by decide, by decide⟩ (Nat.le_of_ble_eq_true rfl) ⟨by dsimp only; omega, by dsimp only; omega⟩ ?_
    have t0z8 := fI_bd z2
    refine lv_aload hx hb dX3_anniversary_36 (lv_at hl 1 rfl) ?_
    refine q_con hx hb dX3_anniversary_38 ?_
    refine r_iald (θ := θ) hx hb hK rw1 (i := 1) (by omega) (by decide) dX3_anniversary_39 ?_
    refine q_as (dI (dt a.toNat)) rfl ?_
    refine q_add hx hb dX3_anniversary_40 ?_
    refine q_con hx hb dX3_anniversary_41 ?_
    refine q_sub hx hb dX3_anniversary_42 ?_
    exact e_i hx hb hr hlk hS dX3_anniversary_43 (Nat.le_refl _) (Nat.le_refl _) ⟨ex_i (by subst_vars; (split at tv <;> (try split at tv) <;> omega)), rfl⟩

set_option maxHeartbeats 4000000 in
set_option maxRecDepth 100000 in
theorem mr_isFar (θ : TH) (l : Launch) (S0 : State) (H : Heap) (w : Nat → Nat) (r q : Nat → Nat) (dt : Nat → Int) (sv : Nat → Nat → Int) (th dn rf kn : Int) (hw : MWR θ S0 w H r q dt sv th dn rf kn) (a b : Int) (r9 : Int) (hr0 : (r9 = 1 ∧ (dt b.toNat - dt a.toNat < 0 ∨ 40000 < dt b.toNat - dt a.toNat)) ∨ (r9 = 0 ∧ ¬ (dt b.toNat - dt a.toNat < 0 ∨ 40000 < dt b.toNat - dt a.toNat))) (h_0 : 0 ≤ a ∧ a < 6) (h_1 : 0 ≤ b ∧ b < 6) : CT l yX3_isFar cX3_isFar 3 (some .boolean) 7 148 0 0 [.ref (w 0), .int (iI a), .int (iI b)] S0 H (fun v H1 => v = some (.int (iI r9)) ∧ H1 = H) (fun _ _ => False) (fun _ => False) := by
  refine ct_of (by decide +kernel) (Nat.le_of_ble_eq_true rfl) ?_
  intro pg en s mi args below meth co ls fx hs hr hlk hxt hin hl
  subst hs
  obtain ⟨hx, hb, hml, hown, hts⟩ := id fx.1
  have hS : va_S (fun _ : Nat => False) s.heap s.heap [] := va_S.rf
  obtain ⟨hz, hu, hm, hd, hsv⟩ := id hw
  have hAB : ∀ x : Nat, (fun _ : Nat => False) x → θ.2.2.2 ≤ x := fun _ h => h.elim
  have hz0 := hz
  have hK := sz_K fx.2 hz
  have hlt0 := hm.lt
  have hu1 := hu.1
  refine lv_aload_n hx hb dX3_isFar_0 rfl (lv_at hl 0 rfl) ?_
  refine lv_iload_n hx hb dX3_isFar_1 rfl (lv_at hl 2 rfl) ?_
  have hmw : MWR θ S0 w s.heap r q dt sv th dn rf kn := ⟨hz, hu, hm, hd, hsv⟩
  refine c_HV (As := [.int (iI b)]) (rest := []) (b := w 0) (C := RX3) fx hl (mr_became θ l S0 _ w _ _ _ _ _ _ _ _ hmw b (by omega)) (ob_recv hK hm.1 rfl) dX3_isFar_2 k1141 k1143 ks12 k6 k1144 hd_X3_became rfl ⟨by decide, by decide⟩ (Nat.le_of_ble_eq_true rfl) ⟨by dsimp only; omega, by dsimp only; omega⟩ ?_
  have t0z1 := hd b.toNat (by omega)
  refine lv_aload_n hx hb dX3_isFar_5 rfl (lv_at hl 0 rfl) ?_
  refine lv_iload_n hx hb dX3_isFar_6 rfl (lv_at hl 1 rfl) ?_
  have hmw : MWR θ S0 w s.heap r q dt sv th dn rf kn := ⟨hz, hu, hm, hd, hsv⟩
  refine c_HV (As := [.int (iI a)]) (rest := [.int (iI (dt b.toNat))]) (b := w 0) (C := RX3) fx hl (mr_became θ l S0 _ w _ _ _ _ _ _ _ _ hmw a (by omega)) (ob_recv hK hm.1 rfl) dX3_isFar_7 k1141 k1143 ks12 k6 k1144 hd_X3_became rfl ⟨by decide, by decide⟩ (Nat.le_of_ble_eq_true rfl) ⟨by dsimp only; omega, by dsimp only; omega⟩ ?_
  have t0z2 := hd a.toNat (by omega)
  refine q_sub hx hb dX3_isFar_10 ?_
  refine q_con hx hb dX3_isFar_11 ?_
  refine q_ldc (n := 40000) hx hb hown (hts _ k1523) (by decide) dX3_isFar_12 ?_
  obtain ⟨r3, hr3⟩ := bex (((dt b.toNat) - (dt a.toNat)) < 0 ∨ 40000 < ((dt b.toNat) - (dt a.toNat)))
  refine c_P (As := [.int (iI ((dt b.toNat) - (dt a.toNat))), .int (iI 0), .int (iI 40000)]) (rest := []) fx hl (pm_X3_isOut l ((dt b.toNat) - (dt a.toNat)) 0 40000 r3 hr3 (by omega) (by omega) (by omega)) dX3_isFar_14 k1116 k1117 k6 k1118 hd_X3_isOut rfl ⟨by decide, by decide⟩ (Nat.le_of_ble_eq_true rfl) ⟨by dsimp only; omega, by dsimp only; omega⟩ ?_
  have br3 : r3 = 0 ∨ r3 = 1 := hr3.elim (fun h => Or.inr h.1) (fun h => Or.inl h.1)
  exact e_z hx hb hr hlk (br3) hS dX3_isFar_17 (Nat.le_refl _) (Nat.le_refl _) ⟨ex_i (by omega), rfl⟩

set_option maxHeartbeats 4000000 in
set_option maxRecDepth 100000 in
theorem mw_no (θ : TH) (l : Launch) (S0 : State) (H : Heap) (w : Nat → Nat) (r q : Nat → Nat) (dt : Nat → Int) (sv : Nat → Nat → Int) (th dn rf kn : Int) (hw : MWR θ S0 w H r q dt sv th dn rf kn) : CT l yX3_no cX3_no 1 (some .int) 0 0 0 0 [.ref (w 0)] S0 H (fun v9 H1 => v9 = some (.int (iI (-9))) ∧ MW θ w H1 r q dt sv th dn (rf + 1) kn) (fun _ _ => False) (fun x => x = w 0) := by
  refine ct_of (by decide +kernel) (Nat.le_of_ble_eq_true rfl) ?_
  intro pg en s mi args below meth co ls fx hs hr hlk hxt hin hl
  subst hs
  obtain ⟨hx, hb, hml, hown, hts⟩ := id fx.1
  have hS : va_S (fun x : Nat => x = w 0) s.heap s.heap [] := va_S.rf
  obtain ⟨hz, hu, hm, hd, hsv⟩ := id hw
  have hAB : ∀ x : Nat, (fun x : Nat => x = w 0) x → θ.2.2.2 ≤ x := fun x h => h ▸ hu.2.1
  have hz0 := hz
  have hK := sz_K fx.2 hz
  have hlt0 := hm.lt
  have hu1 := hu.1
  refine lv_aload_n hx hb dX3_no_0 rfl (lv_at hl 0 rfl) ?_
  refine lv_dup hx hb dX3_no_1 rfl ?_
  refine r_get (θ := θ) (C := RX3) (T := TX3) (N := 6) (ci := 9) hx hb hts gwX3 hown hK hm.1 rfl 2 (by decide) k1092 (fun _ h => h) (v := .int (iI rf)) rfl dX3_no_2 ?_
  refine q_con hx hb dX3_no_5 ?_
  refine q_add hx hb dX3_no_6 ?_
  refine r_put (θ := θ) (A := (fun x : Nat => x = w 0)) (C := RX3) (T := TX3) (N := 6) (ci := 9) (v := .int (iI (rf + 1))) (ty := .int) hx hb hts gwX3 tyX3 tyX3_ok nmX3 hown hK hm.1 rfl hS rfl 2 (by decide) k1092 (fun _ h => h) rfl (by decide +kernel) rfl rfl (Nat.le_of_ble_eq_true rfl) dX3_no_7 (fun H1 locs hoH1 hszH1 hkH1 hS => ?_)
  have hmH1 : MW θ w H1 r q dt sv th dn (rf + 1) kn := hm.obj hu hoH1 hkH1
  have hzH1 := hz0.at hAB hS
  refine q_bip hx hb dX3_no_10 (by decide) ?_
  exact e_i hx hb hr hlk hS dX3_no_12 (Nat.le_refl _) (Nat.le_refl _) ⟨rfl, hmH1⟩

set_option maxHeartbeats 4000000 in
set_option maxRecDepth 100000 in
theorem mr_came (θ : TH) (l : Launch) (S0 : State) (H : Heap) (w : Nat → Nat) (r q : Nat → Nat) (dt : Nat → Int) (sv : Nat → Nat → Int) (th dn rf kn : Int) (hw : MWR θ S0 w H r q dt sv th dn rf kn) (a b g : Int) (h_0 : 0 ≤ a ∧ a < 6) (h_1 : 0 ≤ b ∧ b < 6) (h_2 : g = 0 ∨ g = 1) (h_3 : dt a.toNat ≤ dt b.toNat) : CT l yX3_came cX3_came 5 (some .int) 7 148 0 0 [.ref (w 0), .int (iI a), .int (iI b), .int (iI g)] S0 H (fun v H1 => v = some (.int (iI (unI (dt a.toNat) (dt b.toNat) g))) ∧ H1 = H) (fun _ _ => False) (fun _ => False) := by
  refine ct_of (by decide +kernel) (Nat.le_of_ble_eq_true rfl) ?_
  intro pg en s mi args below meth co ls fx hs hr hlk hxt hin hl
  subst hs
  obtain ⟨hx, hb, hml, hown, hts⟩ := id fx.1
  have hS : va_S (fun _ : Nat => False) s.heap s.heap [] := va_S.rf
  obtain ⟨hz, hu, hm, hd, hsv⟩ := id hw
  have hAB : ∀ x : Nat, (fun _ : Nat => False) x → θ.2.2.2 ≤ x := fun _ h => h.elim
  have hz0 := hz
  have hK := sz_K fx.2 hz
  have hlt0 := hm.lt
  have hu1 := hu.1
  refine q_con hx hb dX3_came_0 ?_
  refine lv_istore (lv' := [(4, .int (iI 0)), (0, .ref (w 0)), (1, .int (iI a)), (2, .int (iI b)), (3, .int (iI g))]) hx hb dX3_came_1 hl (by decide) rfl (fun ls hl => ?_)
  refine w_loop (nL := 5) (σ := Int) (fun x => (30001 - x).toNat) (fun x => (0 ≤ x ∧ x ≤ 30000) ∧ (anI (dt a.toNat) x g ≤ dt b.toNat)) (fun x => [(4, .int (iI x)), (0, .ref (w 0)), (1, .int (iI a)), (2, .int (iI b)), (3, .int (iI g))]) ?_ (0 : Int) ⟨by (try dsimp only); first | omega | assumption | (rw [an_0]; omega), by (try dsimp only); first | omega | assumption | (rw [an_0]; omega)⟩ (lv_sub hl [0, 1, 2, 3, 4] rfl)
  intro x hI3 ih3 ls hl
  obtain ⟨n, rfl⟩ : ∃ z, z = x := ⟨_, rfl⟩
  (try dsimp only at hI3 ih3 hl ⊢)
  have tu := fun h => un_u (q := g) (n := n) h_3 hI3.2 h
  have tb := mI_s (dt b.toNat)
  have ta := inR (hd a.toNat (by omega))
  have tc := inR (hd b.toNat (by omega))
  have te := inM ta
  have ti := len_b (mI (dt a.toNat))
  have tf := fI_mono (a := mI (dt b.toNat) + 1) (b := mI (dt a.toNat) + 12 * (n + 1))
  have tg := fI_mono (a := mI (dt a.toNat)) (b := mI (dt a.toNat) + 12 * (n + 1)) (by omega)
  have th1 := len_b (mI (dt a.toNat) + 12 * (n + 1))
  refine lv_aload_n hx hb dX3_came_3 rfl (lv_at hl 1 rfl) ?_
  refine lv_iload_n hx hb dX3_came_4 rfl (lv_at hl 2 rfl) ?_
  refine lv_iload hx hb dX3_came_5 (lv_at hl 0 rfl) ?_
  refine q_con hx hb dX3_came_7 ?_
  refine q_add hx hb dX3_came_8 ?_
  refine lv_iload_n hx hb dX3_came_9 rfl (lv_at hl 4 rfl) ?_
  have hmw : MWR θ S0 w s.heap r q dt sv th dn rf kn := ⟨hz, hu, hm, hd, hsv⟩
  refine c_HV (As := [.int (iI a), .int (iI (n + 1)), .int (iI g)]) (rest := []) (b := w 0) (C := RX3) fx hl (mr_anniversary θ l S0 _ w _ _ _ _ _ _ _ _ hmw a (n + 1) g (by omega) (by omega) (by omega)) (ob_recv hK hm.1 rfl) dX3_came_10 k1532 k1534 ks28 k6 k1535 hd_X3_anniversary rfl ⟨by decide, by decide⟩ (Nat.le_of_ble_eq_true rfl) ⟨by dsimp only; omega, by dsimp only; omega⟩ ?_
  have t0z1 := an_m (dt a.toNat) (n + 1) g
  refine lv_aload_n hx hb dX3_came_13 rfl (lv_at hl 1 rfl) ?_
  refine lv_iload_n hx hb dX3_came_14 rfl (lv_at hl 3 rfl) ?_
  have hmw : MWR θ S0 w s.heap r q dt sv th dn rf kn := ⟨hz, hu, hm, hd, hsv⟩
  refine c_HV (As := [.int (iI b)]) (rest := [.int (iI (anI (dt a.toNat) (n + 1) g))]) (b := w 0) (C := RX3) fx hl (mr_became θ l S0 _ w _ _ _ _ _ _ _ _ hmw b (by omega)) (ob_recv hK hm.1 rfl) dX3_came_15 k1141 k1143 ks12 k6 k1144 hd_X3_became rfl ⟨by decide, by decide⟩ (Nat.le_of_ble_eq_true rfl) ⟨by dsimp only; omega, by dsimp only; omega⟩ ?_
  have t0z2 := hd b.toNat (by omega)
  refine q_cgt (tgt := 27) hx hb dX3_came_18 (by decide) (by omega) (by omega) (fun c3 => ?_) (fun c3 => ?_)
  · refine lv_iload hx hb dX3_came_27 (lv_at hl 0 rfl) ?_
    exact e_i hx hb hr hlk hS dX3_came_29 (Nat.le_refl _) (Nat.le_refl _) ⟨ex_i (by exact tu (by omega)), rfl⟩
  · refine lv_iinc (v := iI (n + 1)) (lv' := [(4, .int (iI (n + 1))), (0, .ref (w 0)), (1, .int (iI a)), (2, .int (iI b)), (3, .int (iI g))]) hx hb dX3_came_21 hl (k := 0) rfl (iI_add _ _) (by decide) rfl (fun ls hl => ?_)
    refine lv_goto (tgt := 3) hx hb dX3_came_24 (by decide) ?_
    exact ih3 (n + 1) _ ⟨by (try dsimp only); first | omega | assumption | (rw [an_0]; omega), by (try dsimp only); first | omega | assumption | (rw [an_0]; omega)⟩ (by (try dsimp only); omega) (lv_sub hl [0, 1, 2, 3, 4] rfl)

set_option maxHeartbeats 4000000 in
set_option maxRecDepth 100000 in
theorem mok_anniversaries (θ : TH) (l : Launch) (S0 : State) (H : Heap) (w : Nat → Nat) (r q : Nat → Nat) (dt : Nat → Int) (sv : Nat → Nat → Int) (th dn rf kn : Int) (hw : MWR θ S0 w H r q dt sv th dn rf kn) (a b g : Int) (h_0 : -2147483648 ≤ a ∧ a < 2147483648) (h_1 : -2147483648 ≤ b ∧ b < 2147483648) (h_2 : -2147483648 ≤ g ∧ g < 2147483648) (h_3 : 0 ≤ g ∧ g ≤ 1) (h_4 : 0 ≤ a ∧ a < 6) (h_5 : 0 ≤ b ∧ b < 6) (h_6 : ¬ (dt b.toNat < dt a.toNat ∨ 40000 < dt b.toNat - dt a.toNat)) : CT l yX3_anniversaries cX3_anniversaries 4 (some .int) 8 172 0 0 [.ref (w 0), .int (iI a), .int (iI b), .int (iI g)] S0 H (fun v9 H1 => v9 = some (.int (iI (unI (dt a.toNat) (dt b.toNat) g))) ∧ ∃ r1 q1 : Nat → Nat, MWR θ S0 w H1 r1 q1 dt sv 0 dn rf kn ∧ NW 6 H.size r r1 ∧ NW 3 H.size q q1) (fun _ _ => False) (WA w H.size) := by
  refine ct_of (by decide +kernel) (Nat.le_of_ble_eq_true rfl) ?_
  intro pg en s mi args below meth co ls fx hs hr hlk hxt hin hl
  subst hs
  obtain ⟨hx, hb, hml, hown, hts⟩ := id fx.1
  have hS : va_S (WA w s.heap.size) s.heap s.heap [] := va_S.rf
  obtain ⟨hz, hu, hm, hd, hsv⟩ := id hw
  have hAB : ∀ x : Nat, (WA w s.heap.size) x → θ.2.2.2 ≤ x := wa_b hu hz.2.1
  have hz0 := hz
  have hK := sz_K fx.2 hz
  have hlt0 := hm.lt
  have hu1 := hu.1
  have hAn : ∀ x : Nat, s.heap.size ≤ x → (WA w s.heap.size) x := fun _ h => Or.inr h
  have ta := inR (hd a.toNat (by omega))
  have tb := inR (hd b.toNat (by omega))
  refine lv_aload_n hx hb dX3_anniversaries_0 rfl (lv_at hl 0 rfl) ?_
  refine lv_iload_n hx hb dX3_anniversaries_1 rfl (lv_at hl 1 rfl) ?_
  refine lv_iload_n hx hb dX3_anniversaries_2 rfl (lv_at hl 2 rfl) ?_
  obtain ⟨r1, hr1⟩ := bex ((a < 0 ∨ 5 < a) ∨ (b < 0 ∨ 5 < b))
  refine c_P (As := [.int (iI a), .int (iI b)]) (rest := [.ref (w 0)]) fx hl (pm_X3_areNo l a b r1 hr1 (by omega) (by omega)) dX3_anniversaries_3 k1162 k1163 k6 k1164 hd_X3_areNo rfl ⟨by decide, by decide⟩ (Nat.le_of_ble_eq_true rfl) ⟨by dsimp only; omega, by dsimp only; omega⟩ ?_
  have br1 : r1 = 0 ∨ r1 = 1 := hr1.elim (fun h => Or.inr h.1) (fun h => Or.inl h.1)
  refine q_con hx hb dX3_anniversaries_6 ?_
  refine q_con hx hb dX3_anniversaries_7 ?_
  obtain ⟨t2, f3, hq1t2, hq2t2⟩ := fails_ex r1 0 0 (by omega) (by omega) (by omega)
  have hmw : MWR θ S0 w s.heap r q dt sv th dn rf kn := ⟨hz, hu, hm, hd, hsv⟩
  refine c_M (w := w) (As := [.int (iI r1), .int (iI 0), .int (iI 0)]) (rest := []) (b := w 0) (C := RX3) fx hl (mw_fails θ l S0 _ w _ _ _ _ _ _ _ _ hmw r1 0 0 t2 f3 (by omega) hq1t2 hq2t2) (ob_recv hK hm.1 rfl) dX3_anniversaries_8 k1119 k1121 ks10 k6 k1122 hd_X3_fails rfl ⟨by decide, by decide⟩ (Nat.le_of_ble_eq_true rfl) ⟨by dsimp only; omega, by dsimp only; omega⟩ hS (fun x hx => hx ▸ Or.inl (Or.inl rfl)) (fun H4 locs hmH4 hszH4 hk0H4 hS => ?_)
  have hkH4 : ∀ x : Nat, x < (s.heap).size → ¬ x = w 0 → H4[x]? = (s.heap)[x]? := hk0H4
  have hzH4 := hz0.at hAB hS
  have hltH4 := hmH4.lt
  refine q_ieq (tgt := 16) hx hb dX3_anniversaries_11 (by decide) (by omega) (fun c5 => ?_) (fun c5 => ?_)
  · refine lv_aload_n hx hb dX3_anniversaries_16 rfl (lv_at hl 0 rfl) ?_
    refine lv_iload_n hx hb dX3_anniversaries_17 rfl (lv_at hl 1 rfl) ?_
    refine lv_iload_n hx hb dX3_anniversaries_18 rfl (lv_at hl 2 rfl) ?_
    obtain ⟨r6, hr6⟩ := bex (dt b.toNat - dt a.toNat < 0 ∨ 40000 < dt b.toNat - dt a.toNat)
    have hmw : MWR θ S0 w H4 r q dt sv t2 dn rf kn := ⟨hzH4, hu, hmH4, hd, hsv⟩
    refine c_HV (As := [.int (iI a), .int (iI b)]) (rest := []) (b := w 0) (C := RX3) fx hl (mr_isFar θ l S0 _ w _ _ _ _ _ _ _ _ hmw a b r6 hr6 (by omega) (by omega)) (ob_recv hK hmH4.1 rfl) dX3_anniversaries_19 k1519 k1521 ks25 k6 k1522 hd_X3_isFar rfl ⟨by decide, by decide⟩ (Nat.le_of_ble_eq_true rfl) ⟨by dsimp only; omega, by dsimp only; omega⟩ ?_
    have br6 : r6 = 0 ∨ r6 = 1 := hr6.elim (fun h => Or.inr h.1) (fun h => Or.inl h.1)
    refine q_ieq (tgt := 32) hx hb dX3_anniversaries_22 (by decide) (by omega) (fun c7 => ?_) (fun c7 => ?_)
    · refine lv_aload_n hx hb dX3_anniversaries_32 rfl (lv_at hl 0 rfl) ?_
      refine lv_iload_n hx hb dX3_anniversaries_33 rfl (lv_at hl 1 rfl) ?_
      refine lv_iload_n hx hb dX3_anniversaries_34 rfl (lv_at hl 2 rfl) ?_
      refine lv_iload_n hx hb dX3_anniversaries_35 rfl (lv_at hl 3 rfl) ?_
      have hmw : MWR θ S0 w H4 r q dt sv t2 dn rf kn := ⟨hzH4, hu, hmH4, hd, hsv⟩
      refine c_HV (As := [.int (iI a), .int (iI b), .int (iI g)]) (rest := []) (b := w 0) (C := RX3) fx hl (mr_came θ l S0 _ w _ _ _ _ _ _ _ _ hmw a b g (by omega) (by omega) (by omega) (by omega)) (ob_recv hK hmH4.1 rfl) dX3_anniversaries_36 k1528 k1530 ks27 k6 k1531 hd_X3_came rfl ⟨by decide, by decide⟩ (Nat.le_of_ble_eq_true rfl) ⟨by dsimp only; omega, by dsimp only; omega⟩ ?_
      have t0z8 := un_b (dt a.toNat) (dt b.toNat) g
      obtain rfl : t2 = 0 := by omega
      have hmw : MWR θ S0 w H4 r q dt sv 0 dn rf kn := ⟨hzH4, hu, hmH4, hd, hsv⟩
      first | exact e_i hx hb hr hlk hS dX3_anniversaries_39 (Nat.le_of_ble_eq_true rfl) (Nat.le_of_ble_eq_true rfl) ⟨ex_i (by subst_vars; first | omega | (simp only [up_s, tri_0, tri_1, tri_2, inI_self, inI_1, inI_31]; done) | (simp only [up_s, tri_0, tri_1, tri_2, inI_self, inI_1, inI_31]; omega) | (simp only [up_s, tri_0, tri_1, tri_2]; subst_vars; first | rfl | omega)), r, q, by first | exact hmw | (subst_vars; exact hmw) | (simp only [inI_self, inI_1, inI_31] at hmw; subst_vars; exact hmw), by first | exact nw_rf | exact nw_up (by omega) | exact nw_up2 (by omega), by first | exact nw_rf | exact nw_up (by omega) | exact nw_up2 (by omega)⟩ | exact (show False by omega).elim
    · refine lv_aload_n hx hb dX3_anniversaries_25 rfl (lv_at hl 0 rfl) ?_
      have hmw : MWR θ S0 w H4 r q dt sv t2 dn rf kn := ⟨hzH4, hu, hmH4, hd, hsv⟩
      refine c_M (w := w) (As := []) (rest := []) (b := w 0) (C := RX3) fx hl (mw_no θ l S0 _ w _ _ _ _ _ _ _ _ hmw) (ob_recv hK hmH4.1 rfl) dX3_anniversaries_26 k1524 k1526 ks26 k6 k1527 hd_X3_no rfl ⟨by decide, by decide⟩ (Nat.le_of_ble_eq_true rfl) ⟨by dsimp only; omega, by dsimp only; omega⟩ hS (fun x hx => hx ▸ Or.inl (Or.inl rfl)) (fun H9 locs hmH9 hszH9 hk0H9 hS => ?_)
      have hzH9 := hz0.at hAB hS
      refine lv_goto (tgt := 39) hx hb dX3_anniversaries_29 (by decide) ?_
      obtain rfl : t2 = 0 := by omega
      have hmw : MWR θ S0 w H9 r q dt sv 0 dn (rf + 1) kn := ⟨hzH9, hu, hmH9, hd, hsv⟩
      first | exact e_i hx hb hr hlk hS dX3_anniversaries_39 (Nat.le_of_ble_eq_true rfl) (Nat.le_of_ble_eq_true rfl) ⟨ex_i (by subst_vars; first | omega | (simp only [up_s, tri_0, tri_1, tri_2, inI_self, inI_1, inI_31]; done) | (simp only [up_s, tri_0, tri_1, tri_2, inI_self, inI_1, inI_31]; omega) | (simp only [up_s, tri_0, tri_1, tri_2]; subst_vars; first | rfl | omega)), r, q, by first | exact hmw | (subst_vars; exact hmw) | (simp only [inI_self, inI_1, inI_31] at hmw; subst_vars; exact hmw), by first | exact nw_rf | exact nw_up (by omega) | exact nw_up2 (by omega), by first | exact nw_rf | exact nw_up (by omega) | exact nw_up2 (by omega)⟩ | exact (show False by omega).elim
  · exact (show False by omega).elim

set_option maxHeartbeats 4000000 in
set_option maxRecDepth 100000 in
theorem mno1_anniversaries (θ : TH) (l : Launch) (S0 : State) (H : Heap) (w : Nat → Nat) (r q : Nat → Nat) (dt : Nat → Int) (sv : Nat → Nat → Int) (th dn rf kn : Int) (hw : MWR θ S0 w H r q dt sv th dn rf kn) (a b g : Int) (h_0 : -2147483648 ≤ a ∧ a < 2147483648) (h_1 : -2147483648 ≤ b ∧ b < 2147483648) (h_2 : -2147483648 ≤ g ∧ g < 2147483648) (h_3 : 0 ≤ g ∧ g ≤ 1) (h_4 : ¬ (0 ≤ a ∧ a < 6)) : CT l yX3_anniversaries cX3_anniversaries 4 (some .int) 3 63 0 0 [.ref (w 0), .int (iI a), .int (iI b), .int (iI g)] S0 H (fun v9 H1 => v9 = some (.int (iI 0)) ∧ ∃ r1 q1 : Nat → Nat, MWR θ S0 w H1 r1 q1 dt sv 1 dn rf kn ∧ NW 6 H.size r r1 ∧ NW 3 H.size q q1) (fun _ _ => False) (WA w H.size) := by
  refine ct_of (by decide +kernel) (Nat.le_of_ble_eq_true rfl) ?_
  intro pg en s mi args below meth co ls fx hs hr hlk hxt hin hl
  subst hs
  obtain ⟨hx, hb, hml, hown, hts⟩ := id fx.1
  have hS : va_S (WA w s.heap.size) s.heap s.heap [] := va_S.rf
  obtain ⟨hz, hu, hm, hd, hsv⟩ := id hw
  have hAB : ∀ x : Nat, (WA w s.heap.size) x → θ.2.2.2 ≤ x := wa_b hu hz.2.1
  have hz0 := hz
  have hK := sz_K fx.2 hz
  have hlt0 := hm.lt
  have hu1 := hu.1
  have hAn : ∀ x : Nat, s.heap.size ≤ x → (WA w s.heap.size) x := fun _ h => Or.inr h
  refine lv_aload_n hx hb dX3_anniversaries_0 rfl (lv_at hl 0 rfl) ?_
  refine lv_iload_n hx hb dX3_anniversaries_1 rfl (lv_at hl 1 rfl) ?_
  refine lv_iload_n hx hb dX3_anniversaries_2 rfl (lv_at hl 2 rfl) ?_
  obtain ⟨r1, hr1⟩ := bex ((a < 0 ∨ 5 < a) ∨ (b < 0 ∨ 5 < b))
  refine c_P (As := [.int (iI a), .int (iI b)]) (rest := [.ref (w 0)]) fx hl (pm_X3_areNo l a b r1 hr1 (by omega) (by omega)) dX3_anniversaries_3 k1162 k1163 k6 k1164 hd_X3_areNo rfl ⟨by decide, by decide⟩ (Nat.le_of_ble_eq_true rfl) ⟨by dsimp only; omega, by dsimp only; omega⟩ ?_
  have br1 : r1 = 0 ∨ r1 = 1 := hr1.elim (fun h => Or.inr h.1) (fun h => Or.inl h.1)
  refine q_con hx hb dX3_anniversaries_6 ?_
  refine q_con hx hb dX3_anniversaries_7 ?_
  obtain ⟨t2, f3, hq1t2, hq2t2⟩ := fails_ex r1 0 0 (by omega) (by omega) (by omega)
  have hmw : MWR θ S0 w s.heap r q dt sv th dn rf kn := ⟨hz, hu, hm, hd, hsv⟩
  refine c_M (w := w) (As := [.int (iI r1), .int (iI 0), .int (iI 0)]) (rest := []) (b := w 0) (C := RX3) fx hl (mw_fails θ l S0 _ w _ _ _ _ _ _ _ _ hmw r1 0 0 t2 f3 (by omega) hq1t2 hq2t2) (ob_recv hK hm.1 rfl) dX3_anniversaries_8 k1119 k1121 ks10 k6 k1122 hd_X3_fails rfl ⟨by decide, by decide⟩ (Nat.le_of_ble_eq_true rfl) ⟨by dsimp only; omega, by dsimp only; omega⟩ hS (fun x hx => hx ▸ Or.inl (Or.inl rfl)) (fun H4 locs hmH4 hszH4 hk0H4 hS => ?_)
  have hkH4 : ∀ x : Nat, x < (s.heap).size → ¬ x = w 0 → H4[x]? = (s.heap)[x]? := hk0H4
  have hzH4 := hz0.at hAB hS
  have hltH4 := hmH4.lt
  refine q_ieq (tgt := 16) hx hb dX3_anniversaries_11 (by decide) (by omega) (fun c5 => ?_) (fun c5 => ?_)
  · exact (show False by omega).elim
  · refine q_con hx hb dX3_anniversaries_14 ?_
    obtain rfl : t2 = 1 := by omega
    have hmw : MWR θ S0 w H4 r q dt sv 1 dn rf kn := ⟨hzH4, hu, hmH4, hd, hsv⟩
    first | exact e_i hx hb hr hlk hS dX3_anniversaries_15 (Nat.le_of_ble_eq_true rfl) (Nat.le_of_ble_eq_true rfl) ⟨ex_i (by omega), r, q, by first | exact hmw | (subst_vars; exact hmw) | (simp only [inI_self, inI_1, inI_31] at hmw; subst_vars; exact hmw), by first | exact nw_rf | exact nw_up (by omega) | exact nw_up2 (by omega), by first | exact nw_rf | exact nw_up (by omega) | exact nw_up2 (by omega)⟩ | exact (show False by omega).elim

set_option maxHeartbeats 4000000 in
set_option maxRecDepth 100000 in
theorem mno2_anniversaries (θ : TH) (l : Launch) (S0 : State) (H : Heap) (w : Nat → Nat) (r q : Nat → Nat) (dt : Nat → Int) (sv : Nat → Nat → Int) (th dn rf kn : Int) (hw : MWR θ S0 w H r q dt sv th dn rf kn) (a b g : Int) (h_0 : -2147483648 ≤ a ∧ a < 2147483648) (h_1 : -2147483648 ≤ b ∧ b < 2147483648) (h_2 : -2147483648 ≤ g ∧ g < 2147483648) (h_3 : 0 ≤ g ∧ g ≤ 1) (h_4 : 0 ≤ a ∧ a < 6) (h_5 : ¬ (0 ≤ b ∧ b < 6)) : CT l yX3_anniversaries cX3_anniversaries 4 (some .int) 3 63 0 0 [.ref (w 0), .int (iI a), .int (iI b), .int (iI g)] S0 H (fun v9 H1 => v9 = some (.int (iI 0)) ∧ ∃ r1 q1 : Nat → Nat, MWR θ S0 w H1 r1 q1 dt sv 1 dn rf kn ∧ NW 6 H.size r r1 ∧ NW 3 H.size q q1) (fun _ _ => False) (WA w H.size) := by
  refine ct_of (by decide +kernel) (Nat.le_of_ble_eq_true rfl) ?_
  intro pg en s mi args below meth co ls fx hs hr hlk hxt hin hl
  subst hs
  obtain ⟨hx, hb, hml, hown, hts⟩ := id fx.1
  have hS : va_S (WA w s.heap.size) s.heap s.heap [] := va_S.rf
  obtain ⟨hz, hu, hm, hd, hsv⟩ := id hw
  have hAB : ∀ x : Nat, (WA w s.heap.size) x → θ.2.2.2 ≤ x := wa_b hu hz.2.1
  have hz0 := hz
  have hK := sz_K fx.2 hz
  have hlt0 := hm.lt
  have hu1 := hu.1
  have hAn : ∀ x : Nat, s.heap.size ≤ x → (WA w s.heap.size) x := fun _ h => Or.inr h
  refine lv_aload_n hx hb dX3_anniversaries_0 rfl (lv_at hl 0 rfl) ?_
  refine lv_iload_n hx hb dX3_anniversaries_1 rfl (lv_at hl 1 rfl) ?_
  refine lv_iload_n hx hb dX3_anniversaries_2 rfl (lv_at hl 2 rfl) ?_
  obtain ⟨r1, hr1⟩ := bex ((a < 0 ∨ 5 < a) ∨ (b < 0 ∨ 5 < b))
  refine c_P (As := [.int (iI a), .int (iI b)]) (rest := [.ref (w 0)]) fx hl (pm_X3_areNo l a b r1 hr1 (by omega) (by omega)) dX3_anniversaries_3 k1162 k1163 k6 k1164 hd_X3_areNo rfl ⟨by decide, by decide⟩ (Nat.le_of_ble_eq_true rfl) ⟨by dsimp only; omega, by dsimp only; omega⟩ ?_
  have br1 : r1 = 0 ∨ r1 = 1 := hr1.elim (fun h => Or.inr h.1) (fun h => Or.inl h.1)
  refine q_con hx hb dX3_anniversaries_6 ?_
  refine q_con hx hb dX3_anniversaries_7 ?_
  obtain ⟨t2, f3, hq1t2, hq2t2⟩ := fails_ex r1 0 0 (by omega) (by omega) (by omega)
  have hmw : MWR θ S0 w s.heap r q dt sv th dn rf kn := ⟨hz, hu, hm, hd, hsv⟩
  refine c_M (w := w) (As := [.int (iI r1), .int (iI 0), .int (iI 0)]) (rest := []) (b := w 0) (C := RX3) fx hl (mw_fails θ l S0 _ w _ _ _ _ _ _ _ _ hmw r1 0 0 t2 f3 (by omega) hq1t2 hq2t2) (ob_recv hK hm.1 rfl) dX3_anniversaries_8 k1119 k1121 ks10 k6 k1122 hd_X3_fails rfl ⟨by decide, by decide⟩ (Nat.le_of_ble_eq_true rfl) ⟨by dsimp only; omega, by dsimp only; omega⟩ hS (fun x hx => hx ▸ Or.inl (Or.inl rfl)) (fun H4 locs hmH4 hszH4 hk0H4 hS => ?_)
  have hkH4 : ∀ x : Nat, x < (s.heap).size → ¬ x = w 0 → H4[x]? = (s.heap)[x]? := hk0H4
  have hzH4 := hz0.at hAB hS
  have hltH4 := hmH4.lt
  refine q_ieq (tgt := 16) hx hb dX3_anniversaries_11 (by decide) (by omega) (fun c5 => ?_) (fun c5 => ?_)
  · exact (show False by omega).elim
  · refine q_con hx hb dX3_anniversaries_14 ?_
    obtain rfl : t2 = 1 := by omega
    have hmw : MWR θ S0 w H4 r q dt sv 1 dn rf kn := ⟨hzH4, hu, hmH4, hd, hsv⟩
    first | exact e_i hx hb hr hlk hS dX3_anniversaries_15 (Nat.le_of_ble_eq_true rfl) (Nat.le_of_ble_eq_true rfl) ⟨ex_i (by omega), r, q, by first | exact hmw | (subst_vars; exact hmw) | (simp only [inI_self, inI_1, inI_31] at hmw; subst_vars; exact hmw), by first | exact nw_rf | exact nw_up (by omega) | exact nw_up2 (by omega), by first | exact nw_rf | exact nw_up (by omega) | exact nw_up2 (by omega)⟩ | exact (show False by omega).elim

set_option maxHeartbeats 4000000 in
set_option maxRecDepth 100000 in
theorem mok_anniversaries_r (θ : TH) (l : Launch) (S0 : State) (H : Heap) (w : Nat → Nat) (r q : Nat → Nat) (dt : Nat → Int) (sv : Nat → Nat → Int) (th dn rf kn : Int) (hw : MWR θ S0 w H r q dt sv th dn rf kn) (a b g : Int) (h_0 : -2147483648 ≤ a ∧ a < 2147483648) (h_1 : -2147483648 ≤ b ∧ b < 2147483648) (h_2 : -2147483648 ≤ g ∧ g < 2147483648) (h_3 : 0 ≤ g ∧ g ≤ 1) (h_4 : 0 ≤ a ∧ a < 6) (h_5 : 0 ≤ b ∧ b < 6) (h_6 : dt b.toNat < dt a.toNat ∨ 40000 < dt b.toNat - dt a.toNat) : CT l yX3_anniversaries cX3_anniversaries 4 (some .int) 8 172 0 0 [.ref (w 0), .int (iI a), .int (iI b), .int (iI g)] S0 H (fun v9 H1 => v9 = some (.int (iI (-9))) ∧ ∃ r1 q1 : Nat → Nat, MWR θ S0 w H1 r1 q1 dt sv 0 dn (rf + 1) kn ∧ NW 6 H.size r r1 ∧ NW 3 H.size q q1) (fun _ _ => False) (WA w H.size) := by
  refine ct_of (by decide +kernel) (Nat.le_of_ble_eq_true rfl) ?_
  intro pg en s mi args below meth co ls fx hs hr hlk hxt hin hl
  subst hs
  obtain ⟨hx, hb, hml, hown, hts⟩ := id fx.1
  have hS : va_S (WA w s.heap.size) s.heap s.heap [] := va_S.rf
  obtain ⟨hz, hu, hm, hd, hsv⟩ := id hw
  have hAB : ∀ x : Nat, (WA w s.heap.size) x → θ.2.2.2 ≤ x := wa_b hu hz.2.1
  have hz0 := hz
  have hK := sz_K fx.2 hz
  have hlt0 := hm.lt
  have hu1 := hu.1
  have hAn : ∀ x : Nat, s.heap.size ≤ x → (WA w s.heap.size) x := fun _ h => Or.inr h
  refine lv_aload_n hx hb dX3_anniversaries_0 rfl (lv_at hl 0 rfl) ?_
  refine lv_iload_n hx hb dX3_anniversaries_1 rfl (lv_at hl 1 rfl) ?_
  refine lv_iload_n hx hb dX3_anniversaries_2 rfl (lv_at hl 2 rfl) ?_
  obtain ⟨r1, hr1⟩ := bex ((a < 0 ∨ 5 < a) ∨ (b < 0 ∨ 5 < b))
  refine c_P (As := [.int (iI a), .int (iI b)]) (rest := [.ref (w 0)]) fx hl (pm_X3_areNo l a b r1 hr1 (by omega) (by omega)) dX3_anniversaries_3 k1162 k1163 k6 k1164 hd_X3_areNo rfl ⟨by decide, by decide⟩ (Nat.le_of_ble_eq_true rfl) ⟨by dsimp only; omega, by dsimp only; omega⟩ ?_
  have br1 : r1 = 0 ∨ r1 = 1 := hr1.elim (fun h => Or.inr h.1) (fun h => Or.inl h.1)
  refine q_con hx hb dX3_anniversaries_6 ?_
  refine q_con hx hb dX3_anniversaries_7 ?_
  obtain ⟨t2, f3, hq1t2, hq2t2⟩ := fails_ex r1 0 0 (by omega) (by omega) (by omega)
  have hmw : MWR θ S0 w s.heap r q dt sv th dn rf kn := ⟨hz, hu, hm, hd, hsv⟩
  refine c_M (w := w) (As := [.int (iI r1), .int (iI 0), .int (iI 0)]) (rest := []) (b := w 0) (C := RX3) fx hl (mw_fails θ l S0 _ w _ _ _ _ _ _ _ _ hmw r1 0 0 t2 f3 (by omega) hq1t2 hq2t2) (ob_recv hK hm.1 rfl) dX3_anniversaries_8 k1119 k1121 ks10 k6 k1122 hd_X3_fails rfl ⟨by decide, by decide⟩ (Nat.le_of_ble_eq_true rfl) ⟨by dsimp only; omega, by dsimp only; omega⟩ hS (fun x hx => hx ▸ Or.inl (Or.inl rfl)) (fun H4 locs hmH4 hszH4 hk0H4 hS => ?_)
  have hkH4 : ∀ x : Nat, x < (s.heap).size → ¬ x = w 0 → H4[x]? = (s.heap)[x]? := hk0H4
  have hzH4 := hz0.at hAB hS
  have hltH4 := hmH4.lt
  refine q_ieq (tgt := 16) hx hb dX3_anniversaries_11 (by decide) (by omega) (fun c5 => ?_) (fun c5 => ?_)
  · refine lv_aload_n hx hb dX3_anniversaries_16 rfl (lv_at hl 0 rfl) ?_
    refine lv_iload_n hx hb dX3_anniversaries_17 rfl (lv_at hl 1 rfl) ?_
    refine lv_iload_n hx hb dX3_anniversaries_18 rfl (lv_at hl 2 rfl) ?_
    obtain ⟨r6, hr6⟩ := bex (dt b.toNat - dt a.toNat < 0 ∨ 40000 < dt b.toNat - dt a.toNat)
    have hmw : MWR θ S0 w H4 r q dt sv t2 dn rf kn := ⟨hzH4, hu, hmH4, hd, hsv⟩
    refine c_HV (As := [.int (iI a), .int (iI b)]) (rest := []) (b := w 0) (C := RX3) fx hl (mr_isFar θ l S0 _ w _ _ _ _ _ _ _ _ hmw a b r6 hr6 (by omega) (by omega)) (ob_recv hK hmH4.1 rfl) dX3_anniversaries_19 k1519 k1521 ks25 k6 k1522 hd_X3_isFar rfl ⟨by decide, by decide⟩ (Nat.le_of_ble_eq_true rfl) ⟨by dsimp only; omega, by dsimp only; omega⟩ ?_
    have br6 : r6 = 0 ∨ r6 = 1 := hr6.elim (fun h => Or.inr h.1) (fun h => Or.inl h.1)
    refine q_ieq (tgt := 32) hx hb dX3_anniversaries_22 (by decide) (by omega) (fun c7 => ?_) (fun c7 => ?_)
    · refine lv_aload_n hx hb dX3_anniversaries_32 rfl (lv_at hl 0 rfl) ?_
      refine lv_iload_n hx hb dX3_anniversaries_33 rfl (lv_at hl 1 rfl) ?_
      refine lv_iload_n hx hb dX3_anniversaries_34 rfl (lv_at hl 2 rfl) ?_
      refine lv_iload_n hx hb dX3_anniversaries_35 rfl (lv_at hl 3 rfl) ?_
      have hmw : MWR θ S0 w H4 r q dt sv t2 dn rf kn := ⟨hzH4, hu, hmH4, hd, hsv⟩
      refine c_HV (As := [.int (iI a), .int (iI b), .int (iI g)]) (rest := []) (b := w 0) (C := RX3) fx hl (mr_came θ l S0 _ w _ _ _ _ _ _ _ _ hmw a b g (by omega) (by omega) (by omega) (by omega)) (ob_recv hK hmH4.1 rfl) dX3_anniversaries_36 k1528 k1530 ks27 k6 k1531 hd_X3_came rfl ⟨by decide, by decide⟩ (Nat.le_of_ble_eq_true rfl) ⟨by dsimp only; omega, by dsimp only; omega⟩ ?_
      have t0z8 := un_b (dt a.toNat) (dt b.toNat) g
      obtain rfl : t2 = 0 := by omega
      have hmw : MWR θ S0 w H4 r q dt sv 0 dn rf kn := ⟨hzH4, hu, hmH4, hd, hsv⟩
      first | exact e_i hx hb hr hlk hS dX3_anniversaries_39 (Nat.le_of_ble_eq_true rfl) (Nat.le_of_ble_eq_true rfl) ⟨ex_i (by subst_vars; first | omega | (simp only [up_s, tri_0, tri_1, tri_2, inI_self, inI_1, inI_31]; done) | (simp only [up_s, tri_0, tri_1, tri_2, inI_self, inI_1, inI_31]; omega) | (simp only [up_s, tri_0, tri_1, tri_2]; subst_vars; first | rfl | omega)), r, q, by first | exact hmw | (subst_vars; exact hmw) | (simp only [inI_self, inI_1, inI_31] at hmw; subst_vars; exact hmw), by first | exact nw_rf | exact nw_up (by omega) | exact nw_up2 (by omega), by first | exact nw_rf | exact nw_up (by omega) | exact nw_up2 (by omega)⟩ | exact (show False by omega).elim
    · refine lv_aload_n hx hb dX3_anniversaries_25 rfl (lv_at hl 0 rfl) ?_
      have hmw : MWR θ S0 w H4 r q dt sv t2 dn rf kn := ⟨hzH4, hu, hmH4, hd, hsv⟩
      refine c_M (w := w) (As := []) (rest := []) (b := w 0) (C := RX3) fx hl (mw_no θ l S0 _ w _ _ _ _ _ _ _ _ hmw) (ob_recv hK hmH4.1 rfl) dX3_anniversaries_26 k1524 k1526 ks26 k6 k1527 hd_X3_no rfl ⟨by decide, by decide⟩ (Nat.le_of_ble_eq_true rfl) ⟨by dsimp only; omega, by dsimp only; omega⟩ hS (fun x hx => hx ▸ Or.inl (Or.inl rfl)) (fun H9 locs hmH9 hszH9 hk0H9 hS => ?_)
      have hzH9 := hz0.at hAB hS
      refine lv_goto (tgt := 39) hx hb dX3_anniversaries_29 (by decide) ?_
      obtain rfl : t2 = 0 := by omega
      have hmw : MWR θ S0 w H9 r q dt sv 0 dn (rf + 1) kn := ⟨hzH9, hu, hmH9, hd, hsv⟩
      first | exact e_i hx hb hr hlk hS dX3_anniversaries_39 (Nat.le_of_ble_eq_true rfl) (Nat.le_of_ble_eq_true rfl) ⟨ex_i (by subst_vars; first | omega | (simp only [up_s, tri_0, tri_1, tri_2, inI_self, inI_1, inI_31]; done) | (simp only [up_s, tri_0, tri_1, tri_2, inI_self, inI_1, inI_31]; omega) | (simp only [up_s, tri_0, tri_1, tri_2]; subst_vars; first | rfl | omega)), r, q, by first | exact hmw | (subst_vars; exact hmw) | (simp only [inI_self, inI_1, inI_31] at hmw; subst_vars; exact hmw), by first | exact nw_rf | exact nw_up (by omega) | exact nw_up2 (by omega), by first | exact nw_rf | exact nw_up (by omega) | exact nw_up2 (by omega)⟩ | exact (show False by omega).elim
  · exact (show False by omega).elim

set_option maxHeartbeats 4000000 in
set_option maxRecDepth 100000 in
theorem mok_toNext (θ : TH) (l : Launch) (S0 : State) (H : Heap) (w : Nat → Nat) (r q : Nat → Nat) (dt : Nat → Int) (sv : Nat → Nat → Int) (th dn rf kn : Int) (hw : MWR θ S0 w H r q dt sv th dn rf kn) (a b g : Int) (h_0 : -2147483648 ≤ a ∧ a < 2147483648) (h_1 : -2147483648 ≤ b ∧ b < 2147483648) (h_2 : -2147483648 ≤ g ∧ g < 2147483648) (h_3 : 0 ≤ g ∧ g ≤ 1) (h_4 : 0 ≤ a ∧ a < 6) (h_5 : 0 ≤ b ∧ b < 6) (h_6 : ¬ (dt b.toNat < dt a.toNat ∨ 40000 < dt b.toNat - dt a.toNat)) : CT l yX3_toNext cX3_toNext 4 (some .int) 8 172 0 0 [.ref (w 0), .int (iI a), .int (iI b), .int (iI g)] S0 H (fun v9 H1 => v9 = some (.int (iI (anI (dt a.toNat) (unI (dt a.toNat) (dt b.toNat) g + 1) g - dt b.toNat))) ∧ ∃ r1 q1 : Nat → Nat, MWR θ S0 w H1 r1 q1 dt sv 0 dn rf kn ∧ NW 6 H.size r r1 ∧ NW 3 H.size q q1) (fun _ _ => False) (WA w H.size) := by
  refine ct_of (by decide +kernel) (Nat.le_of_ble_eq_true rfl) ?_
  intro pg en s mi args below meth co ls fx hs hr hlk hxt hin hl
  subst hs
  obtain ⟨hx, hb, hml, hown, hts⟩ := id fx.1
  have hS : va_S (WA w s.heap.size) s.heap s.heap [] := va_S.rf
  obtain ⟨hz, hu, hm, hd, hsv⟩ := id hw
  have hAB : ∀ x : Nat, (WA w s.heap.size) x → θ.2.2.2 ≤ x := wa_b hu hz.2.1
  have hz0 := hz
  have hK := sz_K fx.2 hz
  have hlt0 := hm.lt
  have hu1 := hu.1
  have hAn : ∀ x : Nat, s.heap.size ≤ x → (WA w s.heap.size) x := fun _ h => Or.inr h
  have ta := inR (hd a.toNat (by omega))
  have tb := inR (hd b.toNat (by omega))
  refine lv_aload_n hx hb dX3_toNext_0 rfl (lv_at hl 0 rfl) ?_
  refine lv_iload_n hx hb dX3_toNext_1 rfl (lv_at hl 1 rfl) ?_
  refine lv_iload_n hx hb dX3_toNext_2 rfl (lv_at hl 2 rfl) ?_
  obtain ⟨r1, hr1⟩ := bex ((a < 0 ∨ 5 < a) ∨ (b < 0 ∨ 5 < b))
  refine c_P (As := [.int (iI a), .int (iI b)]) (rest := [.ref (w 0)]) fx hl (pm_X3_areNo l a b r1 hr1 (by omega) (by omega)) dX3_toNext_3 k1162 k1163 k6 k1164 hd_X3_areNo rfl ⟨by decide, by decide⟩ (Nat.le_of_ble_eq_true rfl) ⟨by dsimp only; omega, by dsimp only; omega⟩ ?_
  have br1 : r1 = 0 ∨ r1 = 1 := hr1.elim (fun h => Or.inr h.1) (fun h => Or.inl h.1)
  refine q_con hx hb dX3_toNext_6 ?_
  refine q_con hx hb dX3_toNext_7 ?_
  obtain ⟨t2, f3, hq1t2, hq2t2⟩ := fails_ex r1 0 0 (by omega) (by omega) (by omega)
  have hmw : MWR θ S0 w s.heap r q dt sv th dn rf kn := ⟨hz, hu, hm, hd, hsv⟩
  refine c_M (w := w) (As := [.int (iI r1), .int (iI 0), .int (iI 0)]) (rest := []) (b := w 0) (C := RX3) fx hl (mw_fails θ l S0 _ w _ _ _ _ _ _ _ _ hmw r1 0 0 t2 f3 (by omega) hq1t2 hq2t2) (ob_recv hK hm.1 rfl) dX3_toNext_8 k1119 k1121 ks10 k6 k1122 hd_X3_fails rfl ⟨by decide, by decide⟩ (Nat.le_of_ble_eq_true rfl) ⟨by dsimp only; omega, by dsimp only; omega⟩ hS (fun x hx => hx ▸ Or.inl (Or.inl rfl)) (fun H4 locs hmH4 hszH4 hk0H4 hS => ?_)
  have hkH4 : ∀ x : Nat, x < (s.heap).size → ¬ x = w 0 → H4[x]? = (s.heap)[x]? := hk0H4
  have hzH4 := hz0.at hAB hS
  have hltH4 := hmH4.lt
  refine q_ieq (tgt := 16) hx hb dX3_toNext_11 (by decide) (by omega) (fun c5 => ?_) (fun c5 => ?_)
  · refine lv_aload_n hx hb dX3_toNext_16 rfl (lv_at hl 0 rfl) ?_
    refine lv_iload_n hx hb dX3_toNext_17 rfl (lv_at hl 1 rfl) ?_
    refine lv_iload_n hx hb dX3_toNext_18 rfl (lv_at hl 2 rfl) ?_
    obtain ⟨r6, hr6⟩ := bex (dt b.toNat - dt a.toNat < 0 ∨ 40000 < dt b.toNat - dt a.toNat)
    have hmw : MWR θ S0 w H4 r q dt sv t2 dn rf kn := ⟨hzH4, hu, hmH4, hd, hsv⟩
    refine c_HV (As := [.int (iI a), .int (iI b)]) (rest := []) (b := w 0) (C := RX3) fx hl (mr_isFar θ l S0 _ w _ _ _ _ _ _ _ _ hmw a b r6 hr6 (by omega) (by omega)) (ob_recv hK hmH4.1 rfl) dX3_toNext_19 k1519 k1521 ks25 k6 k1522 hd_X3_isFar rfl ⟨by decide, by decide⟩ (Nat.le_of_ble_eq_true rfl) ⟨by dsimp only; omega, by dsimp only; omega⟩ ?_
    have br6 : r6 = 0 ∨ r6 = 1 := hr6.elim (fun h => Or.inr h.1) (fun h => Or.inl h.1)
    refine q_ieq (tgt := 32) hx hb dX3_toNext_22 (by decide) (by omega) (fun c7 => ?_) (fun c7 => ?_)
    · refine lv_aload_n hx hb dX3_toNext_32 rfl (lv_at hl 0 rfl) ?_
      refine lv_iload_n hx hb dX3_toNext_33 rfl (lv_at hl 1 rfl) ?_
      refine lv_aload_n hx hb dX3_toNext_34 rfl (lv_at hl 0 rfl) ?_
      refine lv_iload_n hx hb dX3_toNext_35 rfl (lv_at hl 1 rfl) ?_
      refine lv_iload_n hx hb dX3_toNext_36 rfl (lv_at hl 2 rfl) ?_
      refine lv_iload_n hx hb dX3_toNext_37 rfl (lv_at hl 3 rfl) ?_
      have hmw : MWR θ S0 w H4 r q dt sv t2 dn rf kn := ⟨hzH4, hu, hmH4, hd, hsv⟩
      refine c_HV (As := [.int (iI a), .int (iI b), .int (iI g)]) (rest := [.int (iI a), .ref (w 0)]) (b := w 0) (C := RX3) fx hl (mr_came θ l S0 _ w _ _ _ _ _ _ _ _ hmw a b g (by omega) (by omega) (by omega) (by omega)) (ob_recv hK hmH4.1 rfl) dX3_toNext_38 k1528 k1530 ks27 k6 k1531 hd_X3_came rfl ⟨by decide, by decide⟩ (Nat.le_of_ble_eq_true rfl) ⟨by dsimp only; omega, by dsimp only; omega⟩ ?_
      have t0z8 := un_b (dt a.toNat) (dt b.toNat) g
      refine q_con hx hb dX3_toNext_41 ?_
      refine q_add hx hb dX3_toNext_42 ?_
      refine lv_iload_n hx hb dX3_toNext_43 rfl (lv_at hl 3 rfl) ?_
      have hmw : MWR θ S0 w H4 r q dt sv t2 dn rf kn := ⟨hzH4, hu, hmH4, hd, hsv⟩
      refine c_HV (As := [.int (iI a), .int (iI ((unI (dt a.toNat) (dt b.toNat) g) + 1)), .int (iI g)]) (rest := []) (b := w 0) (C := RX3) fx hl (mr_anniversary θ l S0 _ w _ _ _ _ _ _ _ _ hmw a ((unI (dt a.toNat) (dt b.toNat) g) + 1) g (by omega) (by omega) (by omega)) (ob_recv hK hmH4.1 rfl) dX3_toNext_44 k1532 k1534 ks28 k6 k1535 hd_X3_anniversary rfl ⟨by decide, by decide⟩ (Nat.le_of_ble_eq_true rfl) ⟨by dsimp only; omega, by dsimp only; omega⟩ ?_
      have t0z9 := an_m (dt a.toNat) ((unI (dt a.toNat) (dt b.toNat) g) + 1) g
      refine lv_aload_n hx hb dX3_toNext_47 rfl (lv_at hl 0 rfl) ?_
      refine lv_iload_n hx hb dX3_toNext_48 rfl (lv_at hl 2 rfl) ?_
      have hmw : MWR θ S0 w H4 r q dt sv t2 dn rf kn := ⟨hzH4, hu, hmH4, hd, hsv⟩
      refine c_HV (As := [.int (iI b)]) (rest := [.int (iI (anI (dt a.toNat) ((unI (dt a.toNat) (dt b.toNat) g) + 1) g))]) (b := w 0) (C := RX3) fx hl (mr_became θ l S0 _ w _ _ _ _ _ _ _ _ hmw b (by omega)) (ob_recv hK hmH4.1 rfl) dX3_toNext_49 k1141 k1143 ks12 k6 k1144 hd_X3_became rfl ⟨by decide, by decide⟩ (Nat.le_of_ble_eq_true rfl) ⟨by dsimp only; omega, by dsimp only; omega⟩ ?_
      have t0z10 := hd b.toNat (by omega)
      refine q_sub hx hb dX3_toNext_52 ?_
      obtain rfl : t2 = 0 := by omega
      have hmw : MWR θ S0 w H4 r q dt sv 0 dn rf kn := ⟨hzH4, hu, hmH4, hd, hsv⟩
      first | exact e_i hx hb hr hlk hS dX3_toNext_53 (Nat.le_of_ble_eq_true rfl) (Nat.le_of_ble_eq_true rfl) ⟨ex_i (by subst_vars; first | omega | (simp only [up_s, tri_0, tri_1, tri_2, inI_self, inI_1, inI_31]; done) | (simp only [up_s, tri_0, tri_1, tri_2, inI_self, inI_1, inI_31]; omega) | (simp only [up_s, tri_0, tri_1, tri_2]; subst_vars; first | rfl | omega)), r, q, by first | exact hmw | (subst_vars; exact hmw) | (simp only [inI_self, inI_1, inI_31] at hmw; subst_vars; exact hmw), by first | exact nw_rf | exact nw_up (by omega) | exact nw_up2 (by omega), by first | exact nw_rf | exact nw_up (by omega) | exact nw_up2 (by omega)⟩ | exact (show False by omega).elim
    · refine lv_aload_n hx hb dX3_toNext_25 rfl (lv_at hl 0 rfl) ?_
      have hmw : MWR θ S0 w H4 r q dt sv t2 dn rf kn := ⟨hzH4, hu, hmH4, hd, hsv⟩
      refine c_M (w := w) (As := []) (rest := []) (b := w 0) (C := RX3) fx hl (mw_no θ l S0 _ w _ _ _ _ _ _ _ _ hmw) (ob_recv hK hmH4.1 rfl) dX3_toNext_26 k1524 k1526 ks26 k6 k1527 hd_X3_no rfl ⟨by decide, by decide⟩ (Nat.le_of_ble_eq_true rfl) ⟨by dsimp only; omega, by dsimp only; omega⟩ hS (fun x hx => hx ▸ Or.inl (Or.inl rfl)) (fun H11 locs hmH11 hszH11 hk0H11 hS => ?_)
      have hzH11 := hz0.at hAB hS
      refine lv_goto (tgt := 53) hx hb dX3_toNext_29 (by decide) ?_
      obtain rfl : t2 = 0 := by omega
      have hmw : MWR θ S0 w H11 r q dt sv 0 dn (rf + 1) kn := ⟨hzH11, hu, hmH11, hd, hsv⟩
      first | exact e_i hx hb hr hlk hS dX3_toNext_53 (Nat.le_of_ble_eq_true rfl) (Nat.le_of_ble_eq_true rfl) ⟨ex_i (by subst_vars; first | omega | (simp only [up_s, tri_0, tri_1, tri_2, inI_self, inI_1, inI_31]; done) | (simp only [up_s, tri_0, tri_1, tri_2, inI_self, inI_1, inI_31]; omega) | (simp only [up_s, tri_0, tri_1, tri_2]; subst_vars; first | rfl | omega)), r, q, by first | exact hmw | (subst_vars; exact hmw) | (simp only [inI_self, inI_1, inI_31] at hmw; subst_vars; exact hmw), by first | exact nw_rf | exact nw_up (by omega) | exact nw_up2 (by omega), by first | exact nw_rf | exact nw_up (by omega) | exact nw_up2 (by omega)⟩ | exact (show False by omega).elim
  · exact (show False by omega).elim

set_option maxHeartbeats 4000000 in
set_option maxRecDepth 100000 in
theorem mno1_toNext (θ : TH) (l : Launch) (S0 : State) (H : Heap) (w : Nat → Nat) (r q : Nat → Nat) (dt : Nat → Int) (sv : Nat → Nat → Int) (th dn rf kn : Int) (hw : MWR θ S0 w H r q dt sv th dn rf kn) (a b g : Int) (h_0 : -2147483648 ≤ a ∧ a < 2147483648) (h_1 : -2147483648 ≤ b ∧ b < 2147483648) (h_2 : -2147483648 ≤ g ∧ g < 2147483648) (h_3 : 0 ≤ g ∧ g ≤ 1) (h_4 : ¬ (0 ≤ a ∧ a < 6)) : CT l yX3_toNext cX3_toNext 4 (some .int) 3 63 0 0 [.ref (w 0), .int (iI a), .int (iI b), .int (iI g)] S0 H (fun v9 H1 => v9 = some (.int (iI 0)) ∧ ∃ r1 q1 : Nat → Nat, MWR θ S0 w H1 r1 q1 dt sv 1 dn rf kn ∧ NW 6 H.size r r1 ∧ NW 3 H.size q q1) (fun _ _ => False) (WA w H.size) := by
  refine ct_of (by decide +kernel) (Nat.le_of_ble_eq_true rfl) ?_
  intro pg en s mi args below meth co ls fx hs hr hlk hxt hin hl
  subst hs
  obtain ⟨hx, hb, hml, hown, hts⟩ := id fx.1
  have hS : va_S (WA w s.heap.size) s.heap s.heap [] := va_S.rf
  obtain ⟨hz, hu, hm, hd, hsv⟩ := id hw
  have hAB : ∀ x : Nat, (WA w s.heap.size) x → θ.2.2.2 ≤ x := wa_b hu hz.2.1
  have hz0 := hz
  have hK := sz_K fx.2 hz
  have hlt0 := hm.lt
  have hu1 := hu.1
  have hAn : ∀ x : Nat, s.heap.size ≤ x → (WA w s.heap.size) x := fun _ h => Or.inr h
  refine lv_aload_n hx hb dX3_toNext_0 rfl (lv_at hl 0 rfl) ?_
  refine lv_iload_n hx hb dX3_toNext_1 rfl (lv_at hl 1 rfl) ?_
  refine lv_iload_n hx hb dX3_toNext_2 rfl (lv_at hl 2 rfl) ?_
  obtain ⟨r1, hr1⟩ := bex ((a < 0 ∨ 5 < a) ∨ (b < 0 ∨ 5 < b))
  refine c_P (As := [.int (iI a), .int (iI b)]) (rest := [.ref (w 0)]) fx hl (pm_X3_areNo l a b r1 hr1 (by omega) (by omega)) dX3_toNext_3 k1162 k1163 k6 k1164 hd_X3_areNo rfl ⟨by decide, by decide⟩ (Nat.le_of_ble_eq_true rfl) ⟨by dsimp only; omega, by dsimp only; omega⟩ ?_
  have br1 : r1 = 0 ∨ r1 = 1 := hr1.elim (fun h => Or.inr h.1) (fun h => Or.inl h.1)
  refine q_con hx hb dX3_toNext_6 ?_
  refine q_con hx hb dX3_toNext_7 ?_
  obtain ⟨t2, f3, hq1t2, hq2t2⟩ := fails_ex r1 0 0 (by omega) (by omega) (by omega)
  have hmw : MWR θ S0 w s.heap r q dt sv th dn rf kn := ⟨hz, hu, hm, hd, hsv⟩
  refine c_M (w := w) (As := [.int (iI r1), .int (iI 0), .int (iI 0)]) (rest := []) (b := w 0) (C := RX3) fx hl (mw_fails θ l S0 _ w _ _ _ _ _ _ _ _ hmw r1 0 0 t2 f3 (by omega) hq1t2 hq2t2) (ob_recv hK hm.1 rfl) dX3_toNext_8 k1119 k1121 ks10 k6 k1122 hd_X3_fails rfl ⟨by decide, by decide⟩ (Nat.le_of_ble_eq_true rfl) ⟨by dsimp only; omega, by dsimp only; omega⟩ hS (fun x hx => hx ▸ Or.inl (Or.inl rfl)) (fun H4 locs hmH4 hszH4 hk0H4 hS => ?_)
  have hkH4 : ∀ x : Nat, x < (s.heap).size → ¬ x = w 0 → H4[x]? = (s.heap)[x]? := hk0H4
  have hzH4 := hz0.at hAB hS
  have hltH4 := hmH4.lt
  refine q_ieq (tgt := 16) hx hb dX3_toNext_11 (by decide) (by omega) (fun c5 => ?_) (fun c5 => ?_)
  · exact (show False by omega).elim
  · refine q_con hx hb dX3_toNext_14 ?_
    obtain rfl : t2 = 1 := by omega
    have hmw : MWR θ S0 w H4 r q dt sv 1 dn rf kn := ⟨hzH4, hu, hmH4, hd, hsv⟩
    first | exact e_i hx hb hr hlk hS dX3_toNext_15 (Nat.le_of_ble_eq_true rfl) (Nat.le_of_ble_eq_true rfl) ⟨ex_i (by omega), r, q, by first | exact hmw | (subst_vars; exact hmw) | (simp only [inI_self, inI_1, inI_31] at hmw; subst_vars; exact hmw), by first | exact nw_rf | exact nw_up (by omega) | exact nw_up2 (by omega), by first | exact nw_rf | exact nw_up (by omega) | exact nw_up2 (by omega)⟩ | exact (show False by omega).elim

set_option maxHeartbeats 4000000 in
set_option maxRecDepth 100000 in
theorem mno2_toNext (θ : TH) (l : Launch) (S0 : State) (H : Heap) (w : Nat → Nat) (r q : Nat → Nat) (dt : Nat → Int) (sv : Nat → Nat → Int) (th dn rf kn : Int) (hw : MWR θ S0 w H r q dt sv th dn rf kn) (a b g : Int) (h_0 : -2147483648 ≤ a ∧ a < 2147483648) (h_1 : -2147483648 ≤ b ∧ b < 2147483648) (h_2 : -2147483648 ≤ g ∧ g < 2147483648) (h_3 : 0 ≤ g ∧ g ≤ 1) (h_4 : 0 ≤ a ∧ a < 6) (h_5 : ¬ (0 ≤ b ∧ b < 6)) : CT l yX3_toNext cX3_toNext 4 (some .int) 3 63 0 0 [.ref (w 0), .int (iI a), .int (iI b), .int (iI g)] S0 H (fun v9 H1 => v9 = some (.int (iI 0)) ∧ ∃ r1 q1 : Nat → Nat, MWR θ S0 w H1 r1 q1 dt sv 1 dn rf kn ∧ NW 6 H.size r r1 ∧ NW 3 H.size q q1) (fun _ _ => False) (WA w H.size) := by
  refine ct_of (by decide +kernel) (Nat.le_of_ble_eq_true rfl) ?_
  intro pg en s mi args below meth co ls fx hs hr hlk hxt hin hl
  subst hs
  obtain ⟨hx, hb, hml, hown, hts⟩ := id fx.1
  have hS : va_S (WA w s.heap.size) s.heap s.heap [] := va_S.rf
  obtain ⟨hz, hu, hm, hd, hsv⟩ := id hw
  have hAB : ∀ x : Nat, (WA w s.heap.size) x → θ.2.2.2 ≤ x := wa_b hu hz.2.1
  have hz0 := hz
  have hK := sz_K fx.2 hz
  have hlt0 := hm.lt
  have hu1 := hu.1
  have hAn : ∀ x : Nat, s.heap.size ≤ x → (WA w s.heap.size) x := fun _ h => Or.inr h
  refine lv_aload_n hx hb dX3_toNext_0 rfl (lv_at hl 0 rfl) ?_
  refine lv_iload_n hx hb dX3_toNext_1 rfl (lv_at hl 1 rfl) ?_
  refine lv_iload_n hx hb dX3_toNext_2 rfl (lv_at hl 2 rfl) ?_
  obtain ⟨r1, hr1⟩ := bex ((a < 0 ∨ 5 < a) ∨ (b < 0 ∨ 5 < b))
  refine c_P (As := [.int (iI a), .int (iI b)]) (rest := [.ref (w 0)]) fx hl (pm_X3_areNo l a b r1 hr1 (by omega) (by omega)) dX3_toNext_3 k1162 k1163 k6 k1164 hd_X3_areNo rfl ⟨by decide, by decide⟩ (Nat.le_of_ble_eq_true rfl) ⟨by dsimp only; omega, by dsimp only; omega⟩ ?_
  have br1 : r1 = 0 ∨ r1 = 1 := hr1.elim (fun h => Or.inr h.1) (fun h => Or.inl h.1)
  refine q_con hx hb dX3_toNext_6 ?_
  refine q_con hx hb dX3_toNext_7 ?_
  obtain ⟨t2, f3, hq1t2, hq2t2⟩ := fails_ex r1 0 0 (by omega) (by omega) (by omega)
  have hmw : MWR θ S0 w s.heap r q dt sv th dn rf kn := ⟨hz, hu, hm, hd, hsv⟩
  refine c_M (w := w) (As := [.int (iI r1), .int (iI 0), .int (iI 0)]) (rest := []) (b := w 0) (C := RX3) fx hl (mw_fails θ l S0 _ w _ _ _ _ _ _ _ _ hmw r1 0 0 t2 f3 (by omega) hq1t2 hq2t2) (ob_recv hK hm.1 rfl) dX3_toNext_8 k1119 k1121 ks10 k6 k1122 hd_X3_fails rfl ⟨by decide, by decide⟩ (Nat.le_of_ble_eq_true rfl) ⟨by dsimp only; omega, by dsimp only; omega⟩ hS (fun x hx => hx ▸ Or.inl (Or.inl rfl)) (fun H4 locs hmH4 hszH4 hk0H4 hS => ?_)
  have hkH4 : ∀ x : Nat, x < (s.heap).size → ¬ x = w 0 → H4[x]? = (s.heap)[x]? := hk0H4
  have hzH4 := hz0.at hAB hS
  have hltH4 := hmH4.lt
  refine q_ieq (tgt := 16) hx hb dX3_toNext_11 (by decide) (by omega) (fun c5 => ?_) (fun c5 => ?_)
  · exact (show False by omega).elim
  · refine q_con hx hb dX3_toNext_14 ?_
    obtain rfl : t2 = 1 := by omega
    have hmw : MWR θ S0 w H4 r q dt sv 1 dn rf kn := ⟨hzH4, hu, hmH4, hd, hsv⟩
    first | exact e_i hx hb hr hlk hS dX3_toNext_15 (Nat.le_of_ble_eq_true rfl) (Nat.le_of_ble_eq_true rfl) ⟨ex_i (by omega), r, q, by first | exact hmw | (subst_vars; exact hmw) | (simp only [inI_self, inI_1, inI_31] at hmw; subst_vars; exact hmw), by first | exact nw_rf | exact nw_up (by omega) | exact nw_up2 (by omega), by first | exact nw_rf | exact nw_up (by omega) | exact nw_up2 (by omega)⟩ | exact (show False by omega).elim

set_option maxHeartbeats 4000000 in
set_option maxRecDepth 100000 in
theorem mok_toNext_r (θ : TH) (l : Launch) (S0 : State) (H : Heap) (w : Nat → Nat) (r q : Nat → Nat) (dt : Nat → Int) (sv : Nat → Nat → Int) (th dn rf kn : Int) (hw : MWR θ S0 w H r q dt sv th dn rf kn) (a b g : Int) (h_0 : -2147483648 ≤ a ∧ a < 2147483648) (h_1 : -2147483648 ≤ b ∧ b < 2147483648) (h_2 : -2147483648 ≤ g ∧ g < 2147483648) (h_3 : 0 ≤ g ∧ g ≤ 1) (h_4 : 0 ≤ a ∧ a < 6) (h_5 : 0 ≤ b ∧ b < 6) (h_6 : dt b.toNat < dt a.toNat ∨ 40000 < dt b.toNat - dt a.toNat) : CT l yX3_toNext cX3_toNext 4 (some .int) 8 172 0 0 [.ref (w 0), .int (iI a), .int (iI b), .int (iI g)] S0 H (fun v9 H1 => v9 = some (.int (iI (-9))) ∧ ∃ r1 q1 : Nat → Nat, MWR θ S0 w H1 r1 q1 dt sv 0 dn (rf + 1) kn ∧ NW 6 H.size r r1 ∧ NW 3 H.size q q1) (fun _ _ => False) (WA w H.size) := by
  refine ct_of (by decide +kernel) (Nat.le_of_ble_eq_true rfl) ?_
  intro pg en s mi args below meth co ls fx hs hr hlk hxt hin hl
  subst hs
  obtain ⟨hx, hb, hml, hown, hts⟩ := id fx.1
  have hS : va_S (WA w s.heap.size) s.heap s.heap [] := va_S.rf
  obtain ⟨hz, hu, hm, hd, hsv⟩ := id hw
  have hAB : ∀ x : Nat, (WA w s.heap.size) x → θ.2.2.2 ≤ x := wa_b hu hz.2.1
  have hz0 := hz
  have hK := sz_K fx.2 hz
  have hlt0 := hm.lt
  have hu1 := hu.1
  have hAn : ∀ x : Nat, s.heap.size ≤ x → (WA w s.heap.size) x := fun _ h => Or.inr h
  refine lv_aload_n hx hb dX3_toNext_0 rfl (lv_at hl 0 rfl) ?_
  refine lv_iload_n hx hb dX3_toNext_1 rfl (lv_at hl 1 rfl) ?_
  refine lv_iload_n hx hb dX3_toNext_2 rfl (lv_at hl 2 rfl) ?_
  obtain ⟨r1, hr1⟩ := bex ((a < 0 ∨ 5 < a) ∨ (b < 0 ∨ 5 < b))
  refine c_P (As := [.int (iI a), .int (iI b)]) (rest := [.ref (w 0)]) fx hl (pm_X3_areNo l a b r1 hr1 (by omega) (by omega)) dX3_toNext_3 k1162 k1163 k6 k1164 hd_X3_areNo rfl ⟨by decide, by decide⟩ (Nat.le_of_ble_eq_true rfl) ⟨by dsimp only; omega, by dsimp only; omega⟩ ?_
  have br1 : r1 = 0 ∨ r1 = 1 := hr1.elim (fun h => Or.inr h.1) (fun h => Or.inl h.1)
  refine q_con hx hb dX3_toNext_6 ?_
  refine q_con hx hb dX3_toNext_7 ?_
  obtain ⟨t2, f3, hq1t2, hq2t2⟩ := fails_ex r1 0 0 (by omega) (by omega) (by omega)
  have hmw : MWR θ S0 w s.heap r q dt sv th dn rf kn := ⟨hz, hu, hm, hd, hsv⟩
  refine c_M (w := w) (As := [.int (iI r1), .int (iI 0), .int (iI 0)]) (rest := []) (b := w 0) (C := RX3) fx hl (mw_fails θ l S0 _ w _ _ _ _ _ _ _ _ hmw r1 0 0 t2 f3 (by omega) hq1t2 hq2t2) (ob_recv hK hm.1 rfl) dX3_toNext_8 k1119 k1121 ks10 k6 k1122 hd_X3_fails rfl ⟨by decide, by decide⟩ (Nat.le_of_ble_eq_true rfl) ⟨by dsimp only; omega, by dsimp only; omega⟩ hS (fun x hx => hx ▸ Or.inl (Or.inl rfl)) (fun H4 locs hmH4 hszH4 hk0H4 hS => ?_)
  have hkH4 : ∀ x : Nat, x < (s.heap).size → ¬ x = w 0 → H4[x]? = (s.heap)[x]? := hk0H4
  have hzH4 := hz0.at hAB hS
  have hltH4 := hmH4.lt
  refine q_ieq (tgt := 16) hx hb dX3_toNext_11 (by decide) (by omega) (fun c5 => ?_) (fun c5 => ?_)
  · refine lv_aload_n hx hb dX3_toNext_16 rfl (lv_at hl 0 rfl) ?_
    refine lv_iload_n hx hb dX3_toNext_17 rfl (lv_at hl 1 rfl) ?_
    refine lv_iload_n hx hb dX3_toNext_18 rfl (lv_at hl 2 rfl) ?_
    obtain ⟨r6, hr6⟩ := bex (dt b.toNat - dt a.toNat < 0 ∨ 40000 < dt b.toNat - dt a.toNat)
    have hmw : MWR θ S0 w H4 r q dt sv t2 dn rf kn := ⟨hzH4, hu, hmH4, hd, hsv⟩
    refine c_HV (As := [.int (iI a), .int (iI b)]) (rest := []) (b := w 0) (C := RX3) fx hl (mr_isFar θ l S0 _ w _ _ _ _ _ _ _ _ hmw a b r6 hr6 (by omega) (by omega)) (ob_recv hK hmH4.1 rfl) dX3_toNext_19 k1519 k1521 ks25 k6 k1522 hd_X3_isFar rfl ⟨by decide, by decide⟩ (Nat.le_of_ble_eq_true rfl) ⟨by dsimp only; omega, by dsimp only; omega⟩ ?_
    have br6 : r6 = 0 ∨ r6 = 1 := hr6.elim (fun h => Or.inr h.1) (fun h => Or.inl h.1)
    refine q_ieq (tgt := 32) hx hb dX3_toNext_22 (by decide) (by omega) (fun c7 => ?_) (fun c7 => ?_)
    · refine lv_aload_n hx hb dX3_toNext_32 rfl (lv_at hl 0 rfl) ?_
      refine lv_iload_n hx hb dX3_toNext_33 rfl (lv_at hl 1 rfl) ?_
      refine lv_aload_n hx hb dX3_toNext_34 rfl (lv_at hl 0 rfl) ?_
      refine lv_iload_n hx hb dX3_toNext_35 rfl (lv_at hl 1 rfl) ?_
      refine lv_iload_n hx hb dX3_toNext_36 rfl (lv_at hl 2 rfl) ?_
      refine lv_iload_n hx hb dX3_toNext_37 rfl (lv_at hl 3 rfl) ?_
      have hmw : MWR θ S0 w H4 r q dt sv t2 dn rf kn := ⟨hzH4, hu, hmH4, hd, hsv⟩
      refine c_HV (As := [.int (iI a), .int (iI b), .int (iI g)]) (rest := [.int (iI a), .ref (w 0)]) (b := w 0) (C := RX3) fx hl (mr_came θ l S0 _ w _ _ _ _ _ _ _ _ hmw a b g (by omega) (by omega) (by omega) (by omega)) (ob_recv hK hmH4.1 rfl) dX3_toNext_38 k1528 k1530 ks27 k6 k1531 hd_X3_came rfl ⟨by decide, by decide⟩ (Nat.le_of_ble_eq_true rfl) ⟨by dsimp only; omega, by dsimp only; omega⟩ ?_
      have t0z8 := un_b (dt a.toNat) (dt b.toNat) g
      refine q_con hx hb dX3_toNext_41 ?_
      refine q_add hx hb dX3_toNext_42 ?_
      refine lv_iload_n hx hb dX3_toNext_43 rfl (lv_at hl 3 rfl) ?_
      have hmw : MWR θ S0 w H4 r q dt sv t2 dn rf kn := ⟨hzH4, hu, hmH4, hd, hsv⟩
      refine c_HV (As := [.int (iI a), .int (iI ((unI (dt a.toNat) (dt b.toNat) g) + 1)), .int (iI g)]) (rest := []) (b := w 0) (C := RX3) fx hl (mr_anniversary θ l S0 _ w _ _ _ _ _ _ _ _ hmw a ((unI (dt a.toNat) (dt b.toNat) g) + 1) g (by omega) (by omega) (by omega)) (ob_recv hK hmH4.1 rfl) dX3_toNext_44 k1532 k1534 ks28 k6 k1535 hd_X3_anniversary rfl ⟨by decide, by decide⟩ (Nat.le_of_ble_eq_true rfl) ⟨by dsimp only; omega, by dsimp only; omega⟩ ?_
      have t0z9 := an_m (dt a.toNat) ((unI (dt a.toNat) (dt b.toNat) g) + 1) g
      refine lv_aload_n hx hb dX3_toNext_47 rfl (lv_at hl 0 rfl) ?_
      refine lv_iload_n hx hb dX3_toNext_48 rfl (lv_at hl 2 rfl) ?_
      have hmw : MWR θ S0 w H4 r q dt sv t2 dn rf kn := ⟨hzH4, hu, hmH4, hd, hsv⟩
      refine c_HV (As := [.int (iI b)]) (rest := [.int (iI (anI (dt a.toNat) ((unI (dt a.toNat) (dt b.toNat) g) + 1) g))]) (b := w 0) (C := RX3) fx hl (mr_became θ l S0 _ w _ _ _ _ _ _ _ _ hmw b (by omega)) (ob_recv hK hmH4.1 rfl) dX3_toNext_49 k1141 k1143 ks12 k6 k1144 hd_X3_became rfl ⟨by decide, by decide⟩ (Nat.le_of_ble_eq_true rfl) ⟨by dsimp only; omega, by dsimp only; omega⟩ ?_
      have t0z10 := hd b.toNat (by omega)
      refine q_sub hx hb dX3_toNext_52 ?_
      obtain rfl : t2 = 0 := by omega
      have hmw : MWR θ S0 w H4 r q dt sv 0 dn rf kn := ⟨hzH4, hu, hmH4, hd, hsv⟩
      first | exact e_i hx hb hr hlk hS dX3_toNext_53 (Nat.le_of_ble_eq_true rfl) (Nat.le_of_ble_eq_true rfl) ⟨ex_i (by subst_vars; first | omega | (simp only [up_s, tri_0, tri_1, tri_2, inI_self, inI_1, inI_31]; done) | (simp only [up_s, tri_0, tri_1, tri_2, inI_self, inI_1, inI_31]; omega) | (simp only [up_s, tri_0, tri_1, tri_2]; subst_vars; first | rfl | omega)), r, q, by first | exact hmw | (subst_vars; exact hmw) | (simp only [inI_self, inI_1, inI_31] at hmw; subst_vars; exact hmw), by first | exact nw_rf | exact nw_up (by omega) | exact nw_up2 (by omega), by first | exact nw_rf | exact nw_up (by omega) | exact nw_up2 (by omega)⟩ | exact (show False by omega).elim
    · refine lv_aload_n hx hb dX3_toNext_25 rfl (lv_at hl 0 rfl) ?_
      have hmw : MWR θ S0 w H4 r q dt sv t2 dn rf kn := ⟨hzH4, hu, hmH4, hd, hsv⟩
      refine c_M (w := w) (As := []) (rest := []) (b := w 0) (C := RX3) fx hl (mw_no θ l S0 _ w _ _ _ _ _ _ _ _ hmw) (ob_recv hK hmH4.1 rfl) dX3_toNext_26 k1524 k1526 ks26 k6 k1527 hd_X3_no rfl ⟨by decide, by decide⟩ (Nat.le_of_ble_eq_true rfl) ⟨by dsimp only; omega, by dsimp only; omega⟩ hS (fun x hx => hx ▸ Or.inl (Or.inl rfl)) (fun H11 locs hmH11 hszH11 hk0H11 hS => ?_)
      have hzH11 := hz0.at hAB hS
      refine lv_goto (tgt := 53) hx hb dX3_toNext_29 (by decide) ?_
      obtain rfl : t2 = 0 := by omega
      have hmw : MWR θ S0 w H11 r q dt sv 0 dn (rf + 1) kn := ⟨hzH11, hu, hmH11, hd, hsv⟩
      first | exact e_i hx hb hr hlk hS dX3_toNext_53 (Nat.le_of_ble_eq_true rfl) (Nat.le_of_ble_eq_true rfl) ⟨ex_i (by subst_vars; first | omega | (simp only [up_s, tri_0, tri_1, tri_2, inI_self, inI_1, inI_31]; done) | (simp only [up_s, tri_0, tri_1, tri_2, inI_self, inI_1, inI_31]; omega) | (simp only [up_s, tri_0, tri_1, tri_2]; subst_vars; first | rfl | omega)), r, q, by first | exact hmw | (subst_vars; exact hmw) | (simp only [inI_self, inI_1, inI_31] at hmw; subst_vars; exact hmw), by first | exact nw_rf | exact nw_up (by omega) | exact nw_up2 (by omega), by first | exact nw_rf | exact nw_up (by omega) | exact nw_up2 (by omega)⟩ | exact (show False by omega).elim
  · exact (show False by omega).elim

set_option maxHeartbeats 4000000 in
set_option maxRecDepth 100000 in
theorem mok_lengths (θ : TH) (l : Launch) (S0 : State) (H : Heap) (w : Nat → Nat) (r q : Nat → Nat) (dt : Nat → Int) (sv : Nat → Nat → Int) (th dn rf kn : Int) (hw : MWR θ S0 w H r q dt sv th dn rf kn) (m k : Int) (h_0 : -2147483648 ≤ m ∧ m < 2147483648) (h_1 : -2147483648 ≤ k ∧ k < 2147483648) (h_2 : -119988 ≤ m ∧ m ≤ 119999) (h_3 : 0 ≤ k ∧ k ≤ 48) : CT l yX3_lengths cX3_lengths 5 (some .int) 4 83 0 0 [.ref (w 0), .int (iI m), .int (iI k)] S0 H (fun v9 H1 => v9 = some (.int (iI (fI (m + k) - fI m))) ∧ ∃ r1 q1 : Nat → Nat, MWR θ S0 w H1 r1 q1 dt sv 0 dn rf kn ∧ NW 6 H.size r r1 ∧ NW 3 H.size q q1) (fun _ _ => False) (WA w H.size) := by
  refine ct_of (by decide +kernel) (Nat.le_of_ble_eq_true rfl) ?_
  intro pg en s mi args below meth co ls fx hs hr hlk hxt hin hl
  subst hs
  obtain ⟨hx, hb, hml, hown, hts⟩ := id fx.1
  have hS : va_S (WA w s.heap.size) s.heap s.heap [] := va_S.rf
  obtain ⟨hz, hu, hm, hd, hsv⟩ := id hw
  have hAB : ∀ x : Nat, (WA w s.heap.size) x → θ.2.2.2 ≤ x := wa_b hu hz.2.1
  have hz0 := hz
  have hK := sz_K fx.2 hz
  have hlt0 := hm.lt
  have hu1 := hu.1
  have hAn : ∀ x : Nat, s.heap.size ≤ x → (WA w s.heap.size) x := fun _ h => Or.inr h
  refine lv_aload_n hx hb dX3_lengths_0 rfl (lv_at hl 0 rfl) ?_
  refine lv_iload_n hx hb dX3_lengths_1 rfl (lv_at hl 1 rfl) ?_
  obtain ⟨r1, hr1⟩ := bex (m < -119988 ∨ 119999 < m)
  refine c_P (As := [.int (iI m)]) (rest := [.ref (w 0)]) fx hl (pm_X3_isNoMonth l m r1 hr1 (by omega)) dX3_lengths_2 k1488 k1489 k6 k1490 hd_X3_isNoMonth rfl ⟨by decide, by decide⟩ (Nat.le_of_ble_eq_true rfl) ⟨by dsimp only; omega, by dsimp only; omega⟩ ?_
  have br1 : r1 = 0 ∨ r1 = 1 := hr1.elim (fun h => Or.inr h.1) (fun h => Or.inl h.1)
  refine q_ine (tgt := 18) hx hb dX3_lengths_5 (by decide) (by omega) (fun c2 => ?_) (fun c2 => ?_)
  · exact (show False by omega).elim
  · refine lv_iload_n hx hb dX3_lengths_8 rfl (lv_at hl 2 rfl) ?_
    refine q_con hx hb dX3_lengths_9 ?_
    refine q_bip hx hb dX3_lengths_10 (by decide) ?_
    obtain ⟨r3, hr3⟩ := bex (k < 0 ∨ 48 < k)
    refine c_P (As := [.int (iI k), .int (iI 0), .int (iI 48)]) (rest := [.ref (w 0)]) fx hl (pm_X3_isOut l k 0 48 r3 hr3 (by omega) (by omega) (by omega)) dX3_lengths_12 k1116 k1117 k6 k1118 hd_X3_isOut rfl ⟨by decide, by decide⟩ (Nat.le_of_ble_eq_true rfl) ⟨by dsimp only; omega, by dsimp only; omega⟩ ?_
    have br3 : r3 = 0 ∨ r3 = 1 := hr3.elim (fun h => Or.inr h.1) (fun h => Or.inl h.1)
    refine q_ieq (tgt := 22) hx hb dX3_lengths_15 (by decide) (by omega) (fun c4 => ?_) (fun c4 => ?_)
    · refine q_con hx hb dX3_lengths_22 ?_
      refine q_con hx hb dX3_lengths_23 ?_
      refine q_con hx hb dX3_lengths_24 ?_
      obtain ⟨t5, f6, hq1t5, hq2t5⟩ := fails_ex 0 0 0 (by omega) (by omega) (by omega)
      have hmw : MWR θ S0 w s.heap r q dt sv th dn rf kn := ⟨hz, hu, hm, hd, hsv⟩
      refine c_M (w := w) (As := [.int (iI 0), .int (iI 0), .int (iI 0)]) (rest := []) (b := w 0) (C := RX3) fx hl (mw_fails θ l S0 _ w _ _ _ _ _ _ _ _ hmw 0 0 0 t5 f6 (by omega) hq1t5 hq2t5) (ob_recv hK hm.1 rfl) dX3_lengths_25 k1119 k1121 ks10 k6 k1122 hd_X3_fails rfl ⟨by decide, by decide⟩ (Nat.le_of_ble_eq_true rfl) ⟨by dsimp only; omega, by dsimp only; omega⟩ hS (fun x hx => hx ▸ Or.inl (Or.inl rfl)) (fun H7 locs hmH7 hszH7 hk0H7 hS => ?_)
      have hkH7 : ∀ x : Nat, x < (s.heap).size → ¬ x = w 0 → H7[x]? = (s.heap)[x]? := hk0H7
      have hzH7 := hz0.at hAB hS
      have hltH7 := hmH7.lt
      refine q_ieq (tgt := 33) hx hb dX3_lengths_28 (by decide) (by omega) (fun c8 => ?_) (fun c8 => ?_)
      · refine q_con hx hb dX3_lengths_33 ?_
        refine lv_istore_n (lv' := [(3, .int (iI 0)), (0, .ref (w 0)), (1, .int (iI m)), (2, .int (iI k))]) hx hb dX3_lengths_34 rfl hl (by decide) rfl (fun ls hl => ?_)
        refine q_con hx hb dX3_lengths_35 ?_
        refine lv_istore (lv' := [(4, .int (iI 0)), (3, .int (iI 0)), (0, .ref (w 0)), (1, .int (iI m)), (2, .int (iI k))]) hx hb dX3_lengths_36 hl (by decide) rfl (fun ls hl => ?_)
        refine w_loop (nL := 5) (σ := Int × Int) (fun x => (k - x.2).toNat) (fun x => (x.1 = fI (m + x.2) - fI m) ∧ (0 ≤ x.2 ∧ x.2 ≤ k)) (fun x => [(3, .int (iI x.1)), (4, .int (iI x.2)), (0, .ref (w 0)), (1, .int (iI m)), (2, .int (iI k))]) ?_ ((0 : Int), (0 : Int)) ⟨by (try dsimp only); first | omega | (rw [show m + 0 = m by omega]; omega), by (try dsimp only); first | omega | (rw [show m + 0 = m by omega]; omega)⟩ (lv_sub hl [1, 0, 2, 3, 4] rfl)
        intro x hI38 ih38 ls hl
        obtain ⟨sm, j⟩ := x
        (try dsimp only at hI38 ih38 hl ⊢)
        have tt3 := fI_mono (a := m) (b := m + j) (by omega)
        refine lv_iload hx hb dX3_lengths_38 (lv_at hl 1 rfl) ?_
        refine lv_iload_n hx hb dX3_lengths_40 rfl (lv_at hl 4 rfl) ?_
        refine q_cge (tgt := 60) hx hb dX3_lengths_41 (by decide) (by omega) (by omega) (fun c9 => ?_) (fun c9 => ?_)
        · refine lv_iload_n hx hb dX3_lengths_60 rfl (lv_at hl 0 rfl) ?_
          obtain rfl : t5 = 0 := by omega
          have hmw : MWR θ S0 w H7 r q dt sv 0 dn rf kn := ⟨hzH7, hu, hmH7, hd, hsv⟩
          exact e_i hx hb hr hlk hS dX3_lengths_61 (Nat.le_of_ble_eq_true rfl) (Nat.le_of_ble_eq_true rfl) ⟨ex_i (by rw [show m + k = m + j by omega]; omega), r, q, by first | exact hmw | (subst_vars; exact hmw) | (simp only [inI_self, inI_1, inI_31] at hmw; subst_vars; exact hmw), by first | exact nw_rf | exact nw_up (by omega) | exact nw_up2 (by omega), by first | exact nw_rf | exact nw_up (by omega) | exact nw_up2 (by omega)⟩
        · refine lv_iload_n hx hb dX3_lengths_44 rfl (lv_at hl 0 rfl) ?_
          refine lv_iload_n hx hb dX3_lengths_45 rfl (lv_at hl 3 rfl) ?_
          refine lv_iload hx hb dX3_lengths_46 (lv_at hl 1 rfl) ?_
          refine q_add hx hb dX3_lengths_48 ?_
          refine c_H (As := [.int (iI (m + j))]) (rest := [.int (iI sm)]) fx hl (pm_X3_length θ l S0 _ hzH7 (m + j) (by omega)) dX3_lengths_49 k1085 k1086 k6 k1087 hd_X3_length rfl ⟨by decide, by decide⟩ (Nat.le_of_ble_eq_true rfl) ⟨by dsimp only; omega, by dsimp only; omega⟩ ?_
          refine q_nm (fun z10 ez10 => ?_)
          have t0z10 := len_b (m + j)
          refine q_add hx hb dX3_lengths_52 ?_
          refine q_nm (fun z11 ez11 => ?_)
          refine lv_istore_n (lv' := [(3, .int (iI z11)), (4, .int (iI j)), (0, .ref (w 0)), (1, .int (iI m)), (2, .int (iI k))]) hx hb dX3_lengths_53 rfl hl (by decide) rfl (fun ls hl => ?_)
          refine lv_iinc (v := iI (j + 1)) (lv' := [(4, .int (iI (j + 1))), (3, .int (iI z11)), (0, .ref (w 0)), (1, .int (iI m)), (2, .int (iI k))]) hx hb dX3_lengths_54 hl (k := 1) rfl (iI_add _ _) (by decide) rfl (fun ls hl => ?_)
          refine lv_goto (tgt := 38) hx hb dX3_lengths_57 (by decide) ?_
          exact ih38 (z11, j + 1) _ ⟨by (try dsimp only); first | omega | (rw [show m + (j + 1) = m + j + 1 by omega]; omega), by (try dsimp only); first | omega | (rw [show m + (j + 1) = m + j + 1 by omega]; omega)⟩ (by (try dsimp only); omega) (lv_sub hl [1, 0, 2, 3, 4] rfl)
      · exact (show False by omega).elim
    · exact (show False by omega).elim

set_option maxHeartbeats 4000000 in
set_option maxRecDepth 100000 in
theorem mno1_lengths (θ : TH) (l : Launch) (S0 : State) (H : Heap) (w : Nat → Nat) (r q : Nat → Nat) (dt : Nat → Int) (sv : Nat → Nat → Int) (th dn rf kn : Int) (hw : MWR θ S0 w H r q dt sv th dn rf kn) (m k : Int) (h_0 : -2147483648 ≤ m ∧ m < 2147483648) (h_1 : -2147483648 ≤ k ∧ k < 2147483648) (h_2 : ¬ (-119988 ≤ m ∧ m ≤ 119999)) : CT l yX3_lengths cX3_lengths 5 (some .int) 2 42 0 0 [.ref (w 0), .int (iI m), .int (iI k)] S0 H (fun v9 H1 => v9 = some (.int (iI 0)) ∧ ∃ r1 q1 : Nat → Nat, MWR θ S0 w H1 r1 q1 dt sv 1 dn rf kn ∧ NW 6 H.size r r1 ∧ NW 3 H.size q q1) (fun _ _ => False) (WA w H.size) := by
  refine ct_of (by decide +kernel) (Nat.le_of_ble_eq_true rfl) ?_
  intro pg en s mi args below meth co ls fx hs hr hlk hxt hin hl
  subst hs
  obtain ⟨hx, hb, hml, hown, hts⟩ := id fx.1
  have hS : va_S (WA w s.heap.size) s.heap s.heap [] := va_S.rf
  obtain ⟨hz, hu, hm, hd, hsv⟩ := id hw
  have hAB : ∀ x : Nat, (WA w s.heap.size) x → θ.2.2.2 ≤ x := wa_b hu hz.2.1
  have hz0 := hz
  have hK := sz_K fx.2 hz
  have hlt0 := hm.lt
  have hu1 := hu.1
  have hAn : ∀ x : Nat, s.heap.size ≤ x → (WA w s.heap.size) x := fun _ h => Or.inr h
  refine lv_aload_n hx hb dX3_lengths_0 rfl (lv_at hl 0 rfl) ?_
  refine lv_iload_n hx hb dX3_lengths_1 rfl (lv_at hl 1 rfl) ?_
  obtain ⟨r1, hr1⟩ := bex (m < -119988 ∨ 119999 < m)
  refine c_P (As := [.int (iI m)]) (rest := [.ref (w 0)]) fx hl (pm_X3_isNoMonth l m r1 hr1 (by omega)) dX3_lengths_2 k1488 k1489 k6 k1490 hd_X3_isNoMonth rfl ⟨by decide, by decide⟩ (Nat.le_of_ble_eq_true rfl) ⟨by dsimp only; omega, by dsimp only; omega⟩ ?_
  have br1 : r1 = 0 ∨ r1 = 1 := hr1.elim (fun h => Or.inr h.1) (fun h => Or.inl h.1)
  refine q_ine (tgt := 18) hx hb dX3_lengths_5 (by decide) (by omega) (fun c2 => ?_) (fun c2 => ?_)
  · refine q_con hx hb dX3_lengths_18 ?_
    refine lv_goto (tgt := 23) hx hb dX3_lengths_19 (by decide) ?_
    refine q_con hx hb dX3_lengths_23 ?_
    refine q_con hx hb dX3_lengths_24 ?_
    obtain ⟨t3, f4, hq1t3, hq2t3⟩ := fails_ex 1 0 0 (by omega) (by omega) (by omega)
    have hmw : MWR θ S0 w s.heap r q dt sv th dn rf kn := ⟨hz, hu, hm, hd, hsv⟩
    refine c_M (w := w) (As := [.int (iI 1), .int (iI 0), .int (iI 0)]) (rest := []) (b := w 0) (C := RX3) fx hl (mw_fails θ l S0 _ w _ _ _ _ _ _ _ _ hmw 1 0 0 t3 f4 (by omega) hq1t3 hq2t3) (ob_recv hK hm.1 rfl) dX3_lengths_25 k1119 k1121 ks10 k6 k1122 hd_X3_fails rfl ⟨by decide, by decide⟩ (Nat.le_of_ble_eq_true rfl) ⟨by dsimp only; omega, by dsimp only; omega⟩ hS (fun x hx => hx ▸ Or.inl (Or.inl rfl)) (fun H5 locs hmH5 hszH5 hk0H5 hS => ?_)
    have hkH5 : ∀ x : Nat, x < (s.heap).size → ¬ x = w 0 → H5[x]? = (s.heap)[x]? := hk0H5
    have hzH5 := hz0.at hAB hS
    have hltH5 := hmH5.lt
    refine q_ieq (tgt := 33) hx hb dX3_lengths_28 (by decide) (by omega) (fun c6 => ?_) (fun c6 => ?_)
    · exact (show False by omega).elim
    · refine q_con hx hb dX3_lengths_31 ?_
      obtain rfl : t3 = 1 := by omega
      have hmw : MWR θ S0 w H5 r q dt sv 1 dn rf kn := ⟨hzH5, hu, hmH5, hd, hsv⟩
      exact e_i hx hb hr hlk hS dX3_lengths_32 (Nat.le_of_ble_eq_true rfl) (Nat.le_of_ble_eq_true rfl) ⟨ex_i (by omega), r, q, by first | exact hmw | (subst_vars; exact hmw) | (simp only [inI_self, inI_1, inI_31] at hmw; subst_vars; exact hmw), by first | exact nw_rf | exact nw_up (by omega) | exact nw_up2 (by omega), by first | exact nw_rf | exact nw_up (by omega) | exact nw_up2 (by omega)⟩
  · exact (show False by omega).elim

set_option maxHeartbeats 4000000 in
set_option maxRecDepth 100000 in
theorem mno2_lengths (θ : TH) (l : Launch) (S0 : State) (H : Heap) (w : Nat → Nat) (r q : Nat → Nat) (dt : Nat → Int) (sv : Nat → Nat → Int) (th dn rf kn : Int) (hw : MWR θ S0 w H r q dt sv th dn rf kn) (m k : Int) (h_0 : -2147483648 ≤ m ∧ m < 2147483648) (h_1 : -2147483648 ≤ k ∧ k < 2147483648) (h_2 : -119988 ≤ m ∧ m ≤ 119999) (h_3 : ¬ (0 ≤ k ∧ k ≤ 48)) : CT l yX3_lengths cX3_lengths 5 (some .int) 2 42 0 0 [.ref (w 0), .int (iI m), .int (iI k)] S0 H (fun v9 H1 => v9 = some (.int (iI 0)) ∧ ∃ r1 q1 : Nat → Nat, MWR θ S0 w H1 r1 q1 dt sv 1 dn rf kn ∧ NW 6 H.size r r1 ∧ NW 3 H.size q q1) (fun _ _ => False) (WA w H.size) := by
  refine ct_of (by decide +kernel) (Nat.le_of_ble_eq_true rfl) ?_
  intro pg en s mi args below meth co ls fx hs hr hlk hxt hin hl
  subst hs
  obtain ⟨hx, hb, hml, hown, hts⟩ := id fx.1
  have hS : va_S (WA w s.heap.size) s.heap s.heap [] := va_S.rf
  obtain ⟨hz, hu, hm, hd, hsv⟩ := id hw
  have hAB : ∀ x : Nat, (WA w s.heap.size) x → θ.2.2.2 ≤ x := wa_b hu hz.2.1
  have hz0 := hz
  have hK := sz_K fx.2 hz
  have hlt0 := hm.lt
  have hu1 := hu.1
  have hAn : ∀ x : Nat, s.heap.size ≤ x → (WA w s.heap.size) x := fun _ h => Or.inr h
  refine lv_aload_n hx hb dX3_lengths_0 rfl (lv_at hl 0 rfl) ?_
  refine lv_iload_n hx hb dX3_lengths_1 rfl (lv_at hl 1 rfl) ?_
  obtain ⟨r1, hr1⟩ := bex (m < -119988 ∨ 119999 < m)
  refine c_P (As := [.int (iI m)]) (rest := [.ref (w 0)]) fx hl (pm_X3_isNoMonth l m r1 hr1 (by omega)) dX3_lengths_2 k1488 k1489 k6 k1490 hd_X3_isNoMonth rfl ⟨by decide, by decide⟩ (Nat.le_of_ble_eq_true rfl) ⟨by dsimp only; omega, by dsimp only; omega⟩ ?_
  have br1 : r1 = 0 ∨ r1 = 1 := hr1.elim (fun h => Or.inr h.1) (fun h => Or.inl h.1)
  refine q_ine (tgt := 18) hx hb dX3_lengths_5 (by decide) (by omega) (fun c2 => ?_) (fun c2 => ?_)
  · exact (show False by omega).elim
  · refine lv_iload_n hx hb dX3_lengths_8 rfl (lv_at hl 2 rfl) ?_
    refine q_con hx hb dX3_lengths_9 ?_
    refine q_bip hx hb dX3_lengths_10 (by decide) ?_
    obtain ⟨r3, hr3⟩ := bex (k < 0 ∨ 48 < k)
    refine c_P (As := [.int (iI k), .int (iI 0), .int (iI 48)]) (rest := [.ref (w 0)]) fx hl (pm_X3_isOut l k 0 48 r3 hr3 (by omega) (by omega) (by omega)) dX3_lengths_12 k1116 k1117 k6 k1118 hd_X3_isOut rfl ⟨by decide, by decide⟩ (Nat.le_of_ble_eq_true rfl) ⟨by dsimp only; omega, by dsimp only; omega⟩ ?_
    have br3 : r3 = 0 ∨ r3 = 1 := hr3.elim (fun h => Or.inr h.1) (fun h => Or.inl h.1)
    refine q_ieq (tgt := 22) hx hb dX3_lengths_15 (by decide) (by omega) (fun c4 => ?_) (fun c4 => ?_)
    · exact (show False by omega).elim
    · refine q_con hx hb dX3_lengths_18 ?_
      refine lv_goto (tgt := 23) hx hb dX3_lengths_19 (by decide) ?_
      refine q_con hx hb dX3_lengths_23 ?_
      refine q_con hx hb dX3_lengths_24 ?_
      obtain ⟨t5, f6, hq1t5, hq2t5⟩ := fails_ex 1 0 0 (by omega) (by omega) (by omega)
      have hmw : MWR θ S0 w s.heap r q dt sv th dn rf kn := ⟨hz, hu, hm, hd, hsv⟩
      refine c_M (w := w) (As := [.int (iI 1), .int (iI 0), .int (iI 0)]) (rest := []) (b := w 0) (C := RX3) fx hl (mw_fails θ l S0 _ w _ _ _ _ _ _ _ _ hmw 1 0 0 t5 f6 (by omega) hq1t5 hq2t5) (ob_recv hK hm.1 rfl) dX3_lengths_25 k1119 k1121 ks10 k6 k1122 hd_X3_fails rfl ⟨by decide, by decide⟩ (Nat.le_of_ble_eq_true rfl) ⟨by dsimp only; omega, by dsimp only; omega⟩ hS (fun x hx => hx ▸ Or.inl (Or.inl rfl)) (fun H7 locs hmH7 hszH7 hk0H7 hS => ?_)
      have hkH7 : ∀ x : Nat, x < (s.heap).size → ¬ x = w 0 → H7[x]? = (s.heap)[x]? := hk0H7
      have hzH7 := hz0.at hAB hS
      have hltH7 := hmH7.lt
      refine q_ieq (tgt := 33) hx hb dX3_lengths_28 (by decide) (by omega) (fun c8 => ?_) (fun c8 => ?_)
      · exact (show False by omega).elim
      · refine q_con hx hb dX3_lengths_31 ?_
        obtain rfl : t5 = 1 := by omega
        have hmw : MWR θ S0 w H7 r q dt sv 1 dn rf kn := ⟨hzH7, hu, hmH7, hd, hsv⟩
        exact e_i hx hb hr hlk hS dX3_lengths_32 (Nat.le_of_ble_eq_true rfl) (Nat.le_of_ble_eq_true rfl) ⟨ex_i (by omega), r, q, by first | exact hmw | (subst_vars; exact hmw) | (simp only [inI_self, inI_1, inI_31] at hmw; subst_vars; exact hmw), by first | exact nw_rf | exact nw_up (by omega) | exact nw_up2 (by omega), by first | exact nw_rf | exact nw_up (by omega) | exact nw_up2 (by omega)⟩

set_option maxHeartbeats 4000000 in
set_option maxRecDepth 100000 in
theorem mok_nth (θ : TH) (l : Launch) (S0 : State) (H : Heap) (w : Nat → Nat) (r q : Nat → Nat) (dt : Nat → Int) (sv : Nat → Nat → Int) (th dn rf kn : Int) (hw : MWR θ S0 w H r q dt sv th dn rf kn) (m wd k : Int) (h_0 : -2147483648 ≤ m ∧ m < 2147483648) (h_1 : -2147483648 ≤ wd ∧ wd < 2147483648) (h_2 : -2147483648 ≤ k ∧ k < 2147483648) (h_3 : -119988 ≤ m ∧ m ≤ 119999) (h_4 : 1 ≤ wd ∧ wd ≤ 7) (h_5 : 1 ≤ k ∧ k ≤ 5) : CT l yX3_nth cX3_nth 7 (some .int) 5 107 0 0 [.ref (w 0), .int (iI m), .int (iI wd), .int (iI k)] S0 H (fun v9 H1 => (∃ z : Int, v9 = some (.int (iI z))) ∧ ∃ r1 q1 : Nat → Nat, MWR θ S0 w H1 r1 q1 dt sv 0 dn rf kn ∧ NW 6 H.size r r1 ∧ NW 3 H.size q q1) (fun _ _ => False) (WA w H.size) := by
  refine ct_of (by decide +kernel) (Nat.le_of_ble_eq_true rfl) ?_
  intro pg en s mi args below meth co ls fx hs hr hlk hxt hin hl
  subst hs
  obtain ⟨hx, hb, hml, hown, hts⟩ := id fx.1
  have hS : va_S (WA w s.heap.size) s.heap s.heap [] := va_S.rf
  obtain ⟨hz, hu, hm, hd, hsv⟩ := id hw
  have hAB : ∀ x : Nat, (WA w s.heap.size) x → θ.2.2.2 ≤ x := wa_b hu hz.2.1
  have hz0 := hz
  have hK := sz_K fx.2 hz
  have hlt0 := hm.lt
  have hu1 := hu.1
  have hAn : ∀ x : Nat, s.heap.size ≤ x → (WA w s.heap.size) x := fun _ h => Or.inr h
  have tt1 := inM (m := m) (by omega)
  refine lv_aload_n hx hb dX3_nth_0 rfl (lv_at hl 0 rfl) ?_
  refine lv_iload_n hx hb dX3_nth_1 rfl (lv_at hl 1 rfl) ?_
  obtain ⟨r1, hr1⟩ := bex (m < -119988 ∨ 119999 < m)
  refine c_P (As := [.int (iI m)]) (rest := [.ref (w 0)]) fx hl (pm_X3_isNoMonth l m r1 hr1 (by omega)) dX3_nth_2 k1488 k1489 k6 k1490 hd_X3_isNoMonth rfl ⟨by decide, by decide⟩ (Nat.le_of_ble_eq_true rfl) ⟨by dsimp only; omega, by dsimp only; omega⟩ ?_
  have br1 : r1 = 0 ∨ r1 = 1 := hr1.elim (fun h => Or.inr h.1) (fun h => Or.inl h.1)
  refine q_ine (tgt := 27) hx hb dX3_nth_5 (by decide) (by omega) (fun c2 => ?_) (fun c2 => ?_)
  · exact (show False by omega).elim
  · refine lv_iload_n hx hb dX3_nth_8 rfl (lv_at hl 2 rfl) ?_
    refine q_con hx hb dX3_nth_9 ?_
    refine q_bip hx hb dX3_nth_10 (by decide) ?_
    obtain ⟨r3, hr3⟩ := bex (wd < 1 ∨ 7 < wd)
    refine c_P (As := [.int (iI wd), .int (iI 1), .int (iI 7)]) (rest := [.ref (w 0)]) fx hl (pm_X3_isOut l wd 1 7 r3 hr3 (by omega) (by omega) (by omega)) dX3_nth_12 k1116 k1117 k6 k1118 hd_X3_isOut rfl ⟨by decide, by decide⟩ (Nat.le_of_ble_eq_true rfl) ⟨by dsimp only; omega, by dsimp only; omega⟩ ?_
    have br3 : r3 = 0 ∨ r3 = 1 := hr3.elim (fun h => Or.inr h.1) (fun h => Or.inl h.1)
    refine q_ine (tgt := 27) hx hb dX3_nth_15 (by decide) (by omega) (fun c4 => ?_) (fun c4 => ?_)
    · exact (show False by omega).elim
    · refine lv_iload_n hx hb dX3_nth_18 rfl (lv_at hl 3 rfl) ?_
      refine q_con hx hb dX3_nth_19 ?_
      refine q_con hx hb dX3_nth_20 ?_
      obtain ⟨r5, hr5⟩ := bex (k < 1 ∨ 5 < k)
      refine c_P (As := [.int (iI k), .int (iI 1), .int (iI 5)]) (rest := [.ref (w 0)]) fx hl (pm_X3_isOut l k 1 5 r5 hr5 (by omega) (by omega) (by omega)) dX3_nth_21 k1116 k1117 k6 k1118 hd_X3_isOut rfl ⟨by decide, by decide⟩ (Nat.le_of_ble_eq_true rfl) ⟨by dsimp only; omega, by dsimp only; omega⟩ ?_
      have br5 : r5 = 0 ∨ r5 = 1 := hr5.elim (fun h => Or.inr h.1) (fun h => Or.inl h.1)
      refine q_ieq (tgt := 31) hx hb dX3_nth_24 (by decide) (by omega) (fun c6 => ?_) (fun c6 => ?_)
      · refine q_con hx hb dX3_nth_31 ?_
        refine q_con hx hb dX3_nth_32 ?_
        refine q_con hx hb dX3_nth_33 ?_
        obtain ⟨t7, f8, hq1t7, hq2t7⟩ := fails_ex 0 0 0 (by omega) (by omega) (by omega)
        have hmw : MWR θ S0 w s.heap r q dt sv th dn rf kn := ⟨hz, hu, hm, hd, hsv⟩
        refine c_M (w := w) (As := [.int (iI 0), .int (iI 0), .int (iI 0)]) (rest := []) (b := w 0) (C := RX3) fx hl (mw_fails θ l S0 _ w _ _ _ _ _ _ _ _ hmw 0 0 0 t7 f8 (by omega) hq1t7 hq2t7) (ob_recv hK hm.1 rfl) dX3_nth_34 k1119 k1121 ks10 k6 k1122 hd_X3_fails rfl ⟨by decide, by decide⟩ (Nat.le_of_ble_eq_true rfl) ⟨by dsimp only; omega, by dsimp only; omega⟩ hS (fun x hx => hx ▸ Or.inl (Or.inl rfl)) (fun H9 locs hmH9 hszH9 hk0H9 hS => ?_)
        have hkH9 : ∀ x : Nat, x < (s.heap).size → ¬ x = w 0 → H9[x]? = (s.heap)[x]? := hk0H9
        have hzH9 := hz0.at hAB hS
        have hltH9 := hmH9.lt
        refine q_ieq (tgt := 42) hx hb dX3_nth_37 (by decide) (by omega) (fun c10 => ?_) (fun c10 => ?_)
        · refine lv_iload_n hx hb dX3_nth_42 rfl (lv_at hl 1 rfl) ?_
          refine c_H (As := [.int (iI m)]) (rest := []) fx hl (pm_X3_begin θ l S0 _ hzH9 m (by omega)) dX3_nth_43 k1136 k1137 k6 k1138 hd_X3_begin rfl ⟨by decide, by decide⟩ (Nat.le_of_ble_eq_true rfl) ⟨by dsimp only; omega, by dsimp only; omega⟩ ?_
          have t0z11 := fI_bd m
          refine lv_istore (lv' := [(4, .int (iI (fI m))), (0, .ref (w 0)), (1, .int (iI m)), (2, .int (iI wd)), (3, .int (iI k))]) hx hb dX3_nth_46 hl (by decide) rfl (fun ls hl => ?_)
          refine q_con hx hb dX3_nth_48 ?_
          refine lv_istore (lv' := [(5, .int (iI 0)), (4, .int (iI (fI m))), (0, .ref (w 0)), (1, .int (iI m)), (2, .int (iI wd)), (3, .int (iI k))]) hx hb dX3_nth_49 hl (by decide) rfl (fun ls hl => ?_)
          refine q_con hx hb dX3_nth_51 ?_
          refine lv_istore (lv' := [(6, .int (iI 1)), (5, .int (iI 0)), (4, .int (iI (fI m))), (0, .ref (w 0)), (1, .int (iI m)), (2, .int (iI wd)), (3, .int (iI k))]) hx hb dX3_nth_52 hl (by decide) rfl (fun ls hl => ?_)
          refine w_loop (nL := 7) (σ := Int × Int) (fun x => (33 - x.2).toNat) (fun x => (1 ≤ x.2 ∧ x.2 ≤ 32) ∧ (0 ≤ x.1 ∧ x.1 < x.2)) (fun x => [(5, .int (iI x.1)), (6, .int (iI x.2)), (4, .int (iI (fI m))), (0, .ref (w 0)), (1, .int (iI m)), (2, .int (iI wd)), (3, .int (iI k))]) ?_ ((0 : Int), (1 : Int)) ⟨by (try dsimp only); omega, by (try dsimp only); omega⟩ (lv_sub hl [1, 0, 2, 3, 4, 5, 6] rfl)
          intro x hI54 ih54 ls hl
          obtain ⟨f, j⟩ := x
          (try dsimp only at hI54 ih54 hl ⊢)
          refine lv_iload hx hb dX3_nth_54 (lv_at hl 1 rfl) ?_
          refine lv_iload_n hx hb dX3_nth_56 rfl (lv_at hl 4 rfl) ?_
          refine c_H (As := [.int (iI m)]) (rest := [.int (iI j)]) fx hl (pm_X3_length θ l S0 _ hzH9 m (by omega)) dX3_nth_57 k1085 k1086 k6 k1087 hd_X3_length rfl ⟨by decide, by decide⟩ (Nat.le_of_ble_eq_true rfl) ⟨by dsimp only; omega, by dsimp only; omega⟩ ?_
          refine q_nm (fun z12 ez12 => ?_)
          have t0z12 := len_b m
          refine q_cgt (tgt := 105) hx hb dX3_nth_60 (by decide) (by omega) (by omega) (fun c13 => ?_) (fun c13 => ?_)
          · refine q_con hx hb dX3_nth_105 ?_
            obtain rfl : t7 = 0 := by omega
            have hmw : MWR θ S0 w H9 r q dt sv 0 dn rf kn := ⟨hzH9, hu, hmH9, hd, hsv⟩
            exact e_i hx hb hr hlk hS dX3_nth_106 (Nat.le_of_ble_eq_true rfl) (Nat.le_of_ble_eq_true rfl) ⟨⟨_, rfl⟩, r, q, by first | exact hmw | (subst_vars; exact hmw) | (simp only [inI_self, inI_1, inI_31] at hmw; subst_vars; exact hmw), by first | exact nw_rf | exact nw_up (by omega) | exact nw_up2 (by omega), by first | exact nw_rf | exact nw_up (by omega) | exact nw_up2 (by omega)⟩
          · refine lv_iload hx hb dX3_nth_63 (lv_at hl 0 rfl) ?_
            refine lv_iload hx hb dX3_nth_65 (lv_at hl 2 rfl) ?_
            refine lv_iload hx hb dX3_nth_67 (lv_at hl 1 rfl) ?_
            refine q_add hx hb dX3_nth_69 ?_
            refine q_con hx hb dX3_nth_70 ?_
            refine q_sub hx hb dX3_nth_71 ?_
            refine c_P (As := [.int (iI (((fI m) + j) - 1))]) (rest := [.int (iI f)]) fx hl (pm_X3_weekdayOf l (((fI m) + j) - 1) (by omega)) dX3_nth_72 k1149 k1150 k6 k1151 hd_X3_weekdayOf rfl ⟨by decide, by decide⟩ (Nat.le_of_ble_eq_true rfl) ⟨by dsimp only; omega, by dsimp only; omega⟩ ?_
            have t0z14 := wI_b (((fI m) + j) - 1)
            refine lv_iload_n hx hb dX3_nth_75 rfl (lv_at hl 5 rfl) ?_
            refine q_cne (tgt := 83) hx hb dX3_nth_76 (by decide) (by omega) (by omega) (fun c15 => ?_) (fun c15 => ?_)
            · refine q_con hx hb dX3_nth_83 ?_
              refine c_P (As := [.int (iI 0)]) (rest := [.int (iI f)]) fx hl (pm_X3_one l 0 (by omega)) dX3_nth_84 k1239 k1240 k6 k1241 hd_X3_one rfl ⟨by decide, by decide⟩ (Nat.le_of_ble_eq_true rfl) ⟨by dsimp only; omega, by dsimp only; omega⟩ ?_
              refine q_add hx hb dX3_nth_87 ?_
              refine q_nm (fun z17 ez17 => ?_)
              refine lv_istore (lv' := [(5, .int (iI z17)), (6, .int (iI j)), (4, .int (iI (fI m))), (0, .ref (w 0)), (1, .int (iI m)), (2, .int (iI wd)), (3, .int (iI k))]) hx hb dX3_nth_88 hl (by decide) rfl (fun ls hl => ?_)
              refine lv_iload hx hb dX3_nth_90 (lv_at hl 0 rfl) ?_
              refine lv_iload_n hx hb dX3_nth_92 rfl (lv_at hl 6 rfl) ?_
              refine q_cne (tgt := 99) hx hb dX3_nth_93 (by decide) (by omega) (by omega) (fun c18 => ?_) (fun c18 => ?_)
              · refine lv_iinc (v := iI (j + 1)) (lv' := [(6, .int (iI (j + 1))), (5, .int (iI z17)), (4, .int (iI (fI m))), (0, .ref (w 0)), (1, .int (iI m)), (2, .int (iI wd)), (3, .int (iI k))]) hx hb dX3_nth_99 hl (k := 1) rfl (iI_add _ _) (by decide) rfl (fun ls hl => ?_)
                refine lv_goto (tgt := 54) hx hb dX3_nth_102 (by decide) ?_
                exact ih54 (z17, j + 1) _ ⟨by (try dsimp only); omega, by (try dsimp only); omega⟩ (by (try dsimp only); omega) (lv_sub hl [1, 0, 2, 3, 4, 5, 6] rfl)
              · refine lv_iload hx hb dX3_nth_96 (lv_at hl 1 rfl) ?_
                obtain rfl : t7 = 0 := by omega
                have hmw : MWR θ S0 w H9 r q dt sv 0 dn rf kn := ⟨hzH9, hu, hmH9, hd, hsv⟩
                exact e_i hx hb hr hlk hS dX3_nth_98 (Nat.le_of_ble_eq_true rfl) (Nat.le_of_ble_eq_true rfl) ⟨⟨_, rfl⟩, r, q, by first | exact hmw | (subst_vars; exact hmw) | (simp only [inI_self, inI_1, inI_31] at hmw; subst_vars; exact hmw), by first | exact nw_rf | exact nw_up (by omega) | exact nw_up2 (by omega), by first | exact nw_rf | exact nw_up (by omega) | exact nw_up2 (by omega)⟩
            · refine q_con hx hb dX3_nth_79 ?_
              refine lv_goto (tgt := 84) hx hb dX3_nth_80 (by decide) ?_
              refine c_P (As := [.int (iI 1)]) (rest := [.int (iI f)]) fx hl (pm_X3_one l 1 (by omega)) dX3_nth_84 k1239 k1240 k6 k1241 hd_X3_one rfl ⟨by decide, by decide⟩ (Nat.le_of_ble_eq_true rfl) ⟨by dsimp only; omega, by dsimp only; omega⟩ ?_
              refine q_add hx hb dX3_nth_87 ?_
              refine q_nm (fun z20 ez20 => ?_)
              refine lv_istore (lv' := [(5, .int (iI z20)), (6, .int (iI j)), (4, .int (iI (fI m))), (0, .ref (w 0)), (1, .int (iI m)), (2, .int (iI wd)), (3, .int (iI k))]) hx hb dX3_nth_88 hl (by decide) rfl (fun ls hl => ?_)
              refine lv_iload hx hb dX3_nth_90 (lv_at hl 0 rfl) ?_
              refine lv_iload_n hx hb dX3_nth_92 rfl (lv_at hl 6 rfl) ?_
              refine q_cne (tgt := 99) hx hb dX3_nth_93 (by decide) (by omega) (by omega) (fun c21 => ?_) (fun c21 => ?_)
              · refine lv_iinc (v := iI (j + 1)) (lv' := [(6, .int (iI (j + 1))), (5, .int (iI z20)), (4, .int (iI (fI m))), (0, .ref (w 0)), (1, .int (iI m)), (2, .int (iI wd)), (3, .int (iI k))]) hx hb dX3_nth_99 hl (k := 1) rfl (iI_add _ _) (by decide) rfl (fun ls hl => ?_)
                refine lv_goto (tgt := 54) hx hb dX3_nth_102 (by decide) ?_
                exact ih54 (z20, j + 1) _ ⟨by (try dsimp only); omega, by (try dsimp only); omega⟩ (by (try dsimp only); omega) (lv_sub hl [1, 0, 2, 3, 4, 5, 6] rfl)
              · refine lv_iload hx hb dX3_nth_96 (lv_at hl 1 rfl) ?_
                obtain rfl : t7 = 0 := by omega
                have hmw : MWR θ S0 w H9 r q dt sv 0 dn rf kn := ⟨hzH9, hu, hmH9, hd, hsv⟩
                exact e_i hx hb hr hlk hS dX3_nth_98 (Nat.le_of_ble_eq_true rfl) (Nat.le_of_ble_eq_true rfl) ⟨⟨_, rfl⟩, r, q, by first | exact hmw | (subst_vars; exact hmw) | (simp only [inI_self, inI_1, inI_31] at hmw; subst_vars; exact hmw), by first | exact nw_rf | exact nw_up (by omega) | exact nw_up2 (by omega), by first | exact nw_rf | exact nw_up (by omega) | exact nw_up2 (by omega)⟩
        · exact (show False by omega).elim
      · exact (show False by omega).elim

set_option maxHeartbeats 4000000 in
set_option maxRecDepth 100000 in
theorem mno1_nth (θ : TH) (l : Launch) (S0 : State) (H : Heap) (w : Nat → Nat) (r q : Nat → Nat) (dt : Nat → Int) (sv : Nat → Nat → Int) (th dn rf kn : Int) (hw : MWR θ S0 w H r q dt sv th dn rf kn) (m wd k : Int) (h_0 : -2147483648 ≤ m ∧ m < 2147483648) (h_1 : -2147483648 ≤ wd ∧ wd < 2147483648) (h_2 : -2147483648 ≤ k ∧ k < 2147483648) (h_3 : ¬ (-119988 ≤ m ∧ m ≤ 119999)) : CT l yX3_nth cX3_nth 7 (some .int) 2 42 0 0 [.ref (w 0), .int (iI m), .int (iI wd), .int (iI k)] S0 H (fun v9 H1 => v9 = some (.int (iI 0)) ∧ ∃ r1 q1 : Nat → Nat, MWR θ S0 w H1 r1 q1 dt sv 1 dn rf kn ∧ NW 6 H.size r r1 ∧ NW 3 H.size q q1) (fun _ _ => False) (WA w H.size) := by
  refine ct_of (by decide +kernel) (Nat.le_of_ble_eq_true rfl) ?_
  intro pg en s mi args below meth co ls fx hs hr hlk hxt hin hl
  subst hs
  obtain ⟨hx, hb, hml, hown, hts⟩ := id fx.1
  have hS : va_S (WA w s.heap.size) s.heap s.heap [] := va_S.rf
  obtain ⟨hz, hu, hm, hd, hsv⟩ := id hw
  have hAB : ∀ x : Nat, (WA w s.heap.size) x → θ.2.2.2 ≤ x := wa_b hu hz.2.1
  have hz0 := hz
  have hK := sz_K fx.2 hz
  have hlt0 := hm.lt
  have hu1 := hu.1
  have hAn : ∀ x : Nat, s.heap.size ≤ x → (WA w s.heap.size) x := fun _ h => Or.inr h
  refine lv_aload_n hx hb dX3_nth_0 rfl (lv_at hl 0 rfl) ?_
  refine lv_iload_n hx hb dX3_nth_1 rfl (lv_at hl 1 rfl) ?_
  obtain ⟨r1, hr1⟩ := bex (m < -119988 ∨ 119999 < m)
  refine c_P (As := [.int (iI m)]) (rest := [.ref (w 0)]) fx hl (pm_X3_isNoMonth l m r1 hr1 (by omega)) dX3_nth_2 k1488 k1489 k6 k1490 hd_X3_isNoMonth rfl ⟨by decide, by decide⟩ (Nat.le_of_ble_eq_true rfl) ⟨by dsimp only; omega, by dsimp only; omega⟩ ?_
  have br1 : r1 = 0 ∨ r1 = 1 := hr1.elim (fun h => Or.inr h.1) (fun h => Or.inl h.1)
  refine q_ine (tgt := 27) hx hb dX3_nth_5 (by decide) (by omega) (fun c2 => ?_) (fun c2 => ?_)
  · refine q_con hx hb dX3_nth_27 ?_
    refine lv_goto (tgt := 32) hx hb dX3_nth_28 (by decide) ?_
    refine q_con hx hb dX3_nth_32 ?_
    refine q_con hx hb dX3_nth_33 ?_
    obtain ⟨t3, f4, hq1t3, hq2t3⟩ := fails_ex 1 0 0 (by omega) (by omega) (by omega)
    have hmw : MWR θ S0 w s.heap r q dt sv th dn rf kn := ⟨hz, hu, hm, hd, hsv⟩
    refine c_M (w := w) (As := [.int (iI 1), .int (iI 0), .int (iI 0)]) (rest := []) (b := w 0) (C := RX3) fx hl (mw_fails θ l S0 _ w _ _ _ _ _ _ _ _ hmw 1 0 0 t3 f4 (by omega) hq1t3 hq2t3) (ob_recv hK hm.1 rfl) dX3_nth_34 k1119 k1121 ks10 k6 k1122 hd_X3_fails rfl ⟨by decide, by decide⟩ (Nat.le_of_ble_eq_true rfl) ⟨by dsimp only; omega, by dsimp only; omega⟩ hS (fun x hx => hx ▸ Or.inl (Or.inl rfl)) (fun H5 locs hmH5 hszH5 hk0H5 hS => ?_)
    have hkH5 : ∀ x : Nat, x < (s.heap).size → ¬ x = w 0 → H5[x]? = (s.heap)[x]? := hk0H5
    have hzH5 := hz0.at hAB hS
    have hltH5 := hmH5.lt
    refine q_ieq (tgt := 42) hx hb dX3_nth_37 (by decide) (by omega) (fun c6 => ?_) (fun c6 => ?_)
    · exact (show False by omega).elim
    · refine q_con hx hb dX3_nth_40 ?_
      obtain rfl : t3 = 1 := by omega
      have hmw : MWR θ S0 w H5 r q dt sv 1 dn rf kn := ⟨hzH5, hu, hmH5, hd, hsv⟩
      exact e_i hx hb hr hlk hS dX3_nth_41 (Nat.le_of_ble_eq_true rfl) (Nat.le_of_ble_eq_true rfl) ⟨ex_i (by omega), r, q, by first | exact hmw | (subst_vars; exact hmw) | (simp only [inI_self, inI_1, inI_31] at hmw; subst_vars; exact hmw), by first | exact nw_rf | exact nw_up (by omega) | exact nw_up2 (by omega), by first | exact nw_rf | exact nw_up (by omega) | exact nw_up2 (by omega)⟩
  · exact (show False by omega).elim

set_option maxHeartbeats 4000000 in
set_option maxRecDepth 100000 in
theorem mno2_nth (θ : TH) (l : Launch) (S0 : State) (H : Heap) (w : Nat → Nat) (r q : Nat → Nat) (dt : Nat → Int) (sv : Nat → Nat → Int) (th dn rf kn : Int) (hw : MWR θ S0 w H r q dt sv th dn rf kn) (m wd k : Int) (h_0 : -2147483648 ≤ m ∧ m < 2147483648) (h_1 : -2147483648 ≤ wd ∧ wd < 2147483648) (h_2 : -2147483648 ≤ k ∧ k < 2147483648) (h_3 : -119988 ≤ m ∧ m ≤ 119999) (h_4 : ¬ (1 ≤ wd ∧ wd ≤ 7)) : CT l yX3_nth cX3_nth 7 (some .int) 2 42 0 0 [.ref (w 0), .int (iI m), .int (iI wd), .int (iI k)] S0 H (fun v9 H1 => v9 = some (.int (iI 0)) ∧ ∃ r1 q1 : Nat → Nat, MWR θ S0 w H1 r1 q1 dt sv 1 dn rf kn ∧ NW 6 H.size r r1 ∧ NW 3 H.size q q1) (fun _ _ => False) (WA w H.size) := by
  refine ct_of (by decide +kernel) (Nat.le_of_ble_eq_true rfl) ?_
  intro pg en s mi args below meth co ls fx hs hr hlk hxt hin hl
  subst hs
  obtain ⟨hx, hb, hml, hown, hts⟩ := id fx.1
  have hS : va_S (WA w s.heap.size) s.heap s.heap [] := va_S.rf
  obtain ⟨hz, hu, hm, hd, hsv⟩ := id hw
  have hAB : ∀ x : Nat, (WA w s.heap.size) x → θ.2.2.2 ≤ x := wa_b hu hz.2.1
  have hz0 := hz
  have hK := sz_K fx.2 hz
  have hlt0 := hm.lt
  have hu1 := hu.1
  have hAn : ∀ x : Nat, s.heap.size ≤ x → (WA w s.heap.size) x := fun _ h => Or.inr h
  refine lv_aload_n hx hb dX3_nth_0 rfl (lv_at hl 0 rfl) ?_
  refine lv_iload_n hx hb dX3_nth_1 rfl (lv_at hl 1 rfl) ?_
  obtain ⟨r1, hr1⟩ := bex (m < -119988 ∨ 119999 < m)
  refine c_P (As := [.int (iI m)]) (rest := [.ref (w 0)]) fx hl (pm_X3_isNoMonth l m r1 hr1 (by omega)) dX3_nth_2 k1488 k1489 k6 k1490 hd_X3_isNoMonth rfl ⟨by decide, by decide⟩ (Nat.le_of_ble_eq_true rfl) ⟨by dsimp only; omega, by dsimp only; omega⟩ ?_
  have br1 : r1 = 0 ∨ r1 = 1 := hr1.elim (fun h => Or.inr h.1) (fun h => Or.inl h.1)
  refine q_ine (tgt := 27) hx hb dX3_nth_5 (by decide) (by omega) (fun c2 => ?_) (fun c2 => ?_)
  · exact (show False by omega).elim
  · refine lv_iload_n hx hb dX3_nth_8 rfl (lv_at hl 2 rfl) ?_
    refine q_con hx hb dX3_nth_9 ?_
    refine q_bip hx hb dX3_nth_10 (by decide) ?_
    obtain ⟨r3, hr3⟩ := bex (wd < 1 ∨ 7 < wd)
    refine c_P (As := [.int (iI wd), .int (iI 1), .int (iI 7)]) (rest := [.ref (w 0)]) fx hl (pm_X3_isOut l wd 1 7 r3 hr3 (by omega) (by omega) (by omega)) dX3_nth_12 k1116 k1117 k6 k1118 hd_X3_isOut rfl ⟨by decide, by decide⟩ (Nat.le_of_ble_eq_true rfl) ⟨by dsimp only; omega, by dsimp only; omega⟩ ?_
    have br3 : r3 = 0 ∨ r3 = 1 := hr3.elim (fun h => Or.inr h.1) (fun h => Or.inl h.1)
    refine q_ine (tgt := 27) hx hb dX3_nth_15 (by decide) (by omega) (fun c4 => ?_) (fun c4 => ?_)
    · refine q_con hx hb dX3_nth_27 ?_
      refine lv_goto (tgt := 32) hx hb dX3_nth_28 (by decide) ?_
      refine q_con hx hb dX3_nth_32 ?_
      refine q_con hx hb dX3_nth_33 ?_
      obtain ⟨t5, f6, hq1t5, hq2t5⟩ := fails_ex 1 0 0 (by omega) (by omega) (by omega)
      have hmw : MWR θ S0 w s.heap r q dt sv th dn rf kn := ⟨hz, hu, hm, hd, hsv⟩
      refine c_M (w := w) (As := [.int (iI 1), .int (iI 0), .int (iI 0)]) (rest := []) (b := w 0) (C := RX3) fx hl (mw_fails θ l S0 _ w _ _ _ _ _ _ _ _ hmw 1 0 0 t5 f6 (by omega) hq1t5 hq2t5) (ob_recv hK hm.1 rfl) dX3_nth_34 k1119 k1121 ks10 k6 k1122 hd_X3_fails rfl ⟨by decide, by decide⟩ (Nat.le_of_ble_eq_true rfl) ⟨by dsimp only; omega, by dsimp only; omega⟩ hS (fun x hx => hx ▸ Or.inl (Or.inl rfl)) (fun H7 locs hmH7 hszH7 hk0H7 hS => ?_)
      have hkH7 : ∀ x : Nat, x < (s.heap).size → ¬ x = w 0 → H7[x]? = (s.heap)[x]? := hk0H7
      have hzH7 := hz0.at hAB hS
      have hltH7 := hmH7.lt
      refine q_ieq (tgt := 42) hx hb dX3_nth_37 (by decide) (by omega) (fun c8 => ?_) (fun c8 => ?_)
      · exact (show False by omega).elim
      · refine q_con hx hb dX3_nth_40 ?_
        obtain rfl : t5 = 1 := by omega
        have hmw : MWR θ S0 w H7 r q dt sv 1 dn rf kn := ⟨hzH7, hu, hmH7, hd, hsv⟩
        exact e_i hx hb hr hlk hS dX3_nth_41 (Nat.le_of_ble_eq_true rfl) (Nat.le_of_ble_eq_true rfl) ⟨ex_i (by omega), r, q, by first | exact hmw | (subst_vars; exact hmw) | (simp only [inI_self, inI_1, inI_31] at hmw; subst_vars; exact hmw), by first | exact nw_rf | exact nw_up (by omega) | exact nw_up2 (by omega), by first | exact nw_rf | exact nw_up (by omega) | exact nw_up2 (by omega)⟩
    · exact (show False by omega).elim

set_option maxHeartbeats 4000000 in
set_option maxRecDepth 100000 in
theorem mno3_nth (θ : TH) (l : Launch) (S0 : State) (H : Heap) (w : Nat → Nat) (r q : Nat → Nat) (dt : Nat → Int) (sv : Nat → Nat → Int) (th dn rf kn : Int) (hw : MWR θ S0 w H r q dt sv th dn rf kn) (m wd k : Int) (h_0 : -2147483648 ≤ m ∧ m < 2147483648) (h_1 : -2147483648 ≤ wd ∧ wd < 2147483648) (h_2 : -2147483648 ≤ k ∧ k < 2147483648) (h_3 : -119988 ≤ m ∧ m ≤ 119999) (h_4 : 1 ≤ wd ∧ wd ≤ 7) (h_5 : ¬ (1 ≤ k ∧ k ≤ 5)) : CT l yX3_nth cX3_nth 7 (some .int) 2 42 0 0 [.ref (w 0), .int (iI m), .int (iI wd), .int (iI k)] S0 H (fun v9 H1 => v9 = some (.int (iI 0)) ∧ ∃ r1 q1 : Nat → Nat, MWR θ S0 w H1 r1 q1 dt sv 1 dn rf kn ∧ NW 6 H.size r r1 ∧ NW 3 H.size q q1) (fun _ _ => False) (WA w H.size) := by
  refine ct_of (by decide +kernel) (Nat.le_of_ble_eq_true rfl) ?_
  intro pg en s mi args below meth co ls fx hs hr hlk hxt hin hl
  subst hs
  obtain ⟨hx, hb, hml, hown, hts⟩ := id fx.1
  have hS : va_S (WA w s.heap.size) s.heap s.heap [] := va_S.rf
  obtain ⟨hz, hu, hm, hd, hsv⟩ := id hw
  have hAB : ∀ x : Nat, (WA w s.heap.size) x → θ.2.2.2 ≤ x := wa_b hu hz.2.1
  have hz0 := hz
  have hK := sz_K fx.2 hz
  have hlt0 := hm.lt
  have hu1 := hu.1
  have hAn : ∀ x : Nat, s.heap.size ≤ x → (WA w s.heap.size) x := fun _ h => Or.inr h
  refine lv_aload_n hx hb dX3_nth_0 rfl (lv_at hl 0 rfl) ?_
  refine lv_iload_n hx hb dX3_nth_1 rfl (lv_at hl 1 rfl) ?_
  obtain ⟨r1, hr1⟩ := bex (m < -119988 ∨ 119999 < m)
  refine c_P (As := [.int (iI m)]) (rest := [.ref (w 0)]) fx hl (pm_X3_isNoMonth l m r1 hr1 (by omega)) dX3_nth_2 k1488 k1489 k6 k1490 hd_X3_isNoMonth rfl ⟨by decide, by decide⟩ (Nat.le_of_ble_eq_true rfl) ⟨by dsimp only; omega, by dsimp only; omega⟩ ?_
  have br1 : r1 = 0 ∨ r1 = 1 := hr1.elim (fun h => Or.inr h.1) (fun h => Or.inl h.1)
  refine q_ine (tgt := 27) hx hb dX3_nth_5 (by decide) (by omega) (fun c2 => ?_) (fun c2 => ?_)
  · exact (show False by omega).elim
  · refine lv_iload_n hx hb dX3_nth_8 rfl (lv_at hl 2 rfl) ?_
    refine q_con hx hb dX3_nth_9 ?_
    refine q_bip hx hb dX3_nth_10 (by decide) ?_
    obtain ⟨r3, hr3⟩ := bex (wd < 1 ∨ 7 < wd)
    refine c_P (As := [.int (iI wd), .int (iI 1), .int (iI 7)]) (rest := [.ref (w 0)]) fx hl (pm_X3_isOut l wd 1 7 r3 hr3 (by omega) (by omega) (by omega)) dX3_nth_12 k1116 k1117 k6 k1118 hd_X3_isOut rfl ⟨by decide, by decide⟩ (Nat.le_of_ble_eq_true rfl) ⟨by dsimp only; omega, by dsimp only; omega⟩ ?_
    have br3 : r3 = 0 ∨ r3 = 1 := hr3.elim (fun h => Or.inr h.1) (fun h => Or.inl h.1)
    refine q_ine (tgt := 27) hx hb dX3_nth_15 (by decide) (by omega) (fun c4 => ?_) (fun c4 => ?_)
    · exact (show False by omega).elim
    · refine lv_iload_n hx hb dX3_nth_18 rfl (lv_at hl 3 rfl) ?_
      refine q_con hx hb dX3_nth_19 ?_
      refine q_con hx hb dX3_nth_20 ?_
      obtain ⟨r5, hr5⟩ := bex (k < 1 ∨ 5 < k)
      refine c_P (As := [.int (iI k), .int (iI 1), .int (iI 5)]) (rest := [.ref (w 0)]) fx hl (pm_X3_isOut l k 1 5 r5 hr5 (by omega) (by omega) (by omega)) dX3_nth_21 k1116 k1117 k6 k1118 hd_X3_isOut rfl ⟨by decide, by decide⟩ (Nat.le_of_ble_eq_true rfl) ⟨by dsimp only; omega, by dsimp only; omega⟩ ?_
      have br5 : r5 = 0 ∨ r5 = 1 := hr5.elim (fun h => Or.inr h.1) (fun h => Or.inl h.1)
      refine q_ieq (tgt := 31) hx hb dX3_nth_24 (by decide) (by omega) (fun c6 => ?_) (fun c6 => ?_)
      · exact (show False by omega).elim
      · refine q_con hx hb dX3_nth_27 ?_
        refine lv_goto (tgt := 32) hx hb dX3_nth_28 (by decide) ?_
        refine q_con hx hb dX3_nth_32 ?_
        refine q_con hx hb dX3_nth_33 ?_
        obtain ⟨t7, f8, hq1t7, hq2t7⟩ := fails_ex 1 0 0 (by omega) (by omega) (by omega)
        have hmw : MWR θ S0 w s.heap r q dt sv th dn rf kn := ⟨hz, hu, hm, hd, hsv⟩
        refine c_M (w := w) (As := [.int (iI 1), .int (iI 0), .int (iI 0)]) (rest := []) (b := w 0) (C := RX3) fx hl (mw_fails θ l S0 _ w _ _ _ _ _ _ _ _ hmw 1 0 0 t7 f8 (by omega) hq1t7 hq2t7) (ob_recv hK hm.1 rfl) dX3_nth_34 k1119 k1121 ks10 k6 k1122 hd_X3_fails rfl ⟨by decide, by decide⟩ (Nat.le_of_ble_eq_true rfl) ⟨by dsimp only; omega, by dsimp only; omega⟩ hS (fun x hx => hx ▸ Or.inl (Or.inl rfl)) (fun H9 locs hmH9 hszH9 hk0H9 hS => ?_)
        have hkH9 : ∀ x : Nat, x < (s.heap).size → ¬ x = w 0 → H9[x]? = (s.heap)[x]? := hk0H9
        have hzH9 := hz0.at hAB hS
        have hltH9 := hmH9.lt
        refine q_ieq (tgt := 42) hx hb dX3_nth_37 (by decide) (by omega) (fun c10 => ?_) (fun c10 => ?_)
        · exact (show False by omega).elim
        · refine q_con hx hb dX3_nth_40 ?_
          obtain rfl : t7 = 1 := by omega
          have hmw : MWR θ S0 w H9 r q dt sv 1 dn rf kn := ⟨hzH9, hu, hmH9, hd, hsv⟩
          exact e_i hx hb hr hlk hS dX3_nth_41 (Nat.le_of_ble_eq_true rfl) (Nat.le_of_ble_eq_true rfl) ⟨ex_i (by omega), r, q, by first | exact hmw | (subst_vars; exact hmw) | (simp only [inI_self, inI_1, inI_31] at hmw; subst_vars; exact hmw), by first | exact nw_rf | exact nw_up (by omega) | exact nw_up2 (by omega), by first | exact nw_rf | exact nw_up (by omega) | exact nw_up2 (by omega)⟩

set_option maxHeartbeats 4000000 in
set_option maxRecDepth 100000 in
theorem mok_inYear (θ : TH) (l : Launch) (S0 : State) (H : Heap) (w : Nat → Nat) (r q : Nat → Nat) (dt : Nat → Int) (sv : Nat → Nat → Int) (th dn rf kn : Int) (hw : MWR θ S0 w H r q dt sv th dn rf kn) (y k wd : Int) (h_0 : -2147483648 ≤ y ∧ y < 2147483648) (h_1 : -2147483648 ≤ k ∧ k < 2147483648) (h_2 : -2147483648 ≤ wd ∧ wd < 2147483648) (h_3 : -9999 ≤ y ∧ y ≤ 9999) (h_4 : 1 ≤ k ∧ k ≤ 31) (h_5 : 1 ≤ wd ∧ wd ≤ 7) : CT l yX3_inYear cX3_inYear 6 (some .int) 5 107 0 0 [.ref (w 0), .int (iI y), .int (iI k), .int (iI wd)] S0 H (fun v9 H1 => (∃ z : Int, v9 = some (.int (iI z))) ∧ ∃ r1 q1 : Nat → Nat, MWR θ S0 w H1 r1 q1 dt sv 0 dn rf kn ∧ NW 6 H.size r r1 ∧ NW 3 H.size q q1) (fun _ _ => False) (WA w H.size) := by
  refine ct_of (by decide +kernel) (Nat.le_of_ble_eq_true rfl) ?_
  intro pg en s mi args below meth co ls fx hs hr hlk hxt hin hl
  subst hs
  obtain ⟨hx, hb, hml, hown, hts⟩ := id fx.1
  have hS : va_S (WA w s.heap.size) s.heap s.heap [] := va_S.rf
  obtain ⟨hz, hu, hm, hd, hsv⟩ := id hw
  have hAB : ∀ x : Nat, (WA w s.heap.size) x → θ.2.2.2 ≤ x := wa_b hu hz.2.1
  have hz0 := hz
  have hK := sz_K fx.2 hz
  have hlt0 := hm.lt
  have hu1 := hu.1
  have hAn : ∀ x : Nat, s.heap.size ≤ x → (WA w s.heap.size) x := fun _ h => Or.inr h
  refine lv_aload_n hx hb dX3_inYear_0 rfl (lv_at hl 0 rfl) ?_
  refine lv_iload_n hx hb dX3_inYear_1 rfl (lv_at hl 1 rfl) ?_
  refine q_sip hx hb dX3_inYear_2 (by decide) ?_
  refine q_sip hx hb dX3_inYear_5 (by decide) ?_
  obtain ⟨r1, hr1⟩ := bex (y < (-9999) ∨ 9999 < y)
  refine c_P (As := [.int (iI y), .int (iI (-9999)), .int (iI 9999)]) (rest := [.ref (w 0)]) fx hl (pm_X3_isOut l y (-9999) 9999 r1 hr1 (by omega) (by omega) (by omega)) dX3_inYear_8 k1116 k1117 k6 k1118 hd_X3_isOut rfl ⟨by decide, by decide⟩ (Nat.le_of_ble_eq_true rfl) ⟨by dsimp only; omega, by dsimp only; omega⟩ ?_
  have br1 : r1 = 0 ∨ r1 = 1 := hr1.elim (fun h => Or.inr h.1) (fun h => Or.inl h.1)
  refine q_ine (tgt := 34) hx hb dX3_inYear_11 (by decide) (by omega) (fun c2 => ?_) (fun c2 => ?_)
  · exact (show False by omega).elim
  · refine lv_iload_n hx hb dX3_inYear_14 rfl (lv_at hl 2 rfl) ?_
    refine q_con hx hb dX3_inYear_15 ?_
    refine q_bip hx hb dX3_inYear_16 (by decide) ?_
    obtain ⟨r3, hr3⟩ := bex (k < 1 ∨ 31 < k)
    refine c_P (As := [.int (iI k), .int (iI 1), .int (iI 31)]) (rest := [.ref (w 0)]) fx hl (pm_X3_isOut l k 1 31 r3 hr3 (by omega) (by omega) (by omega)) dX3_inYear_18 k1116 k1117 k6 k1118 hd_X3_isOut rfl ⟨by decide, by decide⟩ (Nat.le_of_ble_eq_true rfl) ⟨by dsimp only; omega, by dsimp only; omega⟩ ?_
    have br3 : r3 = 0 ∨ r3 = 1 := hr3.elim (fun h => Or.inr h.1) (fun h => Or.inl h.1)
    refine q_ine (tgt := 34) hx hb dX3_inYear_21 (by decide) (by omega) (fun c4 => ?_) (fun c4 => ?_)
    · exact (show False by omega).elim
    · refine lv_iload_n hx hb dX3_inYear_24 rfl (lv_at hl 3 rfl) ?_
      refine q_con hx hb dX3_inYear_25 ?_
      refine q_bip hx hb dX3_inYear_26 (by decide) ?_
      obtain ⟨r5, hr5⟩ := bex (wd < 1 ∨ 7 < wd)
      refine c_P (As := [.int (iI wd), .int (iI 1), .int (iI 7)]) (rest := [.ref (w 0)]) fx hl (pm_X3_isOut l wd 1 7 r5 hr5 (by omega) (by omega) (by omega)) dX3_inYear_28 k1116 k1117 k6 k1118 hd_X3_isOut rfl ⟨by decide, by decide⟩ (Nat.le_of_ble_eq_true rfl) ⟨by dsimp only; omega, by dsimp only; omega⟩ ?_
      have br5 : r5 = 0 ∨ r5 = 1 := hr5.elim (fun h => Or.inr h.1) (fun h => Or.inl h.1)
      refine q_ieq (tgt := 38) hx hb dX3_inYear_31 (by decide) (by omega) (fun c6 => ?_) (fun c6 => ?_)
      · refine q_con hx hb dX3_inYear_38 ?_
        refine q_con hx hb dX3_inYear_39 ?_
        refine q_con hx hb dX3_inYear_40 ?_
        obtain ⟨t7, f8, hq1t7, hq2t7⟩ := fails_ex 0 0 0 (by omega) (by omega) (by omega)
        have hmw : MWR θ S0 w s.heap r q dt sv th dn rf kn := ⟨hz, hu, hm, hd, hsv⟩
        refine c_M (w := w) (As := [.int (iI 0), .int (iI 0), .int (iI 0)]) (rest := []) (b := w 0) (C := RX3) fx hl (mw_fails θ l S0 _ w _ _ _ _ _ _ _ _ hmw 0 0 0 t7 f8 (by omega) hq1t7 hq2t7) (ob_recv hK hm.1 rfl) dX3_inYear_41 k1119 k1121 ks10 k6 k1122 hd_X3_fails rfl ⟨by decide, by decide⟩ (Nat.le_of_ble_eq_true rfl) ⟨by dsimp only; omega, by dsimp only; omega⟩ hS (fun x hx => hx ▸ Or.inl (Or.inl rfl)) (fun H9 locs hmH9 hszH9 hk0H9 hS => ?_)
        have hkH9 : ∀ x : Nat, x < (s.heap).size → ¬ x = w 0 → H9[x]? = (s.heap)[x]? := hk0H9
        have hzH9 := hz0.at hAB hS
        have hltH9 := hmH9.lt
        refine q_ieq (tgt := 49) hx hb dX3_inYear_44 (by decide) (by omega) (fun c10 => ?_) (fun c10 => ?_)
        · refine q_con hx hb dX3_inYear_49 ?_
          refine lv_istore (lv' := [(4, .int (iI 0)), (0, .ref (w 0)), (1, .int (iI y)), (2, .int (iI k)), (3, .int (iI wd))]) hx hb dX3_inYear_50 hl (by decide) rfl (fun ls hl => ?_)
          refine q_bip hx hb dX3_inYear_52 (by decide) ?_
          refine lv_iload_n hx hb dX3_inYear_54 rfl (lv_at hl 2 rfl) ?_
          refine q_mul hx hb dX3_inYear_55 ?_
          refine q_nm (fun z11 ez11 => ?_)
          refine lv_istore (lv' := [(5, .int (iI z11)), (4, .int (iI 0)), (0, .ref (w 0)), (1, .int (iI y)), (2, .int (iI k)), (3, .int (iI wd))]) hx hb dX3_inYear_56 hl (by decide) rfl (fun ls hl => ?_)
          refine w_loop (nL := 6) (σ := Int × Int) (fun x => (12 * y + 12 - x.2).toNat) (fun x => (12 * y ≤ x.2 ∧ x.2 ≤ 12 * y + 12) ∧ (0 ≤ x.1 ∧ x.1 ≤ x.2 - 12 * y)) (fun x => [(4, .int (iI x.1)), (5, .int (iI x.2)), (0, .ref (w 0)), (1, .int (iI y)), (2, .int (iI k)), (3, .int (iI wd))]) ?_ ((0 : Int), (z11 : Int)) ⟨by (try dsimp only); omega, by (try dsimp only); omega⟩ (lv_sub hl [1, 0, 2, 3, 4, 5] rfl)
          intro x hI58 ih58 ls hl
          obtain ⟨f, j⟩ := x
          (try dsimp only at hI58 ih58 hl ⊢)
          have tt1 := fI_bd j
          have tt2 := fI_bd (j + 1)
          refine lv_iload hx hb dX3_inYear_58 (lv_at hl 1 rfl) ?_
          refine q_bip hx hb dX3_inYear_60 (by decide) ?_
          refine lv_iload_n hx hb dX3_inYear_62 rfl (lv_at hl 3 rfl) ?_
          refine q_mul hx hb dX3_inYear_63 ?_
          refine q_bip hx hb dX3_inYear_64 (by decide) ?_
          refine q_add hx hb dX3_inYear_66 ?_
          refine q_cge (tgt := 114) hx hb dX3_inYear_67 (by decide) (by omega) (by omega) (fun c12 => ?_) (fun c12 => ?_)
          · refine lv_iload hx hb dX3_inYear_114 (lv_at hl 0 rfl) ?_
            obtain rfl : t7 = 0 := by omega
            have hmw : MWR θ S0 w H9 r q dt sv 0 dn rf kn := ⟨hzH9, hu, hmH9, hd, hsv⟩
            exact e_i hx hb hr hlk hS dX3_inYear_116 (Nat.le_of_ble_eq_true rfl) (Nat.le_of_ble_eq_true rfl) ⟨⟨_, rfl⟩, r, q, by first | exact hmw | (subst_vars; exact hmw) | (simp only [inI_self, inI_1, inI_31] at hmw; subst_vars; exact hmw), by first | exact nw_rf | exact nw_up (by omega) | exact nw_up2 (by omega), by first | exact nw_rf | exact nw_up (by omega) | exact nw_up2 (by omega)⟩
          · refine lv_iload hx hb dX3_inYear_70 (lv_at hl 0 rfl) ?_
            refine lv_iload_n hx hb dX3_inYear_72 rfl (lv_at hl 4 rfl) ?_
            refine lv_iload hx hb dX3_inYear_73 (lv_at hl 1 rfl) ?_
            refine c_H (As := [.int (iI j)]) (rest := [.int (iI k), .int (iI f)]) fx hl (pm_X3_length θ l S0 _ hzH9 j (by omega)) dX3_inYear_75 k1085 k1086 k6 k1087 hd_X3_length rfl ⟨by decide, by decide⟩ (Nat.le_of_ble_eq_true rfl) ⟨by dsimp only; omega, by dsimp only; omega⟩ ?_
            refine q_nm (fun z13 ez13 => ?_)
            have t0z13 := len_b j
            refine q_cgt (tgt := 101) hx hb dX3_inYear_78 (by decide) (by omega) (by omega) (fun c14 => ?_) (fun c14 => ?_)
            · refine q_con hx hb dX3_inYear_101 ?_
              refine c_P (As := [.int (iI 0)]) (rest := [.int (iI f)]) fx hl (pm_X3_one l 0 (by omega)) dX3_inYear_102 k1239 k1240 k6 k1241 hd_X3_one rfl ⟨by decide, by decide⟩ (Nat.le_of_ble_eq_true rfl) ⟨by dsimp only; omega, by dsimp only; omega⟩ ?_
              refine q_add hx hb dX3_inYear_105 ?_
              refine q_nm (fun z16 ez16 => ?_)
              refine lv_istore (lv' := [(4, .int (iI z16)), (5, .int (iI j)), (0, .ref (w 0)), (1, .int (iI y)), (2, .int (iI k)), (3, .int (iI wd))]) hx hb dX3_inYear_106 hl (by decide) rfl (fun ls hl => ?_)
              refine lv_iinc (v := iI (j + 1)) (lv' := [(5, .int (iI (j + 1))), (4, .int (iI z16)), (0, .ref (w 0)), (1, .int (iI y)), (2, .int (iI k)), (3, .int (iI wd))]) hx hb dX3_inYear_108 hl (k := 1) rfl (iI_add _ _) (by decide) rfl (fun ls hl => ?_)
              refine lv_goto (tgt := 58) hx hb dX3_inYear_111 (by decide) ?_
              exact ih58 (z16, j + 1) _ ⟨by (try dsimp only); omega, by (try dsimp only); omega⟩ (by (try dsimp only); omega) (lv_sub hl [1, 0, 2, 3, 4, 5] rfl)
            · refine lv_iload hx hb dX3_inYear_81 (lv_at hl 1 rfl) ?_
              refine c_H (As := [.int (iI j)]) (rest := [.int (iI f)]) fx hl (pm_X3_begin θ l S0 _ hzH9 j (by omega)) dX3_inYear_83 k1136 k1137 k6 k1138 hd_X3_begin rfl ⟨by decide, by decide⟩ (Nat.le_of_ble_eq_true rfl) ⟨by dsimp only; omega, by dsimp only; omega⟩ ?_
              have t0z17 := fI_bd j
              refine lv_iload_n hx hb dX3_inYear_86 rfl (lv_at hl 4 rfl) ?_
              refine q_add hx hb dX3_inYear_87 ?_
              refine q_con hx hb dX3_inYear_88 ?_
              refine q_sub hx hb dX3_inYear_89 ?_
              refine c_P (As := [.int (iI (((fI j) + k) - 1))]) (rest := [.int (iI f)]) fx hl (pm_X3_weekdayOf l (((fI j) + k) - 1) (by omega)) dX3_inYear_90 k1149 k1150 k6 k1151 hd_X3_weekdayOf rfl ⟨by decide, by decide⟩ (Nat.le_of_ble_eq_true rfl) ⟨by dsimp only; omega, by dsimp only; omega⟩ ?_
              have t0z18 := wI_b (((fI j) + k) - 1)
              refine lv_iload_n hx hb dX3_inYear_93 rfl (lv_at hl 5 rfl) ?_
              refine q_cne (tgt := 101) hx hb dX3_inYear_94 (by decide) (by omega) (by omega) (fun c19 => ?_) (fun c19 => ?_)
              · refine q_con hx hb dX3_inYear_101 ?_
                refine c_P (As := [.int (iI 0)]) (rest := [.int (iI f)]) fx hl (pm_X3_one l 0 (by omega)) dX3_inYear_102 k1239 k1240 k6 k1241 hd_X3_one rfl ⟨by decide, by decide⟩ (Nat.le_of_ble_eq_true rfl) ⟨by dsimp only; omega, by dsimp only; omega⟩ ?_
                refine q_add hx hb dX3_inYear_105 ?_
                refine q_nm (fun z21 ez21 => ?_)
                refine lv_istore (lv' := [(4, .int (iI z21)), (5, .int (iI j)), (0, .ref (w 0)), (1, .int (iI y)), (2, .int (iI k)), (3, .int (iI wd))]) hx hb dX3_inYear_106 hl (by decide) rfl (fun ls hl => ?_)
                refine lv_iinc (v := iI (j + 1)) (lv' := [(5, .int (iI (j + 1))), (4, .int (iI z21)), (0, .ref (w 0)), (1, .int (iI y)), (2, .int (iI k)), (3, .int (iI wd))]) hx hb dX3_inYear_108 hl (k := 1) rfl (iI_add _ _) (by decide) rfl (fun ls hl => ?_)
                refine lv_goto (tgt := 58) hx hb dX3_inYear_111 (by decide) ?_
                exact ih58 (z21, j + 1) _ ⟨by (try dsimp only); omega, by (try dsimp only); omega⟩ (by (try dsimp only); omega) (lv_sub hl [1, 0, 2, 3, 4, 5] rfl)
              · refine q_con hx hb dX3_inYear_97 ?_
                refine lv_goto (tgt := 102) hx hb dX3_inYear_98 (by decide) ?_
                refine c_P (As := [.int (iI 1)]) (rest := [.int (iI f)]) fx hl (pm_X3_one l 1 (by omega)) dX3_inYear_102 k1239 k1240 k6 k1241 hd_X3_one rfl ⟨by decide, by decide⟩ (Nat.le_of_ble_eq_true rfl) ⟨by dsimp only; omega, by dsimp only; omega⟩ ?_
                refine q_add hx hb dX3_inYear_105 ?_
                refine q_nm (fun z23 ez23 => ?_)
                refine lv_istore (lv' := [(4, .int (iI z23)), (5, .int (iI j)), (0, .ref (w 0)), (1, .int (iI y)), (2, .int (iI k)), (3, .int (iI wd))]) hx hb dX3_inYear_106 hl (by decide) rfl (fun ls hl => ?_)
                refine lv_iinc (v := iI (j + 1)) (lv' := [(5, .int (iI (j + 1))), (4, .int (iI z23)), (0, .ref (w 0)), (1, .int (iI y)), (2, .int (iI k)), (3, .int (iI wd))]) hx hb dX3_inYear_108 hl (k := 1) rfl (iI_add _ _) (by decide) rfl (fun ls hl => ?_)
                refine lv_goto (tgt := 58) hx hb dX3_inYear_111 (by decide) ?_
                exact ih58 (z23, j + 1) _ ⟨by (try dsimp only); omega, by (try dsimp only); omega⟩ (by (try dsimp only); omega) (lv_sub hl [1, 0, 2, 3, 4, 5] rfl)
        · exact (show False by omega).elim
      · exact (show False by omega).elim

set_option maxHeartbeats 4000000 in
set_option maxRecDepth 100000 in
theorem mno1_inYear (θ : TH) (l : Launch) (S0 : State) (H : Heap) (w : Nat → Nat) (r q : Nat → Nat) (dt : Nat → Int) (sv : Nat → Nat → Int) (th dn rf kn : Int) (hw : MWR θ S0 w H r q dt sv th dn rf kn) (y k wd : Int) (h_0 : -2147483648 ≤ y ∧ y < 2147483648) (h_1 : -2147483648 ≤ k ∧ k < 2147483648) (h_2 : -2147483648 ≤ wd ∧ wd < 2147483648) (h_3 : ¬ (-9999 ≤ y ∧ y ≤ 9999)) : CT l yX3_inYear cX3_inYear 6 (some .int) 1 23 0 0 [.ref (w 0), .int (iI y), .int (iI k), .int (iI wd)] S0 H (fun v9 H1 => v9 = some (.int (iI 0)) ∧ ∃ r1 q1 : Nat → Nat, MWR θ S0 w H1 r1 q1 dt sv 1 dn rf kn ∧ NW 6 H.size r r1 ∧ NW 3 H.size q q1) (fun _ _ => False) (WA w H.size) := by
  refine ct_of (by decide +kernel) (Nat.le_of_ble_eq_true rfl) ?_
  intro pg en s mi args below meth co ls fx hs hr hlk hxt hin hl
  subst hs
  obtain ⟨hx, hb, hml, hown, hts⟩ := id fx.1
  have hS : va_S (WA w s.heap.size) s.heap s.heap [] := va_S.rf
  obtain ⟨hz, hu, hm, hd, hsv⟩ := id hw
  have hAB : ∀ x : Nat, (WA w s.heap.size) x → θ.2.2.2 ≤ x := wa_b hu hz.2.1
  have hz0 := hz
  have hK := sz_K fx.2 hz
  have hlt0 := hm.lt
  have hu1 := hu.1
  have hAn : ∀ x : Nat, s.heap.size ≤ x → (WA w s.heap.size) x := fun _ h => Or.inr h
  refine lv_aload_n hx hb dX3_inYear_0 rfl (lv_at hl 0 rfl) ?_
  refine lv_iload_n hx hb dX3_inYear_1 rfl (lv_at hl 1 rfl) ?_
  refine q_sip hx hb dX3_inYear_2 (by decide) ?_
  refine q_sip hx hb dX3_inYear_5 (by decide) ?_
  obtain ⟨r1, hr1⟩ := bex (y < (-9999) ∨ 9999 < y)
  refine c_P (As := [.int (iI y), .int (iI (-9999)), .int (iI 9999)]) (rest := [.ref (w 0)]) fx hl (pm_X3_isOut l y (-9999) 9999 r1 hr1 (by omega) (by omega) (by omega)) dX3_inYear_8 k1116 k1117 k6 k1118 hd_X3_isOut rfl ⟨by decide, by decide⟩ (Nat.le_of_ble_eq_true rfl) ⟨by dsimp only; omega, by dsimp only; omega⟩ ?_
  have br1 : r1 = 0 ∨ r1 = 1 := hr1.elim (fun h => Or.inr h.1) (fun h => Or.inl h.1)
  refine q_ine (tgt := 34) hx hb dX3_inYear_11 (by decide) (by omega) (fun c2 => ?_) (fun c2 => ?_)
  · refine q_con hx hb dX3_inYear_34 ?_
    refine lv_goto (tgt := 39) hx hb dX3_inYear_35 (by decide) ?_
    refine q_con hx hb dX3_inYear_39 ?_
    refine q_con hx hb dX3_inYear_40 ?_
    obtain ⟨t3, f4, hq1t3, hq2t3⟩ := fails_ex 1 0 0 (by omega) (by omega) (by omega)
    have hmw : MWR θ S0 w s.heap r q dt sv th dn rf kn := ⟨hz, hu, hm, hd, hsv⟩
    refine c_M (w := w) (As := [.int (iI 1), .int (iI 0), .int (iI 0)]) (rest := []) (b := w 0) (C := RX3) fx hl (mw_fails θ l S0 _ w _ _ _ _ _ _ _ _ hmw 1 0 0 t3 f4 (by omega) hq1t3 hq2t3) (ob_recv hK hm.1 rfl) dX3_inYear_41 k1119 k1121 ks10 k6 k1122 hd_X3_fails rfl ⟨by decide, by decide⟩ (Nat.le_of_ble_eq_true rfl) ⟨by dsimp only; omega, by dsimp only; omega⟩ hS (fun x hx => hx ▸ Or.inl (Or.inl rfl)) (fun H5 locs hmH5 hszH5 hk0H5 hS => ?_)
    have hkH5 : ∀ x : Nat, x < (s.heap).size → ¬ x = w 0 → H5[x]? = (s.heap)[x]? := hk0H5
    have hzH5 := hz0.at hAB hS
    have hltH5 := hmH5.lt
    refine q_ieq (tgt := 49) hx hb dX3_inYear_44 (by decide) (by omega) (fun c6 => ?_) (fun c6 => ?_)
    · exact (show False by omega).elim
    · refine q_con hx hb dX3_inYear_47 ?_
      obtain rfl : t3 = 1 := by omega
      have hmw : MWR θ S0 w H5 r q dt sv 1 dn rf kn := ⟨hzH5, hu, hmH5, hd, hsv⟩
      exact e_i hx hb hr hlk hS dX3_inYear_48 (Nat.le_of_ble_eq_true rfl) (Nat.le_of_ble_eq_true rfl) ⟨ex_i (by omega), r, q, by first | exact hmw | (subst_vars; exact hmw) | (simp only [inI_self, inI_1, inI_31] at hmw; subst_vars; exact hmw), by first | exact nw_rf | exact nw_up (by omega) | exact nw_up2 (by omega), by first | exact nw_rf | exact nw_up (by omega) | exact nw_up2 (by omega)⟩
  · exact (show False by omega).elim

set_option maxHeartbeats 4000000 in
set_option maxRecDepth 100000 in
theorem mno2_inYear (θ : TH) (l : Launch) (S0 : State) (H : Heap) (w : Nat → Nat) (r q : Nat → Nat) (dt : Nat → Int) (sv : Nat → Nat → Int) (th dn rf kn : Int) (hw : MWR θ S0 w H r q dt sv th dn rf kn) (y k wd : Int) (h_0 : -2147483648 ≤ y ∧ y < 2147483648) (h_1 : -2147483648 ≤ k ∧ k < 2147483648) (h_2 : -2147483648 ≤ wd ∧ wd < 2147483648) (h_3 : -9999 ≤ y ∧ y ≤ 9999) (h_4 : ¬ (1 ≤ k ∧ k ≤ 31)) : CT l yX3_inYear cX3_inYear 6 (some .int) 1 23 0 0 [.ref (w 0), .int (iI y), .int (iI k), .int (iI wd)] S0 H (fun v9 H1 => v9 = some (.int (iI 0)) ∧ ∃ r1 q1 : Nat → Nat, MWR θ S0 w H1 r1 q1 dt sv 1 dn rf kn ∧ NW 6 H.size r r1 ∧ NW 3 H.size q q1) (fun _ _ => False) (WA w H.size) := by
  refine ct_of (by decide +kernel) (Nat.le_of_ble_eq_true rfl) ?_
  intro pg en s mi args below meth co ls fx hs hr hlk hxt hin hl
  subst hs
  obtain ⟨hx, hb, hml, hown, hts⟩ := id fx.1
  have hS : va_S (WA w s.heap.size) s.heap s.heap [] := va_S.rf
  obtain ⟨hz, hu, hm, hd, hsv⟩ := id hw
  have hAB : ∀ x : Nat, (WA w s.heap.size) x → θ.2.2.2 ≤ x := wa_b hu hz.2.1
  have hz0 := hz
  have hK := sz_K fx.2 hz
  have hlt0 := hm.lt
  have hu1 := hu.1
  have hAn : ∀ x : Nat, s.heap.size ≤ x → (WA w s.heap.size) x := fun _ h => Or.inr h
  refine lv_aload_n hx hb dX3_inYear_0 rfl (lv_at hl 0 rfl) ?_
  refine lv_iload_n hx hb dX3_inYear_1 rfl (lv_at hl 1 rfl) ?_
  refine q_sip hx hb dX3_inYear_2 (by decide) ?_
  refine q_sip hx hb dX3_inYear_5 (by decide) ?_
  obtain ⟨r1, hr1⟩ := bex (y < (-9999) ∨ 9999 < y)
  refine c_P (As := [.int (iI y), .int (iI (-9999)), .int (iI 9999)]) (rest := [.ref (w 0)]) fx hl (pm_X3_isOut l y (-9999) 9999 r1 hr1 (by omega) (by omega) (by omega)) dX3_inYear_8 k1116 k1117 k6 k1118 hd_X3_isOut rfl ⟨by decide, by decide⟩ (Nat.le_of_ble_eq_true rfl) ⟨by dsimp only; omega, by dsimp only; omega⟩ ?_
  have br1 : r1 = 0 ∨ r1 = 1 := hr1.elim (fun h => Or.inr h.1) (fun h => Or.inl h.1)
  refine q_ine (tgt := 34) hx hb dX3_inYear_11 (by decide) (by omega) (fun c2 => ?_) (fun c2 => ?_)
  · exact (show False by omega).elim
  · refine lv_iload_n hx hb dX3_inYear_14 rfl (lv_at hl 2 rfl) ?_
    refine q_con hx hb dX3_inYear_15 ?_
    refine q_bip hx hb dX3_inYear_16 (by decide) ?_
    obtain ⟨r3, hr3⟩ := bex (k < 1 ∨ 31 < k)
    refine c_P (As := [.int (iI k), .int (iI 1), .int (iI 31)]) (rest := [.ref (w 0)]) fx hl (pm_X3_isOut l k 1 31 r3 hr3 (by omega) (by omega) (by omega)) dX3_inYear_18 k1116 k1117 k6 k1118 hd_X3_isOut rfl ⟨by decide, by decide⟩ (Nat.le_of_ble_eq_true rfl) ⟨by dsimp only; omega, by dsimp only; omega⟩ ?_
    have br3 : r3 = 0 ∨ r3 = 1 := hr3.elim (fun h => Or.inr h.1) (fun h => Or.inl h.1)
    refine q_ine (tgt := 34) hx hb dX3_inYear_21 (by decide) (by omega) (fun c4 => ?_) (fun c4 => ?_)
    · refine q_con hx hb dX3_inYear_34 ?_
      refine lv_goto (tgt := 39) hx hb dX3_inYear_35 (by decide) ?_
      refine q_con hx hb dX3_inYear_39 ?_
      refine q_con hx hb dX3_inYear_40 ?_
      obtain ⟨t5, f6, hq1t5, hq2t5⟩ := fails_ex 1 0 0 (by omega) (by omega) (by omega)
      have hmw : MWR θ S0 w s.heap r q dt sv th dn rf kn := ⟨hz, hu, hm, hd, hsv⟩
      refine c_M (w := w) (As := [.int (iI 1), .int (iI 0), .int (iI 0)]) (rest := []) (b := w 0) (C := RX3) fx hl (mw_fails θ l S0 _ w _ _ _ _ _ _ _ _ hmw 1 0 0 t5 f6 (by omega) hq1t5 hq2t5) (ob_recv hK hm.1 rfl) dX3_inYear_41 k1119 k1121 ks10 k6 k1122 hd_X3_fails rfl ⟨by decide, by decide⟩ (Nat.le_of_ble_eq_true rfl) ⟨by dsimp only; omega, by dsimp only; omega⟩ hS (fun x hx => hx ▸ Or.inl (Or.inl rfl)) (fun H7 locs hmH7 hszH7 hk0H7 hS => ?_)
      have hkH7 : ∀ x : Nat, x < (s.heap).size → ¬ x = w 0 → H7[x]? = (s.heap)[x]? := hk0H7
      have hzH7 := hz0.at hAB hS
      have hltH7 := hmH7.lt
      refine q_ieq (tgt := 49) hx hb dX3_inYear_44 (by decide) (by omega) (fun c8 => ?_) (fun c8 => ?_)
      · exact (show False by omega).elim
      · refine q_con hx hb dX3_inYear_47 ?_
        obtain rfl : t5 = 1 := by omega
        have hmw : MWR θ S0 w H7 r q dt sv 1 dn rf kn := ⟨hzH7, hu, hmH7, hd, hsv⟩
        exact e_i hx hb hr hlk hS dX3_inYear_48 (Nat.le_of_ble_eq_true rfl) (Nat.le_of_ble_eq_true rfl) ⟨ex_i (by omega), r, q, by first | exact hmw | (subst_vars; exact hmw) | (simp only [inI_self, inI_1, inI_31] at hmw; subst_vars; exact hmw), by first | exact nw_rf | exact nw_up (by omega) | exact nw_up2 (by omega), by first | exact nw_rf | exact nw_up (by omega) | exact nw_up2 (by omega)⟩
    · exact (show False by omega).elim

set_option maxHeartbeats 4000000 in
set_option maxRecDepth 100000 in
theorem mno3_inYear (θ : TH) (l : Launch) (S0 : State) (H : Heap) (w : Nat → Nat) (r q : Nat → Nat) (dt : Nat → Int) (sv : Nat → Nat → Int) (th dn rf kn : Int) (hw : MWR θ S0 w H r q dt sv th dn rf kn) (y k wd : Int) (h_0 : -2147483648 ≤ y ∧ y < 2147483648) (h_1 : -2147483648 ≤ k ∧ k < 2147483648) (h_2 : -2147483648 ≤ wd ∧ wd < 2147483648) (h_3 : -9999 ≤ y ∧ y ≤ 9999) (h_4 : 1 ≤ k ∧ k ≤ 31) (h_5 : ¬ (1 ≤ wd ∧ wd ≤ 7)) : CT l yX3_inYear cX3_inYear 6 (some .int) 1 23 0 0 [.ref (w 0), .int (iI y), .int (iI k), .int (iI wd)] S0 H (fun v9 H1 => v9 = some (.int (iI 0)) ∧ ∃ r1 q1 : Nat → Nat, MWR θ S0 w H1 r1 q1 dt sv 1 dn rf kn ∧ NW 6 H.size r r1 ∧ NW 3 H.size q q1) (fun _ _ => False) (WA w H.size) := by
  refine ct_of (by decide +kernel) (Nat.le_of_ble_eq_true rfl) ?_
  intro pg en s mi args below meth co ls fx hs hr hlk hxt hin hl
  subst hs
  obtain ⟨hx, hb, hml, hown, hts⟩ := id fx.1
  have hS : va_S (WA w s.heap.size) s.heap s.heap [] := va_S.rf
  obtain ⟨hz, hu, hm, hd, hsv⟩ := id hw
  have hAB : ∀ x : Nat, (WA w s.heap.size) x → θ.2.2.2 ≤ x := wa_b hu hz.2.1
  have hz0 := hz
  have hK := sz_K fx.2 hz
  have hlt0 := hm.lt
  have hu1 := hu.1
  have hAn : ∀ x : Nat, s.heap.size ≤ x → (WA w s.heap.size) x := fun _ h => Or.inr h
  refine lv_aload_n hx hb dX3_inYear_0 rfl (lv_at hl 0 rfl) ?_
  refine lv_iload_n hx hb dX3_inYear_1 rfl (lv_at hl 1 rfl) ?_
  refine q_sip hx hb dX3_inYear_2 (by decide) ?_
  refine q_sip hx hb dX3_inYear_5 (by decide) ?_
  obtain ⟨r1, hr1⟩ := bex (y < (-9999) ∨ 9999 < y)
  refine c_P (As := [.int (iI y), .int (iI (-9999)), .int (iI 9999)]) (rest := [.ref (w 0)]) fx hl (pm_X3_isOut l y (-9999) 9999 r1 hr1 (by omega) (by omega) (by omega)) dX3_inYear_8 k1116 k1117 k6 k1118 hd_X3_isOut rfl ⟨by decide, by decide⟩ (Nat.le_of_ble_eq_true rfl) ⟨by dsimp only; omega, by dsimp only; omega⟩ ?_
  have br1 : r1 = 0 ∨ r1 = 1 := hr1.elim (fun h => Or.inr h.1) (fun h => Or.inl h.1)
  refine q_ine (tgt := 34) hx hb dX3_inYear_11 (by decide) (by omega) (fun c2 => ?_) (fun c2 => ?_)
  · exact (show False by omega).elim
  · refine lv_iload_n hx hb dX3_inYear_14 rfl (lv_at hl 2 rfl) ?_
    refine q_con hx hb dX3_inYear_15 ?_
    refine q_bip hx hb dX3_inYear_16 (by decide) ?_
    obtain ⟨r3, hr3⟩ := bex (k < 1 ∨ 31 < k)
    refine c_P (As := [.int (iI k), .int (iI 1), .int (iI 31)]) (rest := [.ref (w 0)]) fx hl (pm_X3_isOut l k 1 31 r3 hr3 (by omega) (by omega) (by omega)) dX3_inYear_18 k1116 k1117 k6 k1118 hd_X3_isOut rfl ⟨by decide, by decide⟩ (Nat.le_of_ble_eq_true rfl) ⟨by dsimp only; omega, by dsimp only; omega⟩ ?_
    have br3 : r3 = 0 ∨ r3 = 1 := hr3.elim (fun h => Or.inr h.1) (fun h => Or.inl h.1)
    refine q_ine (tgt := 34) hx hb dX3_inYear_21 (by decide) (by omega) (fun c4 => ?_) (fun c4 => ?_)
    · exact (show False by omega).elim
    · refine lv_iload_n hx hb dX3_inYear_24 rfl (lv_at hl 3 rfl) ?_
      refine q_con hx hb dX3_inYear_25 ?_
      refine q_bip hx hb dX3_inYear_26 (by decide) ?_
      obtain ⟨r5, hr5⟩ := bex (wd < 1 ∨ 7 < wd)
      refine c_P (As := [.int (iI wd), .int (iI 1), .int (iI 7)]) (rest := [.ref (w 0)]) fx hl (pm_X3_isOut l wd 1 7 r5 hr5 (by omega) (by omega) (by omega)) dX3_inYear_28 k1116 k1117 k6 k1118 hd_X3_isOut rfl ⟨by decide, by decide⟩ (Nat.le_of_ble_eq_true rfl) ⟨by dsimp only; omega, by dsimp only; omega⟩ ?_
      have br5 : r5 = 0 ∨ r5 = 1 := hr5.elim (fun h => Or.inr h.1) (fun h => Or.inl h.1)
      refine q_ieq (tgt := 38) hx hb dX3_inYear_31 (by decide) (by omega) (fun c6 => ?_) (fun c6 => ?_)
      · exact (show False by omega).elim
      · refine q_con hx hb dX3_inYear_34 ?_
        refine lv_goto (tgt := 39) hx hb dX3_inYear_35 (by decide) ?_
        refine q_con hx hb dX3_inYear_39 ?_
        refine q_con hx hb dX3_inYear_40 ?_
        obtain ⟨t7, f8, hq1t7, hq2t7⟩ := fails_ex 1 0 0 (by omega) (by omega) (by omega)
        have hmw : MWR θ S0 w s.heap r q dt sv th dn rf kn := ⟨hz, hu, hm, hd, hsv⟩
        refine c_M (w := w) (As := [.int (iI 1), .int (iI 0), .int (iI 0)]) (rest := []) (b := w 0) (C := RX3) fx hl (mw_fails θ l S0 _ w _ _ _ _ _ _ _ _ hmw 1 0 0 t7 f8 (by omega) hq1t7 hq2t7) (ob_recv hK hm.1 rfl) dX3_inYear_41 k1119 k1121 ks10 k6 k1122 hd_X3_fails rfl ⟨by decide, by decide⟩ (Nat.le_of_ble_eq_true rfl) ⟨by dsimp only; omega, by dsimp only; omega⟩ hS (fun x hx => hx ▸ Or.inl (Or.inl rfl)) (fun H9 locs hmH9 hszH9 hk0H9 hS => ?_)
        have hkH9 : ∀ x : Nat, x < (s.heap).size → ¬ x = w 0 → H9[x]? = (s.heap)[x]? := hk0H9
        have hzH9 := hz0.at hAB hS
        have hltH9 := hmH9.lt
        refine q_ieq (tgt := 49) hx hb dX3_inYear_44 (by decide) (by omega) (fun c10 => ?_) (fun c10 => ?_)
        · exact (show False by omega).elim
        · refine q_con hx hb dX3_inYear_47 ?_
          obtain rfl : t7 = 1 := by omega
          have hmw : MWR θ S0 w H9 r q dt sv 1 dn rf kn := ⟨hzH9, hu, hmH9, hd, hsv⟩
          exact e_i hx hb hr hlk hS dX3_inYear_48 (Nat.le_of_ble_eq_true rfl) (Nat.le_of_ble_eq_true rfl) ⟨ex_i (by omega), r, q, by first | exact hmw | (subst_vars; exact hmw) | (simp only [inI_self, inI_1, inI_31] at hmw; subst_vars; exact hmw), by first | exact nw_rf | exact nw_up (by omega) | exact nw_up2 (by omega), by first | exact nw_rf | exact nw_up (by omega) | exact nw_up2 (by omega)⟩

set_option maxHeartbeats 4000000 in
set_option maxRecDepth 100000 in
theorem mok_knock (θ : TH) (l : Launch) (S0 : State) (H : Heap) (w : Nat → Nat) (r q : Nat → Nat) (dt : Nat → Int) (sv : Nat → Nat → Int) (th dn rf kn : Int) (hw : MWR θ S0 w H r q dt sv th dn rf kn) : CT l yX3_knock cX3_knock 1 (some .int) 0 0 0 0 [.ref (w 0)] S0 H (fun v9 H1 => v9 = some (.int (iI (kn + 1))) ∧ ∃ r1 q1 : Nat → Nat, MWR θ S0 w H1 r1 q1 dt sv 0 dn rf (kn + 1) ∧ NW 6 H.size r r1 ∧ NW 3 H.size q q1) (fun _ _ => False) (WA w H.size) := by
  refine ct_of (by decide +kernel) (Nat.le_of_ble_eq_true rfl) ?_
  intro pg en s mi args below meth co ls fx hs hr hlk hxt hin hl
  subst hs
  obtain ⟨hx, hb, hml, hown, hts⟩ := id fx.1
  have hS : va_S (WA w s.heap.size) s.heap s.heap [] := va_S.rf
  obtain ⟨hz, hu, hm, hd, hsv⟩ := id hw
  have hAB : ∀ x : Nat, (WA w s.heap.size) x → θ.2.2.2 ≤ x := wa_b hu hz.2.1
  have hz0 := hz
  have hK := sz_K fx.2 hz
  have hlt0 := hm.lt
  have hu1 := hu.1
  have hAn : ∀ x : Nat, s.heap.size ≤ x → (WA w s.heap.size) x := fun _ h => Or.inr h
  refine lv_aload_n hx hb dX3_knock_0 rfl (lv_at hl 0 rfl) ?_
  refine q_con hx hb dX3_knock_1 ?_
  refine r_put (θ := θ) (C := RX3) (T := TX3) (N := 6) (ci := 9) (v := .int (iI 0)) (ty := .int) hx hb hts gwX3 tyX3 tyX3_ok nmX3 hown hK hm.1 (Or.inl (Or.inl rfl)) hS rfl 0 (by decide) k1090 (fun _ h => h) rfl (by decide +kernel) rfl rfl (Nat.le_of_ble_eq_true rfl) dX3_knock_2 (fun H1 locs hoH1 hszH1 hkH1 hS => ?_)
  have hmH1 : MW θ w H1 r q dt sv 0 dn rf kn := hm.obj hu hoH1 hkH1
  have hzH1 := hz0.at hAB hS
  refine lv_aload_n hx hb dX3_knock_5 rfl (lv_at hl 0 rfl) ?_
  refine lv_dup hx hb dX3_knock_6 rfl ?_
  refine r_get (θ := θ) (C := RX3) (T := TX3) (N := 6) (ci := 9) hx hb hts gwX3 hown hK hmH1.1 rfl 3 (by decide) k1093 (fun _ h => h) (v := .int (iI kn)) rfl dX3_knock_7 ?_
  refine q_con hx hb dX3_knock_10 ?_
  refine q_add hx hb dX3_knock_11 ?_
  refine r_put (θ := θ) (C := RX3) (T := TX3) (N := 6) (ci := 9) (v := .int (iI (kn + 1))) (ty := .int) hx hb hts gwX3 tyX3 tyX3_ok nmX3 hown hK hmH1.1 (Or.inl (Or.inl rfl)) hS rfl 3 (by decide) k1093 (fun _ h => h) rfl (by decide +kernel) rfl rfl (Nat.le_of_ble_eq_true rfl) dX3_knock_12 (fun H2 locs hoH2 hszH2 hkH2 hS => ?_)
  have hmH2 : MW θ w H2 r q dt sv 0 dn rf (kn + 1) := hmH1.obj hu hoH2 hkH2
  have hzH2 := hz0.at hAB hS
  refine lv_aload_n hx hb dX3_knock_15 rfl (lv_at hl 0 rfl) ?_
  refine r_get (θ := θ) (C := RX3) (T := TX3) (N := 6) (ci := 9) hx hb hts gwX3 hown hK hmH2.1 rfl 3 (by decide) k1093 (fun _ h => h) (v := .int (iI (kn + 1))) rfl dX3_knock_16 ?_
  have hmw : MWR θ S0 w H2 r q dt sv 0 dn rf (kn + 1) := ⟨hzH2, hu, hmH2, hd, hsv⟩
  exact e_i hx hb hr hlk hS dX3_knock_19 (Nat.le_of_ble_eq_true rfl) (Nat.le_of_ble_eq_true rfl) ⟨ex_i (by omega), r, q, by first | exact hmw | (subst_vars; exact hmw) | (simp only [inI_self, inI_1, inI_31] at hmw; subst_vars; exact hmw), by first | exact nw_rf | exact nw_up (by omega) | exact nw_up2 (by omega), by first | exact nw_rf | exact nw_up (by omega) | exact nw_up2 (by omega)⟩

set_option maxHeartbeats 4000000 in
set_option maxRecDepth 100000 in
theorem mok_isSound (θ : TH) (l : Launch) (S0 : State) (H : Heap) (w : Nat → Nat) (r q : Nat → Nat) (dt : Nat → Int) (sv : Nat → Nat → Int) (th dn rf kn : Int) (hw : MWR θ S0 w H r q dt sv th dn rf kn) : CT l yX3_isSound cX3_isSound 1 (some .boolean) 0 0 0 0 [.ref (w 0)] S0 H (fun v9 H1 => v9 = some (.int (iI 1)) ∧ ∃ r1 q1 : Nat → Nat, MWR θ S0 w H1 r1 q1 dt sv 0 dn rf kn ∧ NW 6 H.size r r1 ∧ NW 3 H.size q q1) (fun _ _ => False) (WA w H.size) := by
  refine ct_of (by decide +kernel) (Nat.le_of_ble_eq_true rfl) ?_
  intro pg en s mi args below meth co ls fx hs hr hlk hxt hin hl
  subst hs
  obtain ⟨hx, hb, hml, hown, hts⟩ := id fx.1
  have hS : va_S (WA w s.heap.size) s.heap s.heap [] := va_S.rf
  obtain ⟨hz, hu, hm, hd, hsv⟩ := id hw
  have hAB : ∀ x : Nat, (WA w s.heap.size) x → θ.2.2.2 ≤ x := wa_b hu hz.2.1
  have hz0 := hz
  have hK := sz_K fx.2 hz
  have hlt0 := hm.lt
  have hu1 := hu.1
  have hAn : ∀ x : Nat, s.heap.size ≤ x → (WA w s.heap.size) x := fun _ h => Or.inr h
  refine lv_aload_n hx hb dX3_isSound_0 rfl (lv_at hl 0 rfl) ?_
  refine q_con hx hb dX3_isSound_1 ?_
  refine r_put (θ := θ) (C := RX3) (T := TX3) (N := 6) (ci := 9) (v := .int (iI 0)) (ty := .int) hx hb hts gwX3 tyX3 tyX3_ok nmX3 hown hK hm.1 (Or.inl (Or.inl rfl)) hS rfl 0 (by decide) k1090 (fun _ h => h) rfl (by decide +kernel) rfl rfl (Nat.le_of_ble_eq_true rfl) dX3_isSound_2 (fun H1 locs hoH1 hszH1 hkH1 hS => ?_)
  have hmH1 : MW θ w H1 r q dt sv 0 dn rf kn := hm.obj hu hoH1 hkH1
  have hzH1 := hz0.at hAB hS
  refine q_con hx hb dX3_isSound_5 ?_
  have hmw : MWR θ S0 w H1 r q dt sv 0 dn rf kn := ⟨hzH1, hu, hmH1, hd, hsv⟩
  exact e_z hx hb hr hlk (by decide) hS dX3_isSound_6 (Nat.le_of_ble_eq_true rfl) (Nat.le_of_ble_eq_true rfl) ⟨ex_i (by omega), r, q, by first | exact hmw | (subst_vars; exact hmw) | (simp only [inI_self, inI_1, inI_31] at hmw; subst_vars; exact hmw), by first | exact nw_rf | exact nw_up (by omega) | exact nw_up2 (by omega), by first | exact nw_rf | exact nw_up (by omega) | exact nw_up2 (by omega)⟩
