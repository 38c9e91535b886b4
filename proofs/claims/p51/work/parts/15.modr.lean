set_option maxHeartbeats 4000000 in
set_option maxRecDepth 100000 in
theorem mw_fails (θ : TH) (l : Launch) (S0 : State) (H : Heap) (w : Nat → Nat) (r q : Nat → Nat) (dt : Nat → Int) (sv : Nat → Nat → Int) (th dn rf kn : Int) (hw : MWR θ S0 w H r q dt sv th dn rf kn) (a b c t f : Int) (h_0 : (a = 0 ∨ a = 1) ∧ (b = 0 ∨ b = 1) ∧ (c = 0 ∨ c = 1)) (h_1 : (a = 1 ∧ t = 1) ∨ (a = 0 ∧ b = 1 ∧ t = 2) ∨ (a = 0 ∧ b = 0 ∧ c = 1 ∧ t = 3) ∨ (a = 0 ∧ b = 0 ∧ c = 0 ∧ t = 0)) (h_2 : (t = 0 ∧ f = 0) ∨ (0 < t ∧ f = 1)) : CT l yX3_fails cX3_fails 4 (some .boolean) 0 0 0 0 [.ref (w 0), .int (iI a), .int (iI b), .int (iI c)] S0 H (fun v9 H1 => v9 = some (.int (iI f)) ∧ MW θ w H1 r q dt sv t dn rf kn) (fun _ _ => False) (fun x => x = w 0) := by
  refine ct_of (by decide +kernel) (Nat.le_of_ble_eq_true rfl) ?_
  intro pg en s mi args below meth co ls fx hs hr hlk hxt hin hl
  subst hs
  obtain ⟨hx, hb, hml, hown, hts⟩ := id fx.1
  have hS : va_S (fun x : Nat => x = w 0) s.heap s.heap [] := va_S.rf
  obtain ⟨hz, hu, hm, hd, hsv⟩ := id hw
  have hAB : ∀ x : Nat, (fun x : Nat => x = w 0) x → θ.2.2.2 ≤ x := fun x h => h ▸ hu.2.1
  have hz0 := hz
  have hK := sz_K fx.2 hz
  have hlt0 := hm.lt
  have hu1 := hu.1
  refine lv_aload_n hx hb dX3_fails_0 rfl (lv_at hl 0 rfl) ?_
  refine lv_iload_n hx hb dX3_fails_1 rfl (lv_at hl 1 rfl) ?_
  refine q_ieq (tgt := 9) hx hb dX3_fails_2 (by decide) (by omega) (fun c1 => ?_) (fun c1 => ?_)
  · refine lv_iload_n hx hb dX3_fails_9 rfl (lv_at hl 2 rfl) ?_
    refine q_ieq (tgt := 17) hx hb dX3_fails_10 (by decide) (by omega) (fun c2 => ?_) (fun c2 => ?_)
    · refine lv_iload_n hx hb dX3_fails_17 rfl (lv_at hl 3 rfl) ?_
      refine q_ieq (tgt := 25) hx hb dX3_fails_18 (by decide) (by omega) (fun c3 => ?_) (fun c3 => ?_)
      · refine q_con hx hb dX3_fails_25 ?_
        refine r_put (θ := θ) (A := (fun x : Nat => x = w 0)) (C := RX3) (T := TX3) (N := 6) (ci := 9) (v := .int (iI 0)) (ty := .int) hx hb hts gwX3 tyX3 tyX3_ok nmX3 hown hK hm.1 rfl hS rfl 0 (by decide) k1090 (fun _ h => h) rfl (by decide +kernel) rfl rfl (Nat.le_of_ble_eq_true rfl) dX3_fails_26 (fun H4 locs hoH4 hszH4 hkH4 hS => ?_)
        have hmH4 : MW θ w H4 r q dt sv 0 dn rf kn := hm.obj hu hoH4 hkH4
        have hzH4 := hz0.at hAB hS
        refine lv_aload_n hx hb dX3_fails_29 rfl (lv_at hl 0 rfl) ?_
        refine r_get (θ := θ) (C := RX3) (T := TX3) (N := 6) (ci := 9) hx hb hts gwX3 hown hK hmH4.1 rfl 0 (by decide) k1090 (fun _ h => h) (v := .int (iI 0)) rfl dX3_fails_30 ?_
        refine q_ile (tgt := 40) hx hb dX3_fails_33 (by decide) (by omega) (fun c5 => ?_) (fun c5 => ?_)
        · refine q_con hx hb dX3_fails_40 ?_
          exact e_z hx hb hr hlk (by decide) hS dX3_fails_41 (Nat.le_refl _) (Nat.le_refl _) ⟨ex_i (by omega), by (obtain rfl : t = 0 := by omega); exact hmH4⟩
        · refine q_con hx hb dX3_fails_36 ?_
          refine lv_goto (tgt := 41) hx hb dX3_fails_37 (by decide) ?_
          exact e_z hx hb hr hlk (by decide) hS dX3_fails_41 (Nat.le_refl _) (Nat.le_refl _) ⟨ex_i (by omega), by (obtain rfl : t = 0 := by omega); exact hmH4⟩
      · refine q_con hx hb dX3_fails_21 ?_
        refine lv_goto (tgt := 26) hx hb dX3_fails_22 (by decide) ?_
        refine r_put (θ := θ) (A := (fun x : Nat => x = w 0)) (C := RX3) (T := TX3) (N := 6) (ci := 9) (v := .int (iI 3)) (ty := .int) hx hb hts gwX3 tyX3 tyX3_ok nmX3 hown hK hm.1 rfl hS rfl 0 (by decide) k1090 (fun _ h => h) rfl (by decide +kernel) rfl rfl (Nat.le_of_ble_eq_true rfl) dX3_fails_26 (fun H6 locs hoH6 hszH6 hkH6 hS => ?_)
        have hmH6 : MW θ w H6 r q dt sv 3 dn rf kn := hm.obj hu hoH6 hkH6
        have hzH6 := hz0.at hAB hS
        refine lv_aload_n hx hb dX3_fails_29 rfl (lv_at hl 0 rfl) ?_
        refine r_get (θ := θ) (C := RX3) (T := TX3) (N := 6) (ci := 9) hx hb hts gwX3 hown hK hmH6.1 rfl 0 (by decide) k1090 (fun _ h => h) (v := .int (iI 3)) rfl dX3_fails_30 ?_
        refine q_ile (tgt := 40) hx hb dX3_fails_33 (by decide) (by omega) (fun c7 => ?_) (fun c7 => ?_)
        · refine q_con hx hb dX3_fails_40 ?_
          exact e_z hx hb hr hlk (by decide) hS dX3_fails_41 (Nat.le_refl _) (Nat.le_refl _) ⟨ex_i (by omega), by (obtain rfl : t = 3 := by omega); exact hmH6⟩
        · refine q_con hx hb dX3_fails_36 ?_
          refine lv_goto (tgt := 41) hx hb dX3_fails_37 (by decide) ?_
          exact e_z hx hb hr hlk (by decide) hS dX3_fails_41 (Nat.le_refl _) (Nat.le_refl _) ⟨ex_i (by omega), by (obtain rfl : t = 3 := by omega); exact hmH6⟩
    · refine q_con hx hb dX3_fails_13 ?_
      refine lv_goto (tgt := 26) hx hb dX3_fails_14 (by decide) ?_
      refine r_put (θ := θ) (A := (fun x : Nat => x = w 0)) (C := RX3) (T := TX3) (N := 6) (ci := 9) (v := .int (iI 2)) (ty := .int) hx hb hts gwX3 tyX3 tyX3_ok nmX3 hown hK hm.1 rfl hS rfl 0 (by decide) k1090 (fun _ h => h) rfl (by decide +kernel) rfl rfl (Nat.le_of_ble_eq_true rfl) dX3_fails_26 (fun H8 locs hoH8 hszH8 hkH8 hS => ?_)
      have hmH8 : MW θ w H8 r q dt sv 2 dn rf kn := hm.obj hu hoH8 hkH8
      have hzH8 := hz0.at hAB hS
      refine lv_aload_n hx hb dX3_fails_29 rfl (lv_at hl 0 rfl) ?_
      refine r_get (θ := θ) (C := RX3) (T := TX3) (N := 6) (ci := 9) hx hb hts gwX3 hown hK hmH8.1 rfl 0 (by decide) k1090 (fun _ h => h) (v := .int (iI 2)) rfl dX3_fails_30 ?_
      refine q_ile (tgt := 40) hx hb dX3_fails_33 (by decide) (by omega) (fun c9 => ?_) (fun c9 => ?_)
      · refine q_con hx hb dX3_fails_40 ?_
        exact e_z hx hb hr hlk (by decide) hS dX3_fails_41 (Nat.le_refl _) (Nat.le_refl _) ⟨ex_i (by omega), by (obtain rfl : t = 2 := by omega); exact hmH8⟩
      · refine q_con hx hb dX3_fails_36 ?_
        refine lv_goto (tgt := 41) hx hb dX3_fails_37 (by decide) ?_
        exact e_z hx hb hr hlk (by decide) hS dX3_fails_41 (Nat.le_refl _) (Nat.le_refl _) ⟨ex_i (by omega), by (obtain rfl : t = 2 := by omega); exact hmH8⟩
  · refine q_con hx hb dX3_fails_5 ?_
    refine lv_goto (tgt := 26) hx hb dX3_fails_6 (by decide) ?_
    refine r_put (θ := θ) (A := (fun x : Nat => x = w 0)) (C := RX3) (T := TX3) (N := 6) (ci := 9) (v := .int (iI 1)) (ty := .int) hx hb hts gwX3 tyX3 tyX3_ok nmX3 hown hK hm.1 rfl hS rfl 0 (by decide) k1090 (fun _ h => h) rfl (by decide +kernel) rfl rfl (Nat.le_of_ble_eq_true rfl) dX3_fails_26 (fun H10 locs hoH10 hszH10 hkH10 hS => ?_)
    have hmH10 : MW θ w H10 r q dt sv 1 dn rf kn := hm.obj hu hoH10 hkH10
    have hzH10 := hz0.at hAB hS
    refine lv_aload_n hx hb dX3_fails_29 rfl (lv_at hl 0 rfl) ?_
    refine r_get (θ := θ) (C := RX3) (T := TX3) (N := 6) (ci := 9) hx hb hts gwX3 hown hK hmH10.1 rfl 0 (by decide) k1090 (fun _ h => h) (v := .int (iI 1)) rfl dX3_fails_30 ?_
    refine q_ile (tgt := 40) hx hb dX3_fails_33 (by decide) (by omega) (fun c11 => ?_) (fun c11 => ?_)
    · refine q_con hx hb dX3_fails_40 ?_
      exact e_z hx hb hr hlk (by decide) hS dX3_fails_41 (Nat.le_refl _) (Nat.le_refl _) ⟨ex_i (by omega), by (obtain rfl : t = 1 := by omega); exact hmH10⟩
    · refine q_con hx hb dX3_fails_36 ?_
      refine lv_goto (tgt := 41) hx hb dX3_fails_37 (by decide) ?_
      exact e_z hx hb hr hlk (by decide) hS dX3_fails_41 (Nat.le_refl _) (Nat.le_refl _) ⟨ex_i (by omega), by (obtain rfl : t = 1 := by omega); exact hmH10⟩

set_option maxHeartbeats 4000000 in
set_option maxRecDepth 100000 in
theorem mr_became (θ : TH) (l : Launch) (S0 : State) (H : Heap) (w : Nat → Nat) (r q : Nat → Nat) (dt : Nat → Int) (sv : Nat → Nat → Int) (th dn rf kn : Int) (hw : MWR θ S0 w H r q dt sv th dn rf kn) (p : Int) (h_0 : 0 ≤ p ∧ p < 6) : CT l yX3_became cX3_became 2 (some .int) 6 127 0 0 [.ref (w 0), .int (iI p)] S0 H (fun v H1 => v = some (.int (iI (dt p.toNat))) ∧ H1 = H) (fun _ _ => False) (fun _ => False) := by
  refine ct_of (by decide +kernel) (Nat.le_of_ble_eq_true rfl) ?_
  intro pg en s mi args below meth co ls fx hs hr hlk hxt hin hl
  subst hs
  obtain ⟨hx, hb, hml, hown, hts⟩ := id fx.1
  have hS : va_S (fun _ : Nat => False) s.heap s.heap [] := va_S.rf
  obtain ⟨hz, hu, hm, hd, hsv⟩ := id hw
  have hAB : ∀ x : Nat, (fun _ : Nat => False) x → θ.2.2.2 ≤ x := fun _ h => h.elim
  have hz0 := hz
  have hK := sz_K fx.2 hz
  have hlt0 := hm.lt
  have hu1 := hu.1
  refine lv_aload_n hx hb dX3_became_0 rfl (lv_at hl 0 rfl) ?_
  refine r_get (θ := θ) (C := RX3) (T := TX3) (N := 6) (ci := 9) hx hb hts gwX3 hown hK hm.1 rfl 4 (by decide) k1094 (fun _ h => h) (v := .ref (w 1)) rfl dX3_became_1 ?_
  refine lv_iload_n hx hb dX3_became_4 rfl (lv_at hl 1 rfl) ?_
  refine r_aald (θ := θ) hx hb hK hm.2.1 (i := p) (by omega) (by decide) dX3_became_5 ?_
  have rw1 := (hm.2.2.2.1 (p.toNat) (by omega)).1
  have rw1n := (hm.2.2.2.1 (p.toNat) (by omega)).2
  have rw1t := hd (p.toNat) (by omega)
  have rw1l := rw1.lt
  refine c_H (As := [.ref (r p.toNat)]) (rest := []) fx hl (pm_X3_numberOf θ l S0 _ hz (r p.toNat) (dt p.toNat) rw1 (by omega)) dX3_became_6 k1133 k1134 k6 k1135 hd_X3_numberOf rfl ⟨by decide, by decide⟩ (Nat.le_of_ble_eq_true rfl) ⟨by dsimp only; omega, by dsimp only; omega⟩ ?_
  exact e_i hx hb hr hlk hS dX3_became_9 (Nat.le_refl _) (Nat.le_refl _) ⟨ex_i (by omega), rfl⟩

set_option maxHeartbeats 4000000 in
set_option maxRecDepth 100000 in
theorem mr_all (θ : TH) (l : Launch) (S0 : State) (H : Heap) (w : Nat → Nat) (r q : Nat → Nat) (dt : Nat → Int) (sv : Nat → Nat → Int) (th dn rf kn : Int) (hw : MWR θ S0 w H r q dt sv th dn rf kn) (p : Int) (h_0 : 0 ≤ p ∧ p < 3) : CT l yX3_all cX3_all 2 (some .int) 0 0 0 0 [.ref (w 0), .int (iI p)] S0 H (fun v H1 => v = some (.int (iI (12 * sv p.toNat 0 + sv p.toNat 1))) ∧ H1 = H) (fun _ _ => False) (fun _ => False) := by
  refine ct_of (by decide +kernel) (Nat.le_of_ble_eq_true rfl) ?_
  intro pg en s mi args below meth co ls fx hs hr hlk hxt hin hl
  subst hs
  obtain ⟨hx, hb, hml, hown, hts⟩ := id fx.1
  have hS : va_S (fun _ : Nat => False) s.heap s.heap [] := va_S.rf
  obtain ⟨hz, hu, hm, hd, hsv⟩ := id hw
  have hAB : ∀ x : Nat, (fun _ : Nat => False) x → θ.2.2.2 ≤ x := fun _ h => h.elim
  have hz0 := hz
  have hK := sz_K fx.2 hz
  have hlt0 := hm.lt
  have hu1 := hu.1
  refine q_bip hx hb dX3_all_0 (by decide) ?_
  refine lv_aload_n hx hb dX3_all_2 rfl (lv_at hl 0 rfl) ?_
  refine r_get (θ := θ) (C := RX3) (T := TX3) (N := 6) (ci := 9) hx hb hts gwX3 hown hK hm.1 rfl 5 (by decide) k1095 (fun _ h => h) (v := .ref (w 2)) rfl dX3_all_3 ?_
  refine lv_iload_n hx hb dX3_all_6 rfl (lv_at hl 1 rfl) ?_
  refine r_aald (θ := θ) hx hb hK hm.2.2.1 (i := p) (by omega) (by decide) dX3_all_7 ?_
  have rw1 := (hm.2.2.2.2 (p.toNat) (by omega)).1
  have rw1t := hsv (p.toNat) (by omega)
  have rw1l := rw1.lt
  refine q_con hx hb dX3_all_8 ?_
  refine r_iald (θ := θ) hx hb hK rw1 (i := 0) (by omega) (by decide) dX3_all_9 ?_
  refine q_as ((sv p.toNat) 0) rfl ?_
  refine q_mul hx hb dX3_all_10 ?_
  refine lv_aload_n hx hb dX3_all_11 rfl (lv_at hl 0 rfl) ?_
  refine r_get (θ := θ) (C := RX3) (T := TX3) (N := 6) (ci := 9) hx hb hts gwX3 hown hK hm.1 rfl 5 (by decide) k1095 (fun _ h => h) (v := .ref (w 2)) rfl dX3_all_12 ?_
  refine lv_iload_n hx hb dX3_all_15 rfl (lv_at hl 1 rfl) ?_
  refine r_aald (θ := θ) hx hb hK hm.2.2.1 (i := p) (by omega) (by decide) dX3_all_16 ?_
  have rw2 := (hm.2.2.2.2 (p.toNat) (by omega)).1
  have rw2t := hsv (p.toNat) (by omega)
  have rw2l := rw2.lt
  refine q_con hx hb dX3_all_17 ?_
  refine r_iald (θ := θ) hx hb hK rw2 (i := 1) (by omega) (by decide) dX3_all_18 ?_
  refine q_as ((sv p.toNat) 1) rfl ?_
  refine q_add hx hb dX3_all_19 ?_
  exact e_i hx hb hr hlk hS dX3_all_20 (Nat.le_refl _) (Nat.le_refl _) ⟨ex_i (by subst_vars; omega), rfl⟩

set_option maxHeartbeats 4000000 in
set_option maxRecDepth 100000 in
theorem mw_become_ok (θ : TH) (l : Launch) (S0 : State) (H : Heap) (w : Nat → Nat) (r q : Nat → Nat) (dt : Nat → Int) (sv : Nat → Nat → Int) (th dn rf kn : Int) (hw : MWR θ S0 w H r q dt sv th dn rf kn) (p : Int) (a : Nat) (k d : Int) (hdr : DR θ H a d) (hn : a ≠ w 0 ∧ a ≠ w 1 ∧ a ≠ w 2) (h_0 : 0 ≤ p ∧ p < 6) (h_1 : -420000000 ≤ d ∧ d ≤ 420000000) (h_2 : (-4371587 ≤ d ∧ d ≤ 2932896)) : CT l yX3_become cX3_become 4 (some .boolean) 7 147 0 0 [.ref (w 0), .int (iI p), .ref a, .int (iI k)] S0 H (fun v9 H1 => v9 = some (.int (iI 1)) ∧ MW θ w H1 (up r p.toNat a) q (up dt p.toNat d) sv th (dn + 1) rf kn) (fun _ _ => False) (fun x => x = w 0 ∨ x = w 1) := by
  refine ct_of (by decide +kernel) (Nat.le_of_ble_eq_true rfl) ?_
  intro pg en s mi args below meth co ls fx hs hr hlk hxt hin hl
  subst hs
  obtain ⟨hx, hb, hml, hown, hts⟩ := id fx.1
  have hS : va_S (fun x : Nat => x = w 0 ∨ x = w 1) s.heap s.heap [] := va_S.rf
  obtain ⟨hz, hu, hm, hd, hsv⟩ := id hw
  have hAB : ∀ x : Nat, (fun x : Nat => x = w 0 ∨ x = w 1) x → θ.2.2.2 ≤ x := fun x h => h.elim (fun e => e ▸ hu.2.1) (fun e => e ▸ hu.2.2.1)
  have hz0 := hz
  have hK := sz_K fx.2 hz
  have hlt0 := hm.lt
  have hu1 := hu.1
  refine lv_aload_n hx hb dX3_become_0 rfl (lv_at hl 2 rfl) ?_
  obtain ⟨r1, hr1⟩ := bex (-4371587 ≤ d ∧ d ≤ 2932896)
  refine c_H (As := [.ref a]) (rest := []) fx hl (pm_X3_isDate θ l S0 _ hz a d hdr r1 hr1 (by omega)) dX3_become_1 k1130 k1131 k6 k1132 hd_X3_isDate rfl ⟨by decide, by decide⟩ (Nat.le_of_ble_eq_true rfl) ⟨by dsimp only; omega, by dsimp only; omega⟩ ?_
  have br1 : r1 = 0 ∨ r1 = 1 := hr1.elim (fun h => Or.inr h.1) (fun h => Or.inl h.1)
  refine q_ine (tgt := 14) hx hb dX3_become_4 (by decide) (by omega) (fun c2 => ?_) (fun c2 => ?_)
  · refine lv_aload_n hx hb dX3_become_14 rfl (lv_at hl 0 rfl) ?_
    refine r_get (θ := θ) (C := RX3) (T := TX3) (N := 6) (ci := 9) hx hb hts gwX3 hown hK hm.1 rfl 4 (by decide) k1094 (fun _ h => h) (v := .ref (w 1)) rfl dX3_become_15 ?_
    refine lv_iload_n hx hb dX3_become_18 rfl (lv_at hl 1 rfl) ?_
    refine lv_aload_n hx hb dX3_become_19 rfl (lv_at hl 2 rfl) ?_
    refine r_aast (θ := θ) (a := (w 1)) hx hb fx.2 hz0 hm.2.1 hdr (Or.inr rfl) hS (i := p) (by omega) (by decide) dX3_become_20 (fun H3 locs haH3 hszH3 hkH3 hS => ?_)
    have hmH3 : MW θ w H3 (up r p.toNat a) q (up dt p.toNat d) sv th dn rf kn := hm.date hu haH3 hdr hn hkH3
    have hzH3 := hz0.at hAB hS
    have hdr_H3 := hdr.kept (hkH3 _ (by omega))
    refine lv_aload_n hx hb dX3_become_21 rfl (lv_at hl 0 rfl) ?_
    refine lv_dup hx hb dX3_become_22 rfl ?_
    refine r_get (θ := θ) (C := RX3) (T := TX3) (N := 6) (ci := 9) hx hb hts gwX3 hown hK hmH3.1 rfl 1 (by decide) k1091 (fun _ h => h) (v := .int (iI dn)) rfl dX3_become_23 ?_
    refine q_con hx hb dX3_become_26 ?_
    refine q_add hx hb dX3_become_27 ?_
    refine r_put (θ := θ) (C := RX3) (T := TX3) (N := 6) (ci := 9) (v := .int (iI (dn + 1))) (ty := .int) hx hb hts gwX3 tyX3 tyX3_ok nmX3 hown hK hmH3.1 (Or.inl rfl) hS rfl 1 (by decide) k1091 (fun _ h => h) rfl (by decide +kernel) rfl rfl (Nat.le_of_ble_eq_true rfl) dX3_become_28 (fun H4 locs hoH4 hszH4 hkH4 hS => ?_)
    have hmH4 : MW θ w H4 (up r p.toNat a) q (up dt p.toNat d) sv th (dn + 1) rf kn := hmH3.obj hu hoH4 hkH4
    have hzH4 := hz0.at hAB hS
    have hdr_H4 := hdr_H3.kept (hkH4 _ (by omega))
    refine q_con hx hb dX3_become_31 ?_
    first | exact e_z hx hb hr hlk (by decide) hS dX3_become_32 (Nat.le_refl _) (Nat.le_refl _) ⟨ex_i (by omega), by exact hmH4⟩ | exact (show False by omega).elim
  · refine lv_aload_n hx hb dX3_become_7 rfl (lv_at hl 0 rfl) ?_
    refine lv_iload_n hx hb dX3_become_8 rfl (lv_at hl 3 rfl) ?_
    refine r_put (θ := θ) (C := RX3) (T := TX3) (N := 6) (ci := 9) (v := .int (iI k)) (ty := .int) hx hb hts gwX3 tyX3 tyX3_ok nmX3 hown hK hm.1 (Or.inl rfl) hS rfl 0 (by decide) k1090 (fun _ h => h) rfl (by decide +kernel) rfl rfl (Nat.le_of_ble_eq_true rfl) dX3_become_9 (fun H5 locs hoH5 hszH5 hkH5 hS => ?_)
    have hmH5 : MW θ w H5 r q dt sv k dn rf kn := hm.obj hu hoH5 hkH5
    have hzH5 := hz0.at hAB hS
    have hdr_H5 := hdr.kept (hkH5 _ (by omega))
    refine q_con hx hb dX3_become_12 ?_
    first | exact e_z hx hb hr hlk (by decide) hS dX3_become_13 (Nat.le_refl _) (Nat.le_refl _) ⟨ex_i (by omega), by exact hmH5⟩ | exact (show False by omega).elim

set_option maxHeartbeats 4000000 in
set_option maxRecDepth 100000 in
theorem mw_become_no (θ : TH) (l : Launch) (S0 : State) (H : Heap) (w : Nat → Nat) (r q : Nat → Nat) (dt : Nat → Int) (sv : Nat → Nat → Int) (th dn rf kn : Int) (hw : MWR θ S0 w H r q dt sv th dn rf kn) (p : Int) (a : Nat) (k d : Int) (hdr : DR θ H a d) (hn : a ≠ w 0 ∧ a ≠ w 1 ∧ a ≠ w 2) (h_0 : 0 ≤ p ∧ p < 6) (h_1 : -420000000 ≤ d ∧ d ≤ 420000000) (h_2 : ¬ (-4371587 ≤ d ∧ d ≤ 2932896)) : CT l yX3_become cX3_become 4 (some .boolean) 7 147 0 0 [.ref (w 0), .int (iI p), .ref a, .int (iI k)] S0 H (fun v9 H1 => v9 = some (.int (iI 0)) ∧ MW θ w H1 r q dt sv k dn rf kn) (fun _ _ => False) (fun x => x = w 0 ∨ x = w 1) := by
  refine ct_of (by decide +kernel) (Nat.le_of_ble_eq_true rfl) ?_
  intro pg en s mi args below meth co ls fx hs hr hlk hxt hin hl
  subst hs
  obtain ⟨hx, hb, hml, hown, hts⟩ := id fx.1
  have hS : va_S (fun x : Nat => x = w 0 ∨ x = w 1) s.heap s.heap [] := va_S.rf
  obtain ⟨hz, hu, hm, hd, hsv⟩ := id hw
  have hAB : ∀ x : Nat, (fun x : Nat => x = w 0 ∨ x = w 1) x → θ.2.2.2 ≤ x := fun x h => h.elim (fun e => e ▸ hu.2.1) (fun e => e ▸ hu.2.2.1)
  have hz0 := hz
  have hK := sz_K fx.2 hz
  have hlt0 := hm.lt
  have hu1 := hu.1
  refine lv_aload_n hx hb dX3_become_0 rfl (lv_at hl 2 rfl) ?_
  obtain ⟨r1, hr1⟩ := bex (-4371587 ≤ d ∧ d ≤ 2932896)
  refine c_H (As := [.ref a]) (rest := []) fx hl (pm_X3_isDate θ l S0 _ hz a d hdr r1 hr1 (by omega)) dX3_become_1 k1130 k1131 k6 k1132 hd_X3_isDate rfl ⟨by decide, by decide⟩ (Nat.le_of_ble_eq_true rfl) ⟨by dsimp only; omega, by dsimp only; omega⟩ ?_
  have br1 : r1 = 0 ∨ r1 = 1 := hr1.elim (fun h => Or.inr h.1) (fun h => Or.inl h.1)
  refine q_ine (tgt := 14) hx hb dX3_become_4 (by decide) (by omega) (fun c2 => ?_) (fun c2 => ?_)
  · refine lv_aload_n hx hb dX3_become_14 rfl (lv_at hl 0 rfl) ?_
    refine r_get (θ := θ) (C := RX3) (T := TX3) (N := 6) (ci := 9) hx hb hts gwX3 hown hK hm.1 rfl 4 (by decide) k1094 (fun _ h => h) (v := .ref (w 1)) rfl dX3_become_15 ?_
    refine lv_iload_n hx hb dX3_become_18 rfl (lv_at hl 1 rfl) ?_
    refine lv_aload_n hx hb dX3_become_19 rfl (lv_at hl 2 rfl) ?_
    refine r_aast (θ := θ) (a := (w 1)) hx hb fx.2 hz0 hm.2.1 hdr (Or.inr rfl) hS (i := p) (by omega) (by decide) dX3_become_20 (fun H3 locs haH3 hszH3 hkH3 hS => ?_)
    have hmH3 : MW θ w H3 (up r p.toNat a) q (up dt p.toNat d) sv th dn rf kn := hm.date hu haH3 hdr hn hkH3
    have hzH3 := hz0.at hAB hS
    have hdr_H3 := hdr.kept (hkH3 _ (by omega))
    refine lv_aload_n hx hb dX3_become_21 rfl (lv_at hl 0 rfl) ?_
    refine lv_dup hx hb dX3_become_22 rfl ?_
    refine r_get (θ := θ) (C := RX3) (T := TX3) (N := 6) (ci := 9) hx hb hts gwX3 hown hK hmH3.1 rfl 1 (by decide) k1091 (fun _ h => h) (v := .int (iI dn)) rfl dX3_become_23 ?_
    refine q_con hx hb dX3_become_26 ?_
    refine q_add hx hb dX3_become_27 ?_
    refine r_put (θ := θ) (C := RX3) (T := TX3) (N := 6) (ci := 9) (v := .int (iI (dn + 1))) (ty := .int) hx hb hts gwX3 tyX3 tyX3_ok nmX3 hown hK hmH3.1 (Or.inl rfl) hS rfl 1 (by decide) k1091 (fun _ h => h) rfl (by decide +kernel) rfl rfl (Nat.le_of_ble_eq_true rfl) dX3_become_28 (fun H4 locs hoH4 hszH4 hkH4 hS => ?_)
    have hmH4 : MW θ w H4 (up r p.toNat a) q (up dt p.toNat d) sv th (dn + 1) rf kn := hmH3.obj hu hoH4 hkH4
    have hzH4 := hz0.at hAB hS
    have hdr_H4 := hdr_H3.kept (hkH4 _ (by omega))
    refine q_con hx hb dX3_become_31 ?_
    first | exact e_z hx hb hr hlk (by decide) hS dX3_become_32 (Nat.le_refl _) (Nat.le_refl _) ⟨ex_i (by omega), by exact hmH4⟩ | exact (show False by omega).elim
  · refine lv_aload_n hx hb dX3_become_7 rfl (lv_at hl 0 rfl) ?_
    refine lv_iload_n hx hb dX3_become_8 rfl (lv_at hl 3 rfl) ?_
    refine r_put (θ := θ) (C := RX3) (T := TX3) (N := 6) (ci := 9) (v := .int (iI k)) (ty := .int) hx hb hts gwX3 tyX3 tyX3_ok nmX3 hown hK hm.1 (Or.inl rfl) hS rfl 0 (by decide) k1090 (fun _ h => h) rfl (by decide +kernel) rfl rfl (Nat.le_of_ble_eq_true rfl) dX3_become_9 (fun H5 locs hoH5 hszH5 hkH5 hS => ?_)
    have hmH5 : MW θ w H5 r q dt sv k dn rf kn := hm.obj hu hoH5 hkH5
    have hzH5 := hz0.at hAB hS
    have hdr_H5 := hdr.kept (hkH5 _ (by omega))
    refine q_con hx hb dX3_become_12 ?_
    first | exact e_z hx hb hr hlk (by decide) hS dX3_become_13 (Nat.le_refl _) (Nat.le_refl _) ⟨ex_i (by omega), by exact hmH5⟩ | exact (show False by omega).elim
