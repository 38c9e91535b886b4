set_option maxHeartbeats 4000000 in
set_option maxRecDepth 100000 in
theorem ci_Calendaract (θ : TH) (l : Launch) (S0 : State) (H : Heap) (hz : SZ θ S0 H) (hj : SJ θ S0 H) (a : Nat) (h_q0 : OB θ H a 7 [.null, .null, .null, .null, .null, .int (iI 0), .int (iI 0), .int (iI 0)]) (h_0 : θ.2.2.2 ≤ a) : CT l yX1_init cX1_init 1 none 3 61 6 35 [.ref a] S0 H (fun v9 H1 => v9 = none ∧ H1.size = H.size + 6 ∧ OB θ H1 a 7 [.ref H.size, .ref (H.size + 1), .ref (H.size + 2), .ref (H.size + 3), .ref (H.size + 4), .int (iI 0), .int (iI 0), .int (iI 0)] ∧ AI θ H1 H.size 6 (fun _ => 0) ∧ AI θ H1 (H.size + 1) 3 (fun _ => 0) ∧ AI θ H1 (H.size + 2) 3 (fun _ => 0) ∧ AI θ H1 (H.size + 3) 3 (fun _ => 0) ∧ SB θ H1 (H.size + 4) (H.size + 5) 16 0) (fun _ _ => False) (fun x : Nat => x = a ∨ H.size ≤ x) := by
  refine ct_of (by decide +kernel) (Nat.le_of_ble_eq_true rfl) ?_
  intro pg en s mi args below meth co ls fx hs hr hlk hxt hin hl
  subst hs
  obtain ⟨hx, hb, hml, hown, hts⟩ := id fx.1
  have hS : va_S (fun x : Nat => x = a ∨ s.heap.size ≤ x) s.heap s.heap [] := va_S.rf
  have hz2 := hz.2.1
  have hAB : ∀ x : Nat, (fun x : Nat => x = a ∨ s.heap.size ≤ x) x → θ.2.2.2 ≤ x := fun x hx => by (try dsimp only at hx); omega
  have hAn : ∀ x : Nat, s.heap.size ≤ x → (fun x : Nat => x = a ∨ s.heap.size ≤ x) x := fun _ h => Or.inr h
  have hz0 := hz
  have hj0 := hj
  have hK := sz_K fx.2 hz
  have lh_q0 := h_q0.lt
  refine lv_aload_n hx hb dX1_init_0 rfl (lv_at hl 0 rfl) ?_
  refine r_oinit hx hb hml hl hts hown k36 k37 k38 dX1_init_1 (Nat.le_of_ble_eq_true rfl) (Nat.le_of_ble_eq_true rfl) ?_
  refine lv_aload_n hx hb dX1_init_4 rfl (lv_at hl 0 rfl) ?_
  refine q_bip hx hb dX1_init_5 (by decide) ?_
  refine r_newI (θ := θ) hx hb hts hK k71 hS (by omega) (by (try dsimp only); omega) (by (try dsimp only); omega) dX1_init_7 (fun H1 haH1 hszH1 hkH1 hS => ?_)
  have h_q0_H1 := h_q0.kept (hkH1 _ h_q0.lt)
  have hzH1 := hz0.at hAB hS
  have hjH1 := hj0.at hAB hS
  have lnH1 := haH1.lt
  refine r_putF (θ := θ) (C := RX1) (T := TX1) (N := 8) (ci := 7) (v := .ref s.heap.size) (ty := .array .int) hx hb hts gwX1 tyX1 tyX1_ok nmX1 hown hK h_q0_H1 (by first | ((try dsimp only); omega) | dsimp only) hS rfl 0 (by decide) k73 (fun _ h => h) rfl (hin rfl) rfl (by decide +kernel) rfl rfl (Nat.le_of_ble_eq_true rfl) dX1_init_9 (fun H2 locs hqH2 hszH2 hkH2 hS => ?_)
  have hnH2 : OB θ H2 a 7 [.ref s.heap.size, .null, .null, .null, .null, .int (iI 0), .int (iI 0), .int (iI 0)] := hqH2
  have haH1_H2 := haH1.kept (hkH2 _ (by omega))
  have hzH2 := hz0.at hAB hS
  have hjH2 := hj0.at hAB hS
  have lnH2 := hnH2.lt
  refine lv_aload_n hx hb dX1_init_12 rfl (lv_at hl 0 rfl) ?_
  refine q_con hx hb dX1_init_13 ?_
  refine r_newI (θ := θ) hx hb hts hK k71 hS (by omega) (by (try dsimp only); omega) (by (try dsimp only); omega) dX1_init_14 (fun H3 haH3 hszH3 hkH3 hS => ?_)
  have hnH2_H3 := hnH2.kept (hkH3 _ hnH2.lt)
  have haH1_H3 := haH1_H2.kept (hkH3 _ haH1_H2.lt)
  have hzH3 := hz0.at hAB hS
  have hjH3 := hj0.at hAB hS
  have lnH3 := haH3.lt
  refine r_putF (θ := θ) (C := RX1) (T := TX1) (N := 8) (ci := 7) (v := .ref H2.size) (ty := .array .int) hx hb hts gwX1 tyX1 tyX1_ok nmX1 hown hK hnH2_H3 (by first | ((try dsimp only); omega) | dsimp only) hS rfl 1 (by decide) k74 (fun _ h => h) rfl (hin rfl) rfl (by decide +kernel) rfl rfl (Nat.le_of_ble_eq_true rfl) dX1_init_16 (fun H4 locs hqH4 hszH4 hkH4 hS => ?_)
  have hnH4 : OB θ H4 a 7 [.ref s.heap.size, .ref H2.size, .null, .null, .null, .int (iI 0), .int (iI 0), .int (iI 0)] := hqH4
  have haH1_H4 := haH1_H3.kept (hkH4 _ (by omega))
  have haH3_H4 := haH3.kept (hkH4 _ (by omega))
  have hzH4 := hz0.at hAB hS
  have hjH4 := hj0.at hAB hS
  have lnH4 := hnH4.lt
  refine lv_aload_n hx hb dX1_init_19 rfl (lv_at hl 0 rfl) ?_
  refine q_con hx hb dX1_init_20 ?_
  refine r_newI (θ := θ) hx hb hts hK k71 hS (by omega) (by (try dsimp only); omega) (by (try dsimp only); omega) dX1_init_21 (fun H5 haH5 hszH5 hkH5 hS => ?_)
  have hnH4_H5 := hnH4.kept (hkH5 _ hnH4.lt)
  have haH1_H5 := haH1_H4.kept (hkH5 _ haH1_H4.lt)
  have haH3_H5 := haH3_H4.kept (hkH5 _ haH3_H4.lt)
  have hzH5 := hz0.at hAB hS
  have hjH5 := hj0.at hAB hS
  have lnH5 := haH5.lt
  refine r_putF (θ := θ) (C := RX1) (T := TX1) (N := 8) (ci := 7) (v := .ref H4.size) (ty := .array .int) hx hb hts gwX1 tyX1 tyX1_ok nmX1 hown hK hnH4_H5 (by first | ((try dsimp only); omega) | dsimp only) hS rfl 2 (by decide) k75 (fun _ h => h) rfl (hin rfl) rfl (by decide +kernel) rfl rfl (Nat.le_of_ble_eq_true rfl) dX1_init_23 (fun H6 locs hqH6 hszH6 hkH6 hS => ?_)
  have hnH6 : OB θ H6 a 7 [.ref s.heap.size, .ref H2.size, .ref H4.size, .null, .null, .int (iI 0), .int (iI 0), .int (iI 0)] := hqH6
  have haH1_H6 := haH1_H5.kept (hkH6 _ (by omega))
  have haH3_H6 := haH3_H5.kept (hkH6 _ (by omega))
  have haH5_H6 := haH5.kept (hkH6 _ (by omega))
  have hzH6 := hz0.at hAB hS
  have hjH6 := hj0.at hAB hS
  have lnH6 := hnH6.lt
  refine lv_aload_n hx hb dX1_init_26 rfl (lv_at hl 0 rfl) ?_
  refine q_con hx hb dX1_init_27 ?_
  refine r_newI (θ := θ) hx hb hts hK k71 hS (by omega) (by (try dsimp only); omega) (by (try dsimp only); omega) dX1_init_28 (fun H7 haH7 hszH7 hkH7 hS => ?_)
  have hnH6_H7 := hnH6.kept (hkH7 _ hnH6.lt)
  have haH1_H7 := haH1_H6.kept (hkH7 _ haH1_H6.lt)
  have haH3_H7 := haH3_H6.kept (hkH7 _ haH3_H6.lt)
  have haH5_H7 := haH5_H6.kept (hkH7 _ haH5_H6.lt)
  have hzH7 := hz0.at hAB hS
  have hjH7 := hj0.at hAB hS
  have lnH7 := haH7.lt
  refine r_putF (θ := θ) (C := RX1) (T := TX1) (N := 8) (ci := 7) (v := .ref H6.size) (ty := .array .int) hx hb hts gwX1 tyX1 tyX1_ok nmX1 hown hK hnH6_H7 (by first | ((try dsimp only); omega) | dsimp only) hS rfl 3 (by decide) k76 (fun _ h => h) rfl (hin rfl) rfl (by decide +kernel) rfl rfl (Nat.le_of_ble_eq_true rfl) dX1_init_30 (fun H8 locs hqH8 hszH8 hkH8 hS => ?_)
  have hnH8 : OB θ H8 a 7 [.ref s.heap.size, .ref H2.size, .ref H4.size, .ref H6.size, .null, .int (iI 0), .int (iI 0), .int (iI 0)] := hqH8
  have haH1_H8 := haH1_H7.kept (hkH8 _ (by omega))
  have haH3_H8 := haH3_H7.kept (hkH8 _ (by omega))
  have haH5_H8 := haH5_H7.kept (hkH8 _ (by omega))
  have haH7_H8 := haH7.kept (hkH8 _ (by omega))
  have hzH8 := hz0.at hAB hS
  have hjH8 := hj0.at hAB hS
  have lnH8 := hnH8.lt
  refine lv_aload_n hx hb dX1_init_33 rfl (lv_at hl 0 rfl) ?_
  refine r_new (θ := θ) (ci := 1) (fs := [.null, .int (iI 0), .int (iI 0), .int (iI 0)]) (C := RJ4) (T := TJ4) (N := 4) hx hb hts gwJ4 tyJ4 tyJ4_ok hown k39 k40 k3 hK hS rfl (fun j hj => by rcases (show j = 0 ∨ j = 1 ∨ j = 2 ∨ j = 3 by omega) with rfl | rfl | rfl | rfl <;> rfl) (by (try dsimp only); omega) (by (try dsimp only); omega) dX1_init_34 (fun H9 hnH9 hszH9 hkH9 hS => ?_)
  have hnH8_H9 := hnH8.kept (hkH9 _ hnH8.lt)
  have haH1_H9 := haH1_H8.kept (hkH9 _ haH1_H8.lt)
  have haH3_H9 := haH3_H8.kept (hkH9 _ haH3_H8.lt)
  have haH5_H9 := haH5_H8.kept (hkH9 _ haH5_H8.lt)
  have haH7_H9 := haH7_H8.kept (hkH9 _ haH7_H8.lt)
  have hzH9 := hz0.at hAB hS
  have hjH9 := hj0.at hAB hS
  have lnH9 := hnH9.lt
  refine lv_dup hx hb dX1_init_37 rfl ?_
  refine c_Ir (As := []) (rest := [.ref H8.size, .ref a]) (r := none) (st1 := [.ref H8.size, .ref a]) fx hl (jm_sbInit θ l S0 _ hzH9 hjH9 H8.size hnH9 (by omega)) dX1_init_38 k41 k42 k3 k43 rfl hd_J4_init_da8c8 rfl rfl ⟨by decide, by decide⟩ (Nat.le_of_ble_eq_true rfl) ⟨by (try dsimp only); omega, by (try dsimp only); omega⟩ hS (fun x hx => by first | exact hx.elim | ((try dsimp only at hx ⊢); omega)) (fun H10 locs hpH10 hsz0H10 hk0H10 hS => ?_)
  obtain ⟨hszH10, hoH10_0⟩ := hpH10
  have hkH10 : ∀ q : Nat, q < (H9).size → ¬ (q = H8.size) → H10[q]? = (H9)[q]? := fun q hq hn => hk0H10 q hq (by (try dsimp only); omega)
  have hnH8_H10 := hnH8_H9.kept (hkH10 _ hnH8_H9.lt (by omega))
  have haH1_H10 := haH1_H9.kept (hkH10 _ haH1_H9.lt (by omega))
  have haH3_H10 := haH3_H9.kept (hkH10 _ haH3_H9.lt (by omega))
  have haH5_H10 := haH5_H9.kept (hkH10 _ haH5_H9.lt (by omega))
  have haH7_H10 := haH7_H9.kept (hkH10 _ haH7_H9.lt (by omega))
  have lhoH10_0 := hoH10_0.lt
  have hzH10 := hz0.at hAB hS
  have hjH10 := hj0.at hAB hS
  refine r_putF (θ := θ) (C := RX1) (T := TX1) (N := 8) (ci := 7) (v := .ref H8.size) (ty := .object "java/lang/StringBuilder") hx hb hts gwX1 tyX1 tyX1_ok nmX1 hown hK hnH8_H10 (by first | ((try dsimp only); omega) | dsimp only) hS rfl 4 (by decide) k77 (fun _ h => h) rfl (hin rfl) rfl (by decide +kernel) rfl rfl (Nat.le_of_ble_eq_true rfl) dX1_init_41 (fun H11 locs hqH11 hszH11 hkH11 hS => ?_)
  have hnH11 : OB θ H11 a 7 [.ref s.heap.size, .ref H2.size, .ref H4.size, .ref H6.size, .ref H8.size, .int (iI 0), .int (iI 0), .int (iI 0)] := hqH11
  have hoH10_0_H11 := hoH10_0.kept (hkH11 _ (by omega)) (hkH11 _ (by omega))
  have haH1_H11 := haH1_H10.kept (hkH11 _ (by omega))
  have haH3_H11 := haH3_H10.kept (hkH11 _ (by omega))
  have haH5_H11 := haH5_H10.kept (hkH11 _ (by omega))
  have haH7_H11 := haH7_H10.kept (hkH11 _ (by omega))
  have hzH11 := hz0.at hAB hS
  have hjH11 := hj0.at hAB hS
  have lnH11 := hnH11.lt
  refine lv_aload_n hx hb dX1_init_44 rfl (lv_at hl 0 rfl) ?_
  refine q_con hx hb dX1_init_45 ?_
  refine r_put (θ := θ) (C := RX1) (T := TX1) (N := 8) (ci := 7) (v := .int (iI 0)) (ty := .int) hx hb hts gwX1 tyX1 tyX1_ok nmX1 hown hK hnH11 (by first | ((try dsimp only); omega) | dsimp only) hS rfl 5 (by decide) k78 (fun _ h => h) rfl (by decide +kernel) rfl rfl (Nat.le_of_ble_eq_true rfl) dX1_init_46 (fun H12 locs hqH12 hszH12 hkH12 hS => ?_)
  have hnH12 : OB θ H12 a 7 [.ref s.heap.size, .ref H2.size, .ref H4.size, .ref H6.size, .ref H8.size, .int (iI 0), .int (iI 0), .int (iI 0)] := hqH12
  have hoH10_0_H12 := hoH10_0_H11.kept (hkH12 _ (by omega)) (hkH12 _ (by omega))
  have haH1_H12 := haH1_H11.kept (hkH12 _ (by omega))
  have haH3_H12 := haH3_H11.kept (hkH12 _ (by omega))
  have haH5_H12 := haH5_H11.kept (hkH12 _ (by omega))
  have haH7_H12 := haH7_H11.kept (hkH12 _ (by omega))
  have hzH12 := hz0.at hAB hS
  have hjH12 := hj0.at hAB hS
  have lnH12 := hnH12.lt
  refine lv_aload_n hx hb dX1_init_49 rfl (lv_at hl 0 rfl) ?_
  refine q_con hx hb dX1_init_50 ?_
  refine r_put (θ := θ) (C := RX1) (T := TX1) (N := 8) (ci := 7) (v := .int (iI 0)) (ty := .int) hx hb hts gwX1 tyX1 tyX1_ok nmX1 hown hK hnH12 (by first | ((try dsimp only); omega) | dsimp only) hS rfl 6 (by decide) k79 (fun _ h => h) rfl (by decide +kernel) rfl rfl (Nat.le_of_ble_eq_true rfl) dX1_init_51 (fun H13 locs hqH13 hszH13 hkH13 hS => ?_)
  have hnH13 : OB θ H13 a 7 [.ref s.heap.size, .ref H2.size, .ref H4.size, .ref H6.size, .ref H8.size, .int (iI 0), .int (iI 0), .int (iI 0)] := hqH13
  have hoH10_0_H13 := hoH10_0_H12.kept (hkH13 _ (by omega)) (hkH13 _ (by omega))
  have haH1_H13 := haH1_H12.kept (hkH13 _ (by omega))
  have haH3_H13 := haH3_H12.kept (hkH13 _ (by omega))
  have haH5_H13 := haH5_H12.kept (hkH13 _ (by omega))
  have haH7_H13 := haH7_H12.kept (hkH13 _ (by omega))
  have hzH13 := hz0.at hAB hS
  have hjH13 := hj0.at hAB hS
  have lnH13 := hnH13.lt
  refine lv_aload_n hx hb dX1_init_54 rfl (lv_at hl 0 rfl) ?_
  refine q_con hx hb dX1_init_55 ?_
  refine r_put (θ := θ) (C := RX1) (T := TX1) (N := 8) (ci := 7) (v := .int (iI 0)) (ty := .int) hx hb hts gwX1 tyX1 tyX1_ok nmX1 hown hK hnH13 (by first | ((try dsimp only); omega) | dsimp only) hS rfl 7 (by decide) k80 (fun _ h => h) rfl (by decide +kernel) rfl rfl (Nat.le_of_ble_eq_true rfl) dX1_init_56 (fun H14 locs hqH14 hszH14 hkH14 hS => ?_)
  have hnH14 : OB θ H14 a 7 [.ref s.heap.size, .ref H2.size, .ref H4.size, .ref H6.size, .ref H8.size, .int (iI 0), .int (iI 0), .int (iI 0)] := hqH14
  have hoH10_0_H14 := hoH10_0_H13.kept (hkH14 _ (by omega)) (hkH14 _ (by omega))
  have haH1_H14 := haH1_H13.kept (hkH14 _ (by omega))
  have haH3_H14 := haH3_H13.kept (hkH14 _ (by omega))
  have haH5_H14 := haH5_H13.kept (hkH14 _ (by omega))
  have haH7_H14 := haH7_H13.kept (hkH14 _ (by omega))
  have hzH14 := hz0.at hAB hS
  have hjH14 := hj0.at hAB hS
  have lnH14 := hnH14.lt
  have es0 : H2.size = s.heap.size + 1 := by omega
  have es1 : H4.size = s.heap.size + 2 := by omega
  have es2 : H6.size = s.heap.size + 3 := by omega
  have es3 : H8.size = s.heap.size + 4 := by omega
  have es4 : H9.size = s.heap.size + 5 := by omega
  have f0 := hnH14
  try simp only [es0, es1, es2, es3, es4] at f0
  have f1 := haH1_H14
  try simp only [es0, es1, es2, es3, es4] at f1
  have f2 := haH3_H14
  try simp only [es0, es1, es2, es3, es4] at f2
  have f3 := haH5_H14
  try simp only [es0, es1, es2, es3, es4] at f3
  have f4 := haH7_H14
  try simp only [es0, es1, es2, es3, es4] at f4
  have f5 := hoH10_0_H14
  try simp only [es0, es1, es2, es3, es4] at f5
  exact e_v hx hb hr hlk hS dX1_init_59 (by first | exact Nat.le_of_ble_eq_true rfl | ((try dsimp only); omega)) (by first | exact Nat.le_of_ble_eq_true rfl | ((try dsimp only); omega)) ⟨rfl, by omega, f0, f1, f2, f3, f4, f5⟩

set_option maxHeartbeats 4000000 in
set_option maxRecDepth 100000 in
/-- the law, from its loop's head -/
theorem law_loop {p : Program} {l : Launch} {e : Env} {R : Room} {s : State} {m : MethodId} {args : Array Value} {below : List Frame} {meth : Method} {c : Code} {Q : State → Prop} {θ : TH} {S0 : State} (fx : FX p m c cL_law 7 s args yL_law.cls S0) (hl0 : l.stackTraces = false) (hz0 : SZ θ S0 s.heap) (hj0 : SJ θ S0 s.heap) (hn : NX S0) {u w : Nat → Nat} {o b L : Nat} {xs : Nat → Int32} (hLX : LX u w o) (hoθ : θ.2.2.2 ≤ o) (hX : va_X b L xs s s.heap) (hbl : b < s.heap.size) (hbA : ¬ AJ θ b) (hL : L ≤ 2560) (hRF : 1000 ≤ R.frames ∧ 1000 ≤ R.locals) {H : Heap} {locs : List Loc} {cells slots : Nat} {ls : Array Slot} (hw : LWE θ S0 u w o H) (hS : va_S (AJ θ) s.heap H locs) (hc0 : cells ≤ 400 ∧ slots ≤ 7000) (hRc : 206000 ≤ R.cells ∧ 3600000 ≤ R.slots) (hl : lv_has ls 7 [(4, .int (iI 0)), (3, .ref o), (2, .ref (w 0)), (1, .ref (u 0)), (0, .ref b)])
    (kend : ∀ (H1 : Heap) (locs1 : List Loc) (c1 s1 : Nat) (ls1 : Array Slot), va_S (AJ θ) s.heap H1 locs1 → c1 ≤ 206000 → s1 ≤ 3600000 → W p l e R s m args below meth c H1 locs1 c1 s1 Q (F0 m 2337 ls1 [])) : W p l e R s m args below meth c H locs cells slots Q (F0 m 27 ls []) := by
  obtain ⟨hx, hb, hml, hown, hts⟩ := id fx.1
  refine w_loopH (nL := 7) (σ := Int) (fun x => ((L : Int) + 5 - x).toNat) (fun x H1 locs1 c9 s9 => (0 ≤ x ∧ x ≤ (L : Int) + 4) ∧ LWE θ S0 u w o H1 ∧ va_S (AJ θ) s.heap H1 locs1 ∧ c9 ≤ 400 + 80 * x.toNat ∧ s9 ≤ 7000 + 1400 * x.toNat) (fun x => [(4, .int (iI x)), (3, .ref o), (2, .ref (w 0)), (1, .ref (u 0)), (0, .ref b)]) ?_ (0 : Int) ⟨by omega, hw, hS, by omega, by omega⟩ hl
  intro i H1 locs cells slots hJ ih ls hl
  obtain ⟨hi, hw1, hS1, hc1, hs1⟩ := hJ
  (try dsimp only at hi hc1 hs1 ih hl ⊢)
  refine lv_iload hx hb dL_law_27 (lv_at hl 0 rfl) ?_
  refine lv_aload_n hx hb dL_law_29 rfl (lv_at hl 4 rfl) ?_
  refine va_slen hx hb hX hbl hbA hS1 dL_law_30 ?_
  refine q_ai L (Int32.ofInt_eq_ofNat (n := L)).symm ?_
  refine q_con hx hb dL_law_31 ?_
  refine q_sub hx hb dL_law_32 ?_
  refine q_cgt (tgt := 2337) hx hb dL_law_33 (by decide) (by omega) (by omega) (fun c1 => ?_) (fun c1 => ?_)
  · exact kend _ _ _ _ _ hS1 (by (try dsimp only); omega) (by (try dsimp only); omega)
  · have hkk : LK p l e R s m args below meth c Q θ S0 u w o b i cells slots 2331 := fun H2 locs2 c2 s2 ls2 hw2 hS2 hc2 hs2 hl2 => by
      refine lv_iinc (v := iI (i + 5)) (lv' := [(4, .int (iI (i + 5))), (3, .ref o), (2, .ref (w 0)), (1, .ref (u 0)), (0, .ref b)]) hx hb dL_law_2331 hl2 (k := 0) rfl (iI_add _ _) (by decide) rfl (fun ls hl => ?_)
      refine lv_goto (tgt := 27) hx hb dL_law_2334 (by decide) ?_
      exact ih (i + 5) _ _ _ _ _ ⟨by (try dsimp only); omega, hw2, hS2, by (try dsimp only); omega, by (try dsimp only); omega⟩ (by (try dsimp only); omega) hl
    refine lv_aload_n hx hb dL_law_36 rfl (lv_at hl 4 rfl) ?_
    refine lv_iload hx hb dL_law_37 (lv_at hl 0 rfl) ?_
    refine r_xld hx hb hX hbl hbA hS1 (i := i) (z := (xs i.toNat).toInt) (by omega) hL rfl dL_law_39 ?_
    refine q_bip hx hb dL_law_40 (by decide) ?_
    refine q_a63 hx hb dL_law_42 (fun z bz => ?_)
    rcases (show z = 0 ∨ z = 1 ∨ z = 2 ∨ z = 3 ∨ z = 4 ∨ z = 5 ∨ z = 6 ∨ z = 7 ∨ z = 8 ∨ z = 9 ∨ z = 10 ∨ z = 11 ∨ z = 12 ∨ z = 13 ∨ z = 14 ∨ z = 15 ∨ z = 16 ∨ z = 17 ∨ z = 18 ∨ z = 19 ∨ z = 20 ∨ z = 21 ∨ z = 22 ∨ z = 23 ∨ z = 24 ∨ z = 25 ∨ z = 26 ∨ z = 27 ∨ z = 28 ∨ z = 29 ∨ z = 30 ∨ z = 31 ∨ z = 32 ∨ z = 33 ∨ z = 34 ∨ z = 35 ∨ z = 36 ∨ z = 37 ∨ z = 38 ∨ z = 39 ∨ z = 40 ∨ z = 41 ∨ z = 42 ∨ z = 43 ∨ z = 44 ∨ z = 45 ∨ z = 46 ∨ z = 47 ∨ z = 48 ∨ z = 49 ∨ z = 50 ∨ (z < 0 ∨ 50 < z) by omega) with cz | cz | cz | cz | cz | cz | cz | cz | cz | cz | cz | cz | cz | cz | cz | cz | cz | cz | cz | cz | cz | cz | cz | cz | cz | cz | cz | cz | cz | cz | cz | cz | cz | cz | cz | cz | cz | cz | cz | cz | cz | cz | cz | cz | cz | cz | cz | cz | cz | cz | cz | cz
    · refine q_tabI (tgt := 260) hx hb 0 dL_law_43 (by omega) (by omega) (by omega) rfl (by decide) ?_
      exact lc_of fx hl0 hz0 hj0 hn hLX hoθ hX hbl hbA hL hRF ⟨by omega, by omega⟩ hw1 hS1 ⟨by omega, by omega⟩ hl hkk
    · refine q_tabI (tgt := 324) hx hb 1 dL_law_43 (by omega) (by omega) (by omega) rfl (by decide) ?_
      exact lc_ofDay fx hl0 hz0 hj0 hn hLX hoθ hX hbl hbA hL hRF ⟨by omega, by omega⟩ hw1 hS1 ⟨by omega, by omega⟩ hl hkk
    · refine q_tabI (tgt := 364) hx hb 2 dL_law_43 (by omega) (by omega) (by omega) rfl (by decide) ?_
      exact lc_ofMonth fx hl0 hz0 hj0 hn hLX hoθ hX hbl hbA hL hRF ⟨by omega, by omega⟩ hw1 hS1 ⟨by omega, by omega⟩ hl hkk
    · refine q_tabI (tgt := 416) hx hb 3 dL_law_43 (by omega) (by omega) (by omega) rfl (by decide) ?_
      exact lc_copy fx hl0 hz0 hj0 hn hLX hoθ hX hbl hbA hL hRF ⟨by omega, by omega⟩ hw1 hS1 ⟨by omega, by omega⟩ hl hkk
    · refine q_tabI (tgt := 456) hx hb 4 dL_law_43 (by omega) (by omega) (by omega) rfl (by decide) ?_
      exact lc_first fx hl0 hz0 hj0 hn hLX hoθ hX hbl hbA hL hRF ⟨by omega, by omega⟩ hw1 hS1 ⟨by omega, by omega⟩ hl hkk
    · refine q_tabI (tgt := 484) hx hb 5 dL_law_43 (by omega) (by omega) (by omega) rfl (by decide) ?_
      exact lc_last fx hl0 hz0 hj0 hn hLX hoθ hX hbl hbA hL hRF ⟨by omega, by omega⟩ hw1 hS1 ⟨by omega, by omega⟩ hl hkk
    · refine q_tabI (tgt := 512) hx hb 6 dL_law_43 (by omega) (by omega) (by omega) rfl (by decide) ?_
      exact lc_withDay fx hl0 hz0 hj0 hn hLX hoθ hX hbl hbA hL hRF ⟨by omega, by omega⟩ hw1 hS1 ⟨by omega, by omega⟩ hl hkk
    · refine q_tabI (tgt := 552) hx hb 7 dL_law_43 (by omega) (by omega) (by omega) rfl (by decide) ?_
      exact lc_shift fx hl0 hz0 hj0 hn hLX hoθ hX hbl hbA hL hRF ⟨by omega, by omega⟩ hw1 hS1 ⟨by omega, by omega⟩ hl hkk
    · refine q_tabI (tgt := 592) hx hb 8 dL_law_43 (by omega) (by omega) (by omega) rfl (by decide) ?_
      exact lc_shiftYears fx hl0 hz0 hj0 hn hLX hoθ hX hbl hbA hL hRF ⟨by omega, by omega⟩ hw1 hS1 ⟨by omega, by omega⟩ hl hkk
    · refine q_tabI (tgt := 632) hx hb 9 dL_law_43 (by omega) (by omega) (by omega) rfl (by decide) ?_
      exact lc_days fx hl0 hz0 hj0 hn hLX hoθ hX hbl hbA hL hRF ⟨by omega, by omega⟩ hw1 hS1 ⟨by omega, by omega⟩ hl hkk
    · refine q_tabI (tgt := 672) hx hb 10 dL_law_43 (by omega) (by omega) (by omega) rfl (by decide) ?_
      exact lc_cycles fx hl0 hz0 hj0 hn hLX hoθ hX hbl hbA hL hRF ⟨by omega, by omega⟩ hw1 hS1 ⟨by omega, by omega⟩ hl hkk
    · refine q_tabI (tgt := 712) hx hb 11 dL_law_43 (by omega) (by omega) (by omega) rfl (by decide) ?_
      exact lc_act fx hl0 hz0 hj0 hn hLX hoθ hX hbl hbA hL hRF ⟨by omega, by omega⟩ hw1 hS1 ⟨by omega, by omega⟩ hl hkk
    · refine q_tabI (tgt := 808) hx hb 12 dL_law_43 (by omega) (by omega) (by omega) rfl (by decide) ?_
      exact lc_actOften fx hl0 hz0 hj0 hn hLX hoθ hX hbl hbA hL hRF ⟨by omega, by omega⟩ hw1 hS1 ⟨by omega, by omega⟩ hl hkk
    · refine q_tabI (tgt := 860) hx hb 13 dL_law_43 (by omega) (by omega) (by omega) rfl (by decide) ?_
      exact lc_span fx hl0 hz0 hj0 hn hLX hoθ hX hbl hbA hL hRF ⟨by omega, by omega⟩ hw1 hS1 ⟨by omega, by omega⟩ hl hkk
    · refine q_tabI (tgt := 924) hx hb 14 dL_law_43 (by omega) (by omega) (by omega) rfl (by decide) ?_
      exact lc_until fx hl0 hz0 hj0 hn hLX hoθ hX hbl hbA hL hRF ⟨by omega, by omega⟩ hw1 hS1 ⟨by omega, by omega⟩ hl hkk
    · refine q_tabI (tgt := 976) hx hb 15 dL_law_43 (by omega) (by omega) (by omega) rfl (by decide) ?_
      exact lc_addSpan fx hl0 hz0 hj0 hn hLX hoθ hX hbl hbA hL hRF ⟨by omega, by omega⟩ hw1 hS1 ⟨by omega, by omega⟩ hl hkk
    · refine q_tabI (tgt := 1016) hx hb 16 dL_law_43 (by omega) (by omega) (by omega) rfl (by decide) ?_
      exact lc_turnSpan fx hl0 hz0 hj0 hn hLX hoθ hX hbl hbA hL hRF ⟨by omega, by omega⟩ hw1 hS1 ⟨by omega, by omega⟩ hl hkk
    · refine q_tabI (tgt := 1044) hx hb 17 dL_law_43 (by omega) (by omega) (by omega) rfl (by decide) ?_
      exact lc_ofSpan fx hl0 hz0 hj0 hn hLX hoθ hX hbl hbA hL hRF ⟨by omega, by omega⟩ hw1 hS1 ⟨by omega, by omega⟩ hl hkk
    · refine q_tabI (tgt := 1084) hx hb 18 dL_law_43 (by omega) (by omega) (by omega) rfl (by decide) ?_
      exact lc_isKept fx hl0 hz0 hj0 hn hLX hoθ hX hbl hbA hL hRF ⟨by omega, by omega⟩ hw1 hS1 ⟨by omega, by omega⟩ hl hkk
    · refine q_tabI (tgt := 1124) hx hb 19 dL_law_43 (by omega) (by omega) (by omega) rfl (by decide) ?_
      exact lc_loss fx hl0 hz0 hj0 hn hLX hoθ hX hbl hbA hL hRF ⟨by omega, by omega⟩ hw1 hS1 ⟨by omega, by omega⟩ hl hkk
    · refine q_tabI (tgt := 1164) hx hb 20 dL_law_43 (by omega) (by omega) (by omega) rfl (by decide) ?_
      exact lc_leadsBack fx hl0 hz0 hj0 hn hLX hoθ hX hbl hbA hL hRF ⟨by omega, by omega⟩ hw1 hS1 ⟨by omega, by omega⟩ hl hkk
    · refine q_tabI (tgt := 1204) hx hb 21 dL_law_43 (by omega) (by omega) (by omega) rfl (by decide) ?_
      exact lc_twice fx hl0 hz0 hj0 hn hLX hoθ hX hbl hbA hL hRF ⟨by omega, by omega⟩ hw1 hS1 ⟨by omega, by omega⟩ hl hkk
    · refine q_tabI (tgt := 1256) hx hb 22 dL_law_43 (by omega) (by omega) (by omega) rfl (by decide) ?_
      exact lc_gap fx hl0 hz0 hj0 hn hLX hoθ hX hbl hbA hL hRF ⟨by omega, by omega⟩ hw1 hS1 ⟨by omega, by omega⟩ hl hkk
    · refine q_tabI (tgt := 1308) hx hb 23 dL_law_43 (by omega) (by omega) (by omega) rfl (by decide) ?_
      exact lc_lowest fx hl0 hz0 hj0 hn hLX hoθ hX hbl hbA hL hRF ⟨by omega, by omega⟩ hw1 hS1 ⟨by omega, by omega⟩ hl hkk
    · refine q_tabI (tgt := 1360) hx hb 24 dL_law_43 (by omega) (by omega) (by omega) rfl (by decide) ?_
      exact lc_met fx hl0 hz0 hj0 hn hLX hoθ hX hbl hbA hL hRF ⟨by omega, by omega⟩ hw1 hS1 ⟨by omega, by omega⟩ hl hkk
    · refine q_tabI (tgt := 1412) hx hb 25 dL_law_43 (by omega) (by omega) (by omega) rfl (by decide) ?_
      exact lc_keeps fx hl0 hz0 hj0 hn hLX hoθ hX hbl hbA hL hRF ⟨by omega, by omega⟩ hw1 hS1 ⟨by omega, by omega⟩ hl hkk
    · refine q_tabI (tgt := 1452) hx hb 26 dL_law_43 (by omega) (by omega) (by omega) rfl (by decide) ?_
      exact lc_month fx hl0 hz0 hj0 hn hLX hoθ hX hbl hbA hL hRF ⟨by omega, by omega⟩ hw1 hS1 ⟨by omega, by omega⟩ hl hkk
    · refine q_tabI (tgt := 1480) hx hb 27 dL_law_43 (by omega) (by omega) (by omega) rfl (by decide) ?_
      exact lc_ofMonthNumber fx hl0 hz0 hj0 hn hLX hoθ hX hbl hbA hL hRF ⟨by omega, by omega⟩ hw1 hS1 ⟨by omega, by omega⟩ hl hkk
    · refine q_tabI (tgt := 1520) hx hb 28 dL_law_43 (by omega) (by omega) (by omega) rfl (by decide) ?_
      exact lc_lengths fx hl0 hz0 hj0 hn hLX hoθ hX hbl hbA hL hRF ⟨by omega, by omega⟩ hw1 hS1 ⟨by omega, by omega⟩ hl hkk
    · refine q_tabI (tgt := 1560) hx hb 29 dL_law_43 (by omega) (by omega) (by omega) rfl (by decide) ?_
      exact lc_weekday fx hl0 hz0 hj0 hn hLX hoθ hX hbl hbA hL hRF ⟨by omega, by omega⟩ hw1 hS1 ⟨by omega, by omega⟩ hl hkk
    · refine q_tabI (tgt := 1588) hx hb 30 dL_law_43 (by omega) (by omega) (by omega) rfl (by decide) ?_
      exact lc_nth fx hl0 hz0 hj0 hn hLX hoθ hX hbl hbA hL hRF ⟨by omega, by omega⟩ hw1 hS1 ⟨by omega, by omega⟩ hl hkk
    · refine q_tabI (tgt := 1640) hx hb 31 dL_law_43 (by omega) (by omega) (by omega) rfl (by decide) ?_
      exact lc_inYear fx hl0 hz0 hj0 hn hLX hoθ hX hbl hbA hL hRF ⟨by omega, by omega⟩ hw1 hS1 ⟨by omega, by omega⟩ hl hkk
    · refine q_tabI (tgt := 1692) hx hb 32 dL_law_43 (by omega) (by omega) (by omega) rfl (by decide) ?_
      exact lc_recurs fx hl0 hz0 hj0 hn hLX hoθ hX hbl hbA hL hRF ⟨by omega, by omega⟩ hw1 hS1 ⟨by omega, by omega⟩ hl hkk
    · refine q_tabI (tgt := 1744) hx hb 33 dL_law_43 (by omega) (by omega) (by omega) rfl (by decide) ?_
      exact lc_age fx hl0 hz0 hj0 hn hLX hoθ hX hbl hbA hL hRF ⟨by omega, by omega⟩ hw1 hS1 ⟨by omega, by omega⟩ hl hkk
    · refine q_tabI (tgt := 1784) hx hb 34 dL_law_43 (by omega) (by omega) (by omega) rfl (by decide) ?_
      exact lc_anniversaries fx hl0 hz0 hj0 hn hLX hoθ hX hbl hbA hL hRF ⟨by omega, by omega⟩ hw1 hS1 ⟨by omega, by omega⟩ hl hkk
    · refine q_tabI (tgt := 1852) hx hb 35 dL_law_43 (by omega) (by omega) (by omega) rfl (by decide) ?_
      exact lc_toNext fx hl0 hz0 hj0 hn hLX hoθ hX hbl hbA hL hRF ⟨by omega, by omega⟩ hw1 hS1 ⟨by omega, by omega⟩ hl hkk
    · refine q_tabI (tgt := 1920) hx hb 36 dL_law_43 (by omega) (by omega) (by omega) rfl (by decide) ?_
      exact lc_wholeMonths fx hl0 hz0 hj0 hn hLX hoθ hX hbl hbA hL hRF ⟨by omega, by omega⟩ hw1 hS1 ⟨by omega, by omega⟩ hl hkk
    · refine q_tabI (tgt := 1960) hx hb 37 dL_law_43 (by omega) (by omega) (by omega) rfl (by decide) ?_
      exact lc_year fx hl0 hz0 hj0 hn hLX hoθ hX hbl hbA hL hRF ⟨by omega, by omega⟩ hw1 hS1 ⟨by omega, by omega⟩ hl hkk
    · refine q_tabI (tgt := 1988) hx hb 38 dL_law_43 (by omega) (by omega) (by omega) rfl (by decide) ?_
      exact lc_monthOfYear fx hl0 hz0 hj0 hn hLX hoθ hX hbl hbA hL hRF ⟨by omega, by omega⟩ hw1 hS1 ⟨by omega, by omega⟩ hl hkk
    · refine q_tabI (tgt := 2016) hx hb 39 dL_law_43 (by omega) (by omega) (by omega) rfl (by decide) ?_
      exact lc_day fx hl0 hz0 hj0 hn hLX hoθ hX hbl hbA hL hRF ⟨by omega, by omega⟩ hw1 hS1 ⟨by omega, by omega⟩ hl hkk
    · refine q_tabI (tgt := 2044) hx hb 40 dL_law_43 (by omega) (by omega) (by omega) rfl (by decide) ?_
      exact lc_dayOfYear fx hl0 hz0 hj0 hn hLX hoθ hX hbl hbA hL hRF ⟨by omega, by omega⟩ hw1 hS1 ⟨by omega, by omega⟩ hl hkk
    · refine q_tabI (tgt := 2072) hx hb 41 dL_law_43 (by omega) (by omega) (by omega) rfl (by decide) ?_
      exact lc_number fx hl0 hz0 hj0 hn hLX hoθ hX hbl hbA hL hRF ⟨by omega, by omega⟩ hw1 hS1 ⟨by omega, by omega⟩ hl hkk
    · refine q_tabI (tgt := 2100) hx hb 42 dL_law_43 (by omega) (by omega) (by omega) rfl (by decide) ?_
      exact lc_lengthOfMonth fx hl0 hz0 hj0 hn hLX hoθ hX hbl hbA hL hRF ⟨by omega, by omega⟩ hw1 hS1 ⟨by omega, by omega⟩ hl hkk
    · refine q_tabI (tgt := 2128) hx hb 43 dL_law_43 (by omega) (by omega) (by omega) rfl (by decide) ?_
      exact lc_isLeapYear fx hl0 hz0 hj0 hn hLX hoθ hX hbl hbA hL hRF ⟨by omega, by omega⟩ hw1 hS1 ⟨by omega, by omega⟩ hl hkk
    · refine q_tabI (tgt := 2156) hx hb 44 dL_law_43 (by omega) (by omega) (by omega) rfl (by decide) ?_
      exact lc_text fx hl0 hz0 hj0 hn hLX hoθ hX hbl hbA hL hRF ⟨by omega, by omega⟩ hw1 hS1 ⟨by omega, by omega⟩ hl hkk
    · refine q_tabI (tgt := 2184) hx hb 45 dL_law_43 (by omega) (by omega) (by omega) rfl (by decide) ?_
      exact lc_compare fx hl0 hz0 hj0 hn hLX hoθ hX hbl hbA hL hRF ⟨by omega, by omega⟩ hw1 hS1 ⟨by omega, by omega⟩ hl hkk
    · refine q_tabI (tgt := 2224) hx hb 46 dL_law_43 (by omega) (by omega) (by omega) rfl (by decide) ?_
      exact lc_between fx hl0 hz0 hj0 hn hLX hoθ hX hbl hbA hL hRF ⟨by omega, by omega⟩ hw1 hS1 ⟨by omega, by omega⟩ hl hkk
    · refine q_tabI (tgt := 2264) hx hb 47 dL_law_43 (by omega) (by omega) (by omega) rfl (by decide) ?_
      exact lc_house fx hl0 hz0 hj0 hn hLX hoθ hX hbl hbA hL hRF ⟨by omega, by omega⟩ hw1 hS1 ⟨by omega, by omega⟩ hl hkk
    · refine q_tabI (tgt := 2292) hx hb 48 dL_law_43 (by omega) (by omega) (by omega) rfl (by decide) ?_
      exact lc_knock fx hl0 hz0 hj0 hn hLX hoθ hX hbl hbA hL hRF ⟨by omega, by omega⟩ hw1 hS1 ⟨by omega, by omega⟩ hl hkk
    · refine q_tabI (tgt := 2305) hx hb 49 dL_law_43 (by omega) (by omega) (by omega) rfl (by decide) ?_
      exact lc_isSound fx hl0 hz0 hj0 hn hLX hoθ hX hbl hbA hL hRF ⟨by omega, by omega⟩ hw1 hS1 ⟨by omega, by omega⟩ hl hkk
    · refine q_tabI (tgt := 2318) hx hb 50 dL_law_43 (by omega) (by omega) (by omega) rfl (by decide) ?_
      exact lc_digest fx hl0 hz0 hj0 hn hLX hoθ hX hbl hbA hL hRF ⟨by omega, by omega⟩ hw1 hS1 ⟨by omega, by omega⟩ hl hkk
    · refine q_tabO (tgt := 2331) hx hb dL_law_43 (by omega) (by omega) (by decide) ?_
      exact hkk _ _ _ _ _ hw1 hS1 (by omega) (by omega) hl
