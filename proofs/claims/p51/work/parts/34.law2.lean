set_option maxHeartbeats 4000000 in
set_option maxRecDepth 100000 in
theorem lc_ofSpan {p : Program} {l : Launch} {e : Env} {R : Room} {s : State} {m : MethodId} {args : Array Value} {below : List Frame} {meth : Method} {c : Code} {Q : State → Prop} {θ : TH} {S0 : State} (fx : FX p m c cL_law 7 s args yL_law.cls S0) (hl0 : l.stackTraces = false) (hz0 : SZ θ S0 s.heap) (hj0 : SJ θ S0 s.heap) (hn : NX S0) {u w : Nat → Nat} {o b L : Nat} {xs : Nat → Int32} (hLX : LX u w o) (hoθ : θ.2.2.2 ≤ o) (hX : va_X b L xs s s.heap) (hbl : b < s.heap.size) (hbA : ¬ AJ θ b) (hL : L ≤ 2560) (hRF : 1000 ≤ R.frames ∧ 1000 ≤ R.locals) {H : Heap} {locs : List Loc} {cells slots : Nat} {ls : Array Slot} {i : Int} (hi : 0 ≤ i ∧ i + 5 ≤ (L : Int)) (hw : LWE θ S0 u w o H) (hS : va_S (AJ θ) s.heap H locs) (hRc : cells + 400 ≤ R.cells ∧ slots + 7000 ≤ R.slots) (hl : lv_has ls 7 [(4, .int (iI i)), (3, .ref o), (2, .ref (w 0)), (1, .ref (u 0)), (0, .ref b)]) (kk : LK p l e R s m args below meth c Q θ S0 u w o b i cells slots 2331) : W p l e R s m args below meth c H locs cells slots Q (F0 m 1044 ls []) := by
  obtain ⟨hx, hb, hml, hown, hts⟩ := id fx.1
  have hAB : ∀ x : Nat, AJ θ x → θ.2.2.2 ≤ x := fun _ h => h
  obtain ⟨r, q, dt, sv, th, bc, rf, kn, nv, sv9, hw⟩ := hw
  obtain ⟨hcr, hmr, ho, hfr, hfq⟩ := id hw
  have hzH := hz0.at hAB hS
  have hjH := hj0.at hAB hS
  have hK := sz_K fx.2 hz0
  have hu := hcr.2.1
  obtain ⟨x1, ex1⟩ : ∃ z : Int, z = (xs (i + 1).toNat).toInt := ⟨_, rfl⟩
  have bx1 := x32_b ex1
  obtain ⟨x2, ex2⟩ : ∃ z : Int, z = (xs (i + 2).toNat).toInt := ⟨_, rfl⟩
  have bx2 := x32_b ex2
  by_cases hc1 : 0 ≤ x1 ∧ x1 < 3
  · by_cases hc2 : 0 ≤ x2 ∧ x2 ≤ 3
    · refine lv_aload_n hx hb dL_law_1044 rfl (lv_at hl 3 rfl) ?_
      refine lv_aload_n hx hb dL_law_1045 rfl (lv_at hl 4 rfl) ?_
      refine lv_iload hx hb dL_law_1046 (lv_at hl 0 rfl) ?_
      refine q_con hx hb dL_law_1048 ?_
      refine q_add hx hb dL_law_1049 ?_
      refine r_xld hx hb hX hbl hbA hS (i := i + 1) (z := x1) (by omega) hL ex1 dL_law_1050 ?_
      refine lv_aload_n hx hb dL_law_1051 rfl (lv_at hl 4 rfl) ?_
      refine lv_iload hx hb dL_law_1052 (lv_at hl 0 rfl) ?_
      refine q_con hx hb dL_law_1054 ?_
      refine q_add hx hb dL_law_1055 ?_
      refine r_xld hx hb hX hbl hbA hS (i := i + 2) (z := x2) (by omega) hL ex2 dL_law_1056 ?_
      refine lv_aload_n hx hb dL_law_1057 rfl (lv_at hl 1 rfl) ?_
      refine c_SWr (As := [.ref (u 0), .int (iI x1), .int (iI x2), .ref o]) (rest := []) (r := .int (iI 0)) fx hl (wr_ofSpan θ l hl0 S0 _ u dt (fun j => sv j 0) (fun j => sv j 1) (fun j => sv j 2) bc rf kn hcr hjH hn o nv sv9 ho hLX.1 x1 x2 (by first | assumption | omega | (dsimp only; first | assumption | omega) | exact Hid.mk (by first | assumption | omega) | exact Hid.mk ⟨fun _ => by first | assumption | omega, fun _ => by first | assumption | omega⟩) (by first | assumption | omega | (dsimp only; first | assumption | omega) | exact Hid.mk (by first | assumption | omega) | exact Hid.mk ⟨fun _ => by first | assumption | omega, fun _ => by first | assumption | omega⟩) (by first | assumption | omega | (dsimp only; first | assumption | omega) | exact Hid.mk (by first | assumption | omega) | exact Hid.mk ⟨fun _ => by first | assumption | omega, fun _ => by first | assumption | omega⟩) (by first | assumption | omega | (dsimp only; first | assumption | omega) | exact Hid.mk (by first | assumption | omega) | exact Hid.mk ⟨fun _ => by first | assumption | omega, fun _ => by first | assumption | omega⟩)) dL_law_1058 k865 k866 k0 k867 hd_L_ofSpan rfl ⟨by omega, by omega⟩ (Nat.le_of_ble_eq_true rfl) ⟨by (try dsimp only); omega, by (try dsimp only); omega⟩ hS (fun x h => h.elim (fun h => h.elim (fun ⟨j, hj, e⟩ => e ▸ hu.2 j hj) (fun h => Nat.le_trans hzH.2.1 h)) (fun e => e ▸ hoθ)) (fun H1 locs hpH1 hszH1 hkH1 hS => ?_)
      obtain ⟨hcw, ho1⟩ := hpH1
      have hzH1 := hz0.at hAB hS
      have hjH1 := hj0.at hAB hS
      have hm1 := lw_cls hLX hw hzH1 hkH1
      refine lv_istore (lv' := [(5, .int (iI 0)), (4, .int (iI i)), (3, .ref o), (2, .ref (w 0)), (1, .ref (u 0)), (0, .ref b)]) hx hb dL_law_1061 hl (by decide) rfl (fun ls hl => ?_)
      refine lv_aload_n hx hb dL_law_1063 rfl (lv_at hl 3 rfl) ?_
      refine lv_aload_n hx hb dL_law_1064 rfl (lv_at hl 5 rfl) ?_
      refine lv_iload hx hb dL_law_1065 (lv_at hl 1 rfl) ?_
      refine q_con hx hb dL_law_1067 ?_
      refine q_add hx hb dL_law_1068 ?_
      refine r_xld hx hb hX hbl hbA hS (i := i + 1) (z := x1) (by omega) hL ex1 dL_law_1069 ?_
      refine lv_aload_n hx hb dL_law_1070 rfl (lv_at hl 5 rfl) ?_
      refine lv_iload hx hb dL_law_1071 (lv_at hl 1 rfl) ?_
      refine q_con hx hb dL_law_1073 ?_
      refine q_add hx hb dL_law_1074 ?_
      refine r_xld hx hb hX hbl hbA hS (i := i + 2) (z := x2) (by omega) hL ex2 dL_law_1075 ?_
      refine c_Vr (As := [.int (iI x1), .int (iI x2)]) (rest := []) (b := w 0) (C := RX3) (r := some (.int (iI (if x2 = 3 then 12 * sv x1.toNat 0 + sv x1.toNat 1 else sv x1.toNat x2.toNat)))) (st1 := [.int (iI (if x2 = 3 then 12 * sv x1.toNat 0 + sv x1.toNat 1 else sv x1.toNat x2.toNat))]) fx hl (mok_ofSpan θ l S0 _ w r q dt sv th bc rf kn hm1 x1 x2 (by first | assumption | omega | (dsimp only; first | assumption | omega) | exact Hid.mk (by first | assumption | omega) | exact Hid.mk ⟨fun _ => by first | assumption | omega, fun _ => by first | assumption | omega⟩) (by first | assumption | omega | (dsimp only; first | assumption | omega) | exact Hid.mk (by first | assumption | omega) | exact Hid.mk ⟨fun _ => by first | assumption | omega, fun _ => by first | assumption | omega⟩) (by first | assumption | omega | (dsimp only; first | assumption | omega) | exact Hid.mk (by first | assumption | omega) | exact Hid.mk ⟨fun _ => by first | assumption | omega, fun _ => by first | assumption | omega⟩) (by first | assumption | omega | (dsimp only; first | assumption | omega) | exact Hid.mk (by first | assumption | omega) | exact Hid.mk ⟨fun _ => by first | assumption | omega, fun _ => by first | assumption | omega⟩)) (ob_recv hK hm1.2.2.1.1 rfl) dL_law_1076 k1250 k1251 k1252 k6 k1253 hd_X3_ofSpan rfl rfl ⟨by omega, by omega⟩ (Nat.le_of_ble_eq_true rfl) ⟨by (try dsimp only); omega, by (try dsimp only); omega⟩ hS (wa_b hm1.2.1 hzH1.2.1) (fun H2 locs hpH2 hszH2 hkH2 hS => ?_)
      obtain ⟨r1, q1, hm2, nr, nq⟩ := hpH2
      have hzH2 := hz0.at hAB hS
      have hL2 := lw_mod hLX hzH2 hu hcw ho1 hfr hfq hm2 nr nq hkH2
      refine q_nm (fun z3 ez3 => ?_)
      refine lv_istore (lv' := [(6, .int (iI z3)), (5, .int (iI 0)), (4, .int (iI i)), (3, .ref o), (2, .ref (w 0)), (1, .ref (u 0)), (0, .ref b)]) hx hb dL_law_1079 hl (by decide) rfl (fun ls hl => ?_)
      refine lv_goto (tgt := 2331) hx hb dL_law_1081 (by decide) ?_
      exact kk _ _ _ _ _ ⟨_, _, _, _, _, _, _, _, _, _, hL2⟩ hS (by omega) (by omega) (lv_sub hl [2, 3, 4, 5, 6] rfl)
    · refine lv_aload_n hx hb dL_law_1044 rfl (lv_at hl 3 rfl) ?_
      refine lv_aload_n hx hb dL_law_1045 rfl (lv_at hl 4 rfl) ?_
      refine lv_iload hx hb dL_law_1046 (lv_at hl 0 rfl) ?_
      refine q_con hx hb dL_law_1048 ?_
      refine q_add hx hb dL_law_1049 ?_
      refine r_xld hx hb hX hbl hbA hS (i := i + 1) (z := x1) (by omega) hL ex1 dL_law_1050 ?_
      refine lv_aload_n hx hb dL_law_1051 rfl (lv_at hl 4 rfl) ?_
      refine lv_iload hx hb dL_law_1052 (lv_at hl 0 rfl) ?_
      refine q_con hx hb dL_law_1054 ?_
      refine q_add hx hb dL_law_1055 ?_
      refine r_xld hx hb hX hbl hbA hS (i := i + 2) (z := x2) (by omega) hL ex2 dL_law_1056 ?_
      refine lv_aload_n hx hb dL_law_1057 rfl (lv_at hl 1 rfl) ?_
      refine c_SWr (As := [.ref (u 0), .int (iI x1), .int (iI x2), .ref o]) (rest := []) (r := .int (iI 2)) fx hl (wn2_ofSpan θ l hl0 S0 _ u dt (fun j => sv j 0) (fun j => sv j 1) (fun j => sv j 2) bc rf kn hcr hjH hn o nv sv9 ho hLX.1 x1 x2 (by first | assumption | omega | (dsimp only; first | assumption | omega) | exact Hid.mk (by first | assumption | omega) | exact Hid.mk ⟨fun _ => by first | assumption | omega, fun _ => by first | assumption | omega⟩) (by first | assumption | omega | (dsimp only; first | assumption | omega) | exact Hid.mk (by first | assumption | omega) | exact Hid.mk ⟨fun _ => by first | assumption | omega, fun _ => by first | assumption | omega⟩) (by first | assumption | omega | (dsimp only; first | assumption | omega) | exact Hid.mk (by first | assumption | omega) | exact Hid.mk ⟨fun _ => by first | assumption | omega, fun _ => by first | assumption | omega⟩) (by first | assumption | omega | (dsimp only; first | assumption | omega) | exact Hid.mk (by first | assumption | omega) | exact Hid.mk ⟨fun _ => by first | assumption | omega, fun _ => by first | assumption | omega⟩)) dL_law_1058 k865 k866 k0 k867 hd_L_ofSpan rfl ⟨by omega, by omega⟩ (Nat.le_of_ble_eq_true rfl) ⟨by (try dsimp only); omega, by (try dsimp only); omega⟩ hS (fun x h => h.elim (fun h => h.elim (fun ⟨j, hj, e⟩ => e ▸ hu.2 j hj) (fun h => Nat.le_trans hzH.2.1 h)) (fun e => e ▸ hoθ)) (fun H4 locs hpH4 hszH4 hkH4 hS => ?_)
      obtain ⟨hcw, ho1⟩ := hpH4
      have hzH1 := hz0.at hAB hS
      have hjH1 := hj0.at hAB hS
      have hm1 := lw_cls hLX hw hzH1 hkH4
      refine lv_istore (lv' := [(5, .int (iI 2)), (4, .int (iI i)), (3, .ref o), (2, .ref (w 0)), (1, .ref (u 0)), (0, .ref b)]) hx hb dL_law_1061 hl (by decide) rfl (fun ls hl => ?_)
      refine lv_aload_n hx hb dL_law_1063 rfl (lv_at hl 3 rfl) ?_
      refine lv_aload_n hx hb dL_law_1064 rfl (lv_at hl 5 rfl) ?_
      refine lv_iload hx hb dL_law_1065 (lv_at hl 1 rfl) ?_
      refine q_con hx hb dL_law_1067 ?_
      refine q_add hx hb dL_law_1068 ?_
      refine r_xld hx hb hX hbl hbA hS (i := i + 1) (z := x1) (by omega) hL ex1 dL_law_1069 ?_
      refine lv_aload_n hx hb dL_law_1070 rfl (lv_at hl 5 rfl) ?_
      refine lv_iload hx hb dL_law_1071 (lv_at hl 1 rfl) ?_
      refine q_con hx hb dL_law_1073 ?_
      refine q_add hx hb dL_law_1074 ?_
      refine r_xld hx hb hX hbl hbA hS (i := i + 2) (z := x2) (by omega) hL ex2 dL_law_1075 ?_
      refine c_Vr (As := [.int (iI x1), .int (iI x2)]) (rest := []) (b := w 0) (C := RX3) (r := some (.int (iI 0))) (st1 := [.int (iI 0)]) fx hl (mno2_ofSpan θ l S0 _ w r q dt sv th bc rf kn hm1 x1 x2 (by first | assumption | omega | (dsimp only; first | assumption | omega) | exact Hid.mk (by first | assumption | omega) | exact Hid.mk ⟨fun _ => by first | assumption | omega, fun _ => by first | assumption | omega⟩) (by first | assumption | omega | (dsimp only; first | assumption | omega) | exact Hid.mk (by first | assumption | omega) | exact Hid.mk ⟨fun _ => by first | assumption | omega, fun _ => by first | assumption | omega⟩) (by first | assumption | omega | (dsimp only; first | assumption | omega) | exact Hid.mk (by first | assumption | omega) | exact Hid.mk ⟨fun _ => by first | assumption | omega, fun _ => by first | assumption | omega⟩) (by first | assumption | omega | (dsimp only; first | assumption | omega) | exact Hid.mk (by first | assumption | omega) | exact Hid.mk ⟨fun _ => by first | assumption | omega, fun _ => by first | assumption | omega⟩)) (ob_recv hK hm1.2.2.1.1 rfl) dL_law_1076 k1250 k1251 k1252 k6 k1253 hd_X3_ofSpan rfl rfl ⟨by omega, by omega⟩ (Nat.le_of_ble_eq_true rfl) ⟨by (try dsimp only); omega, by (try dsimp only); omega⟩ hS (wa_b hm1.2.1 hzH1.2.1) (fun H5 locs hpH5 hszH5 hkH5 hS => ?_)
      obtain ⟨r1, q1, hm2, nr, nq⟩ := hpH5
      have hzH2 := hz0.at hAB hS
      have hL2 := lw_mod hLX hzH2 hu hcw ho1 hfr hfq hm2 nr nq hkH5
      refine lv_istore (lv' := [(6, .int (iI 0)), (5, .int (iI 2)), (4, .int (iI i)), (3, .ref o), (2, .ref (w 0)), (1, .ref (u 0)), (0, .ref b)]) hx hb dL_law_1079 hl (by decide) rfl (fun ls hl => ?_)
      refine lv_goto (tgt := 2331) hx hb dL_law_1081 (by decide) ?_
      exact kk _ _ _ _ _ ⟨_, _, _, _, _, _, _, _, _, _, hL2⟩ hS (by omega) (by omega) (lv_sub hl [2, 3, 4, 5, 6] rfl)
  · refine lv_aload_n hx hb dL_law_1044 rfl (lv_at hl 3 rfl) ?_
    refine lv_aload_n hx hb dL_law_1045 rfl (lv_at hl 4 rfl) ?_
    refine lv_iload hx hb dL_law_1046 (lv_at hl 0 rfl) ?_
    refine q_con hx hb dL_law_1048 ?_
    refine q_add hx hb dL_law_1049 ?_
    refine r_xld hx hb hX hbl hbA hS (i := i + 1) (z := x1) (by omega) hL ex1 dL_law_1050 ?_
    refine lv_aload_n hx hb dL_law_1051 rfl (lv_at hl 4 rfl) ?_
    refine lv_iload hx hb dL_law_1052 (lv_at hl 0 rfl) ?_
    refine q_con hx hb dL_law_1054 ?_
    refine q_add hx hb dL_law_1055 ?_
    refine r_xld hx hb hX hbl hbA hS (i := i + 2) (z := x2) (by omega) hL ex2 dL_law_1056 ?_
    refine lv_aload_n hx hb dL_law_1057 rfl (lv_at hl 1 rfl) ?_
    refine c_SWr (As := [.ref (u 0), .int (iI x1), .int (iI x2), .ref o]) (rest := []) (r := .int (iI 1)) fx hl (wn1_ofSpan θ l hl0 S0 _ u dt (fun j => sv j 0) (fun j => sv j 1) (fun j => sv j 2) bc rf kn hcr hjH hn o nv sv9 ho hLX.1 x1 x2 (by first | assumption | omega | (dsimp only; first | assumption | omega) | exact Hid.mk (by first | assumption | omega) | exact Hid.mk ⟨fun _ => by first | assumption | omega, fun _ => by first | assumption | omega⟩) (by first | assumption | omega | (dsimp only; first | assumption | omega) | exact Hid.mk (by first | assumption | omega) | exact Hid.mk ⟨fun _ => by first | assumption | omega, fun _ => by first | assumption | omega⟩) (by first | assumption | omega | (dsimp only; first | assumption | omega) | exact Hid.mk (by first | assumption | omega) | exact Hid.mk ⟨fun _ => by first | assumption | omega, fun _ => by first | assumption | omega⟩)) dL_law_1058 k865 k866 k0 k867 hd_L_ofSpan rfl ⟨by omega, by omega⟩ (Nat.le_of_ble_eq_true rfl) ⟨by (try dsimp only); omega, by (try dsimp only); omega⟩ hS (fun x h => h.elim (fun h => h.elim (fun ⟨j, hj, e⟩ => e ▸ hu.2 j hj) (fun h => Nat.le_trans hzH.2.1 h)) (fun e => e ▸ hoθ)) (fun H6 locs hpH6 hszH6 hkH6 hS => ?_)
    obtain ⟨hcw, ho1⟩ := hpH6
    have hzH1 := hz0.at hAB hS
    have hjH1 := hj0.at hAB hS
    have hm1 := lw_cls hLX hw hzH1 hkH6
    refine lv_istore (lv' := [(5, .int (iI 1)), (4, .int (iI i)), (3, .ref o), (2, .ref (w 0)), (1, .ref (u 0)), (0, .ref b)]) hx hb dL_law_1061 hl (by decide) rfl (fun ls hl => ?_)
    refine lv_aload_n hx hb dL_law_1063 rfl (lv_at hl 3 rfl) ?_
    refine lv_aload_n hx hb dL_law_1064 rfl (lv_at hl 5 rfl) ?_
    refine lv_iload hx hb dL_law_1065 (lv_at hl 1 rfl) ?_
    refine q_con hx hb dL_law_1067 ?_
    refine q_add hx hb dL_law_1068 ?_
    refine r_xld hx hb hX hbl hbA hS (i := i + 1) (z := x1) (by omega) hL ex1 dL_law_1069 ?_
    refine lv_aload_n hx hb dL_law_1070 rfl (lv_at hl 5 rfl) ?_
    refine lv_iload hx hb dL_law_1071 (lv_at hl 1 rfl) ?_
    refine q_con hx hb dL_law_1073 ?_
    refine q_add hx hb dL_law_1074 ?_
    refine r_xld hx hb hX hbl hbA hS (i := i + 2) (z := x2) (by omega) hL ex2 dL_law_1075 ?_
    refine c_Vr (As := [.int (iI x1), .int (iI x2)]) (rest := []) (b := w 0) (C := RX3) (r := some (.int (iI 0))) (st1 := [.int (iI 0)]) fx hl (mno1_ofSpan θ l S0 _ w r q dt sv th bc rf kn hm1 x1 x2 (by first | assumption | omega | (dsimp only; first | assumption | omega) | exact Hid.mk (by first | assumption | omega) | exact Hid.mk ⟨fun _ => by first | assumption | omega, fun _ => by first | assumption | omega⟩) (by first | assumption | omega | (dsimp only; first | assumption | omega) | exact Hid.mk (by first | assumption | omega) | exact Hid.mk ⟨fun _ => by first | assumption | omega, fun _ => by first | assumption | omega⟩) (by first | assumption | omega | (dsimp only; first | assumption | omega) | exact Hid.mk (by first | assumption | omega) | exact Hid.mk ⟨fun _ => by first | assumption | omega, fun _ => by first | assumption | omega⟩)) (ob_recv hK hm1.2.2.1.1 rfl) dL_law_1076 k1250 k1251 k1252 k6 k1253 hd_X3_ofSpan rfl rfl ⟨by omega, by omega⟩ (Nat.le_of_ble_eq_true rfl) ⟨by (try dsimp only); omega, by (try dsimp only); omega⟩ hS (wa_b hm1.2.1 hzH1.2.1) (fun H7 locs hpH7 hszH7 hkH7 hS => ?_)
    obtain ⟨r1, q1, hm2, nr, nq⟩ := hpH7
    have hzH2 := hz0.at hAB hS
    have hL2 := lw_mod hLX hzH2 hu hcw ho1 hfr hfq hm2 nr nq hkH7
    refine lv_istore (lv' := [(6, .int (iI 0)), (5, .int (iI 1)), (4, .int (iI i)), (3, .ref o), (2, .ref (w 0)), (1, .ref (u 0)), (0, .ref b)]) hx hb dL_law_1079 hl (by decide) rfl (fun ls hl => ?_)
    refine lv_goto (tgt := 2331) hx hb dL_law_1081 (by decide) ?_
    exact kk _ _ _ _ _ ⟨_, _, _, _, _, _, _, _, _, _, hL2⟩ hS (by omega) (by omega) (lv_sub hl [2, 3, 4, 5, 6] rfl)

set_option maxHeartbeats 4000000 in
set_option maxRecDepth 100000 in
theorem lc_isKept {p : Program} {l : Launch} {e : Env} {R : Room} {s : State} {m : MethodId} {args : Array Value} {below : List Frame} {meth : Method} {c : Code} {Q : State → Prop} {θ : TH} {S0 : State} (fx : FX p m c cL_law 7 s args yL_law.cls S0) (hl0 : l.stackTraces = false) (hz0 : SZ θ S0 s.heap) (hj0 : SJ θ S0 s.heap) (hn : NX S0) {u w : Nat → Nat} {o b L : Nat} {xs : Nat → Int32} (hLX : LX u w o) (hoθ : θ.2.2.2 ≤ o) (hX : va_X b L xs s s.heap) (hbl : b < s.heap.size) (hbA : ¬ AJ θ b) (hL : L ≤ 2560) (hRF : 1000 ≤ R.frames ∧ 1000 ≤ R.locals) {H : Heap} {locs : List Loc} {cells slots : Nat} {ls : Array Slot} {i : Int} (hi : 0 ≤ i ∧ i + 5 ≤ (L : Int)) (hw : LWE θ S0 u w o H) (hS : va_S (AJ θ) s.heap H locs) (hRc : cells + 400 ≤ R.cells ∧ slots + 7000 ≤ R.slots) (hl : lv_has ls 7 [(4, .int (iI i)), (3, .ref o), (2, .ref (w 0)), (1, .ref (u 0)), (0, .ref b)]) (kk : LK p l e R s m args below meth c Q θ S0 u w o b i cells slots 2331) : W p l e R s m args below meth c H locs cells slots Q (F0 m 1084 ls []) := by
  obtain ⟨hx, hb, hml, hown, hts⟩ := id fx.1
  have hAB : ∀ x : Nat, AJ θ x → θ.2.2.2 ≤ x := fun _ h => h
  obtain ⟨r, q, dt, sv, th, bc, rf, kn, nv, sv9, hw⟩ := hw
  obtain ⟨hcr, hmr, ho, hfr, hfq⟩ := id hw
  have hzH := hz0.at hAB hS
  have hjH := hj0.at hAB hS
  have hK := sz_K fx.2 hz0
  have hu := hcr.2.1
  obtain ⟨x1, ex1⟩ : ∃ z : Int, z = (xs (i + 1).toNat).toInt := ⟨_, rfl⟩
  have bx1 := x32_b ex1
  obtain ⟨x2, ex2⟩ : ∃ z : Int, z = (xs (i + 2).toNat).toInt := ⟨_, rfl⟩
  have bx2 := x32_b ex2
  by_cases hc1 : 0 ≤ x1 ∧ x1 < 6
  · by_cases hc2 : -240000 ≤ x2 ∧ x2 ≤ 240000
    · obtain ⟨r9, hr9⟩ := bex (dI (dt x1.toNat) - dI (shI (dt x1.toNat) x2) = 0)
      refine lv_aload_n hx hb dL_law_1084 rfl (lv_at hl 3 rfl) ?_
      refine lv_aload_n hx hb dL_law_1085 rfl (lv_at hl 4 rfl) ?_
      refine lv_iload hx hb dL_law_1086 (lv_at hl 0 rfl) ?_
      refine q_con hx hb dL_law_1088 ?_
      refine q_add hx hb dL_law_1089 ?_
      refine r_xld hx hb hX hbl hbA hS (i := i + 1) (z := x1) (by omega) hL ex1 dL_law_1090 ?_
      refine lv_aload_n hx hb dL_law_1091 rfl (lv_at hl 4 rfl) ?_
      refine lv_iload hx hb dL_law_1092 (lv_at hl 0 rfl) ?_
      refine q_con hx hb dL_law_1094 ?_
      refine q_add hx hb dL_law_1095 ?_
      refine r_xld hx hb hX hbl hbA hS (i := i + 2) (z := x2) (by omega) hL ex2 dL_law_1096 ?_
      refine lv_aload_n hx hb dL_law_1097 rfl (lv_at hl 1 rfl) ?_
      refine c_SWr (As := [.ref (u 0), .int (iI x1), .int (iI x2), .ref o]) (rest := []) (r := .int (iI 0)) fx hl (wr_isKept θ l hl0 S0 _ u dt (fun j => sv j 0) (fun j => sv j 1) (fun j => sv j 2) bc rf kn hcr hjH hn o nv sv9 ho hLX.1 x1 x2 r9 hr9 (by first | assumption | omega | (dsimp only; first | assumption | omega) | exact Hid.mk (by first | assumption | omega) | exact Hid.mk ⟨fun _ => by first | assumption | omega, fun _ => by first | assumption | omega⟩) (by first | assumption | omega | (dsimp only; first | assumption | omega) | exact Hid.mk (by first | assumption | omega) | exact Hid.mk ⟨fun _ => by first | assumption | omega, fun _ => by first | assumption | omega⟩) (by first | assumption | omega | (dsimp only; first | assumption | omega) | exact Hid.mk (by first | assumption | omega) | exact Hid.mk ⟨fun _ => by first | assumption | omega, fun _ => by first | assumption | omega⟩) (by first | assumption | omega | (dsimp only; first | assumption | omega) | exact Hid.mk (by first | assumption | omega) | exact Hid.mk ⟨fun _ => by first | assumption | omega, fun _ => by first | assumption | omega⟩)) dL_law_1098 k869 k870 k0 k871 hd_L_isKept rfl ⟨by omega, by omega⟩ (Nat.le_of_ble_eq_true rfl) ⟨by (try dsimp only); omega, by (try dsimp only); omega⟩ hS (fun x h => h.elim (fun h => h.elim (fun ⟨j, hj, e⟩ => e ▸ hu.2 j hj) (fun h => Nat.le_trans hzH.2.1 h)) (fun e => e ▸ hoθ)) (fun H1 locs hpH1 hszH1 hkH1 hS => ?_)
      obtain ⟨hcw, ho1⟩ := hpH1
      have hzH1 := hz0.at hAB hS
      have hjH1 := hj0.at hAB hS
      have hm1 := lw_cls hLX hw hzH1 hkH1
      refine lv_istore (lv' := [(5, .int (iI 0)), (4, .int (iI i)), (3, .ref o), (2, .ref (w 0)), (1, .ref (u 0)), (0, .ref b)]) hx hb dL_law_1101 hl (by decide) rfl (fun ls hl => ?_)
      refine lv_aload_n hx hb dL_law_1103 rfl (lv_at hl 3 rfl) ?_
      refine lv_aload_n hx hb dL_law_1104 rfl (lv_at hl 5 rfl) ?_
      refine lv_iload hx hb dL_law_1105 (lv_at hl 1 rfl) ?_
      refine q_con hx hb dL_law_1107 ?_
      refine q_add hx hb dL_law_1108 ?_
      refine r_xld hx hb hX hbl hbA hS (i := i + 1) (z := x1) (by omega) hL ex1 dL_law_1109 ?_
      refine lv_aload_n hx hb dL_law_1110 rfl (lv_at hl 5 rfl) ?_
      refine lv_iload hx hb dL_law_1111 (lv_at hl 1 rfl) ?_
      refine q_con hx hb dL_law_1113 ?_
      refine q_add hx hb dL_law_1114 ?_
      refine r_xld hx hb hX hbl hbA hS (i := i + 2) (z := x2) (by omega) hL ex2 dL_law_1115 ?_
      refine c_Vr (As := [.int (iI x1), .int (iI x2)]) (rest := []) (b := w 0) (C := RX3) (r := some (.int (iI r9))) (st1 := [.int (iI r9)]) fx hl (mok_isKept θ l S0 _ w r q dt sv th bc rf kn hm1 x1 x2 r9 hr9 (by first | assumption | omega | (dsimp only; first | assumption | omega) | exact Hid.mk (by first | assumption | omega) | exact Hid.mk ⟨fun _ => by first | assumption | omega, fun _ => by first | assumption | omega⟩) (by first | assumption | omega | (dsimp only; first | assumption | omega) | exact Hid.mk (by first | assumption | omega) | exact Hid.mk ⟨fun _ => by first | assumption | omega, fun _ => by first | assumption | omega⟩) (by first | assumption | omega | (dsimp only; first | assumption | omega) | exact Hid.mk (by first | assumption | omega) | exact Hid.mk ⟨fun _ => by first | assumption | omega, fun _ => by first | assumption | omega⟩) (by first | assumption | omega | (dsimp only; first | assumption | omega) | exact Hid.mk (by first | assumption | omega) | exact Hid.mk ⟨fun _ => by first | assumption | omega, fun _ => by first | assumption | omega⟩)) (ob_recv hK hm1.2.2.1.1 rfl) dL_law_1116 k1258 k1259 k1260 k6 k1261 hd_X3_isKept rfl rfl ⟨by omega, by omega⟩ (Nat.le_of_ble_eq_true rfl) ⟨by (try dsimp only); omega, by (try dsimp only); omega⟩ hS (wa_b hm1.2.1 hzH1.2.1) (fun H2 locs hpH2 hszH2 hkH2 hS => ?_)
      obtain ⟨r1, q1, hm2, nr, nq⟩ := hpH2
      have hzH2 := hz0.at hAB hS
      have hL2 := lw_mod hLX hzH2 hu hcw ho1 hfr hfq hm2 nr nq hkH2
      refine lv_istore (lv' := [(6, .int (iI r9)), (5, .int (iI 0)), (4, .int (iI i)), (3, .ref o), (2, .ref (w 0)), (1, .ref (u 0)), (0, .ref b)]) hx hb dL_law_1119 hl (by decide) rfl (fun ls hl => ?_)
      refine lv_goto (tgt := 2331) hx hb dL_law_1121 (by decide) ?_
      exact kk _ _ _ _ _ ⟨_, _, _, _, _, _, _, _, _, _, hL2⟩ hS (by omega) (by omega) (lv_sub hl [2, 3, 4, 5, 6] rfl)
    · refine lv_aload_n hx hb dL_law_1084 rfl (lv_at hl 3 rfl) ?_
      refine lv_aload_n hx hb dL_law_1085 rfl (lv_at hl 4 rfl) ?_
      refine lv_iload hx hb dL_law_1086 (lv_at hl 0 rfl) ?_
      refine q_con hx hb dL_law_1088 ?_
      refine q_add hx hb dL_law_1089 ?_
      refine r_xld hx hb hX hbl hbA hS (i := i + 1) (z := x1) (by omega) hL ex1 dL_law_1090 ?_
      refine lv_aload_n hx hb dL_law_1091 rfl (lv_at hl 4 rfl) ?_
      refine lv_iload hx hb dL_law_1092 (lv_at hl 0 rfl) ?_
      refine q_con hx hb dL_law_1094 ?_
      refine q_add hx hb dL_law_1095 ?_
      refine r_xld hx hb hX hbl hbA hS (i := i + 2) (z := x2) (by omega) hL ex2 dL_law_1096 ?_
      refine lv_aload_n hx hb dL_law_1097 rfl (lv_at hl 1 rfl) ?_
      refine c_SWr (As := [.ref (u 0), .int (iI x1), .int (iI x2), .ref o]) (rest := []) (r := .int (iI 2)) fx hl (wn2_isKept θ l hl0 S0 _ u dt (fun j => sv j 0) (fun j => sv j 1) (fun j => sv j 2) bc rf kn hcr hjH hn o nv sv9 ho hLX.1 x1 x2 (by first | assumption | omega | (dsimp only; first | assumption | omega) | exact Hid.mk (by first | assumption | omega) | exact Hid.mk ⟨fun _ => by first | assumption | omega, fun _ => by first | assumption | omega⟩) (by first | assumption | omega | (dsimp only; first | assumption | omega) | exact Hid.mk (by first | assumption | omega) | exact Hid.mk ⟨fun _ => by first | assumption | omega, fun _ => by first | assumption | omega⟩) (by first | assumption | omega | (dsimp only; first | assumption | omega) | exact Hid.mk (by first | assumption | omega) | exact Hid.mk ⟨fun _ => by first | assumption | omega, fun _ => by first | assumption | omega⟩) (by first | assumption | omega | (dsimp only; first | assumption | omega) | exact Hid.mk (by first | assumption | omega) | exact Hid.mk ⟨fun _ => by first | assumption | omega, fun _ => by first | assumption | omega⟩)) dL_law_1098 k869 k870 k0 k871 hd_L_isKept rfl ⟨by omega, by omega⟩ (Nat.le_of_ble_eq_true rfl) ⟨by (try dsimp only); omega, by (try dsimp only); omega⟩ hS (fun x h => h.elim (fun h => h.elim (fun ⟨j, hj, e⟩ => e ▸ hu.2 j hj) (fun h => Nat.le_trans hzH.2.1 h)) (fun e => e ▸ hoθ)) (fun H3 locs hpH3 hszH3 hkH3 hS => ?_)
      obtain ⟨hcw, ho1⟩ := hpH3
      have hzH1 := hz0.at hAB hS
      have hjH1 := hj0.at hAB hS
      have hm1 := lw_cls hLX hw hzH1 hkH3
      refine lv_istore (lv' := [(5, .int (iI 2)), (4, .int (iI i)), (3, .ref o), (2, .ref (w 0)), (1, .ref (u 0)), (0, .ref b)]) hx hb dL_law_1101 hl (by decide) rfl (fun ls hl => ?_)
      refine lv_aload_n hx hb dL_law_1103 rfl (lv_at hl 3 rfl) ?_
      refine lv_aload_n hx hb dL_law_1104 rfl (lv_at hl 5 rfl) ?_
      refine lv_iload hx hb dL_law_1105 (lv_at hl 1 rfl) ?_
      refine q_con hx hb dL_law_1107 ?_
      refine q_add hx hb dL_law_1108 ?_
      refine r_xld hx hb hX hbl hbA hS (i := i + 1) (z := x1) (by omega) hL ex1 dL_law_1109 ?_
      refine lv_aload_n hx hb dL_law_1110 rfl (lv_at hl 5 rfl) ?_
      refine lv_iload hx hb dL_law_1111 (lv_at hl 1 rfl) ?_
      refine q_con hx hb dL_law_1113 ?_
      refine q_add hx hb dL_law_1114 ?_
      refine r_xld hx hb hX hbl hbA hS (i := i + 2) (z := x2) (by omega) hL ex2 dL_law_1115 ?_
      refine c_Vr (As := [.int (iI x1), .int (iI x2)]) (rest := []) (b := w 0) (C := RX3) (r := some (.int (iI 0))) (st1 := [.int (iI 0)]) fx hl (mno2_isKept θ l S0 _ w r q dt sv th bc rf kn hm1 x1 x2 (by first | assumption | omega | (dsimp only; first | assumption | omega) | exact Hid.mk (by first | assumption | omega) | exact Hid.mk ⟨fun _ => by first | assumption | omega, fun _ => by first | assumption | omega⟩) (by first | assumption | omega | (dsimp only; first | assumption | omega) | exact Hid.mk (by first | assumption | omega) | exact Hid.mk ⟨fun _ => by first | assumption | omega, fun _ => by first | assumption | omega⟩) (by first | assumption | omega | (dsimp only; first | assumption | omega) | exact Hid.mk (by first | assumption | omega) | exact Hid.mk ⟨fun _ => by first | assumption | omega, fun _ => by first | assumption | omega⟩) (by first | assumption | omega | (dsimp only; first | assumption | omega) | exact Hid.mk (by first | assumption | omega) | exact Hid.mk ⟨fun _ => by first | assumption | omega, fun _ => by first | assumption | omega⟩)) (ob_recv hK hm1.2.2.1.1 rfl) dL_law_1116 k1258 k1259 k1260 k6 k1261 hd_X3_isKept rfl rfl ⟨by omega, by omega⟩ (Nat.le_of_ble_eq_true rfl) ⟨by (try dsimp only); omega, by (try dsimp only); omega⟩ hS (wa_b hm1.2.1 hzH1.2.1) (fun H4 locs hpH4 hszH4 hkH4 hS => ?_)
      obtain ⟨r1, q1, hm2, nr, nq⟩ := hpH4
      have hzH2 := hz0.at hAB hS
      have hL2 := lw_mod hLX hzH2 hu hcw ho1 hfr hfq hm2 nr nq hkH4
      refine lv_istore (lv' := [(6, .int (iI 0)), (5, .int (iI 2)), (4, .int (iI i)), (3, .ref o), (2, .ref (w 0)), (1, .ref (u 0)), (0, .ref b)]) hx hb dL_law_1119 hl (by decide) rfl (fun ls hl => ?_)
      refine lv_goto (tgt := 2331) hx hb dL_law_1121 (by decide) ?_
      exact kk _ _ _ _ _ ⟨_, _, _, _, _, _, _, _, _, _, hL2⟩ hS (by omega) (by omega) (lv_sub hl [2, 3, 4, 5, 6] rfl)
  · refine lv_aload_n hx hb dL_law_1084 rfl (lv_at hl 3 rfl) ?_
    refine lv_aload_n hx hb dL_law_1085 rfl (lv_at hl 4 rfl) ?_
    refine lv_iload hx hb dL_law_1086 (lv_at hl 0 rfl) ?_
    refine q_con hx hb dL_law_1088 ?_
    refine q_add hx hb dL_law_1089 ?_
    refine r_xld hx hb hX hbl hbA hS (i := i + 1) (z := x1) (by omega) hL ex1 dL_law_1090 ?_
    refine lv_aload_n hx hb dL_law_1091 rfl (lv_at hl 4 rfl) ?_
    refine lv_iload hx hb dL_law_1092 (lv_at hl 0 rfl) ?_
    refine q_con hx hb dL_law_1094 ?_
    refine q_add hx hb dL_law_1095 ?_
    refine r_xld hx hb hX hbl hbA hS (i := i + 2) (z := x2) (by omega) hL ex2 dL_law_1096 ?_
    refine lv_aload_n hx hb dL_law_1097 rfl (lv_at hl 1 rfl) ?_
    refine c_SWr (As := [.ref (u 0), .int (iI x1), .int (iI x2), .ref o]) (rest := []) (r := .int (iI 1)) fx hl (wn1_isKept θ l hl0 S0 _ u dt (fun j => sv j 0) (fun j => sv j 1) (fun j => sv j 2) bc rf kn hcr hjH hn o nv sv9 ho hLX.1 x1 x2 (by first | assumption | omega | (dsimp only; first | assumption | omega) | exact Hid.mk (by first | assumption | omega) | exact Hid.mk ⟨fun _ => by first | assumption | omega, fun _ => by first | assumption | omega⟩) (by first | assumption | omega | (dsimp only; first | assumption | omega) | exact Hid.mk (by first | assumption | omega) | exact Hid.mk ⟨fun _ => by first | assumption | omega, fun _ => by first | assumption | omega⟩) (by first | assumption | omega | (dsimp only; first | assumption | omega) | exact Hid.mk (by first | assumption | omega) | exact Hid.mk ⟨fun _ => by first | assumption | omega, fun _ => by first | assumption | omega⟩)) dL_law_1098 k869 k870 k0 k871 hd_L_isKept rfl ⟨by omega, by omega⟩ (Nat.le_of_ble_eq_true rfl) ⟨by (try dsimp only); omega, by (try dsimp only); omega⟩ hS (fun x h => h.elim (fun h => h.elim (fun ⟨j, hj, e⟩ => e ▸ hu.2 j hj) (fun h => Nat.le_trans hzH.2.1 h)) (fun e => e ▸ hoθ)) (fun H5 locs hpH5 hszH5 hkH5 hS => ?_)
    obtain ⟨hcw, ho1⟩ := hpH5
    have hzH1 := hz0.at hAB hS
    have hjH1 := hj0.at hAB hS
    have hm1 := lw_cls hLX hw hzH1 hkH5
    refine lv_istore (lv' := [(5, .int (iI 1)), (4, .int (iI i)), (3, .ref o), (2, .ref (w 0)), (1, .ref (u 0)), (0, .ref b)]) hx hb dL_law_1101 hl (by decide) rfl (fun ls hl => ?_)
    refine lv_aload_n hx hb dL_law_1103 rfl (lv_at hl 3 rfl) ?_
    refine lv_aload_n hx hb dL_law_1104 rfl (lv_at hl 5 rfl) ?_
    refine lv_iload hx hb dL_law_1105 (lv_at hl 1 rfl) ?_
    refine q_con hx hb dL_law_1107 ?_
    refine q_add hx hb dL_law_1108 ?_
    refine r_xld hx hb hX hbl hbA hS (i := i + 1) (z := x1) (by omega) hL ex1 dL_law_1109 ?_
    refine lv_aload_n hx hb dL_law_1110 rfl (lv_at hl 5 rfl) ?_
    refine lv_iload hx hb dL_law_1111 (lv_at hl 1 rfl) ?_
    refine q_con hx hb dL_law_1113 ?_
    refine q_add hx hb dL_law_1114 ?_
    refine r_xld hx hb hX hbl hbA hS (i := i + 2) (z := x2) (by omega) hL ex2 dL_law_1115 ?_
    refine c_Vr (As := [.int (iI x1), .int (iI x2)]) (rest := []) (b := w 0) (C := RX3) (r := some (.int (iI 0))) (st1 := [.int (iI 0)]) fx hl (mno1_isKept θ l S0 _ w r q dt sv th bc rf kn hm1 x1 x2 (by first | assumption | omega | (dsimp only; first | assumption | omega) | exact Hid.mk (by first | assumption | omega) | exact Hid.mk ⟨fun _ => by first | assumption | omega, fun _ => by first | assumption | omega⟩) (by first | assumption | omega | (dsimp only; first | assumption | omega) | exact Hid.mk (by first | assumption | omega) | exact Hid.mk ⟨fun _ => by first | assumption | omega, fun _ => by first | assumption | omega⟩) (by first | assumption | omega | (dsimp only; first | assumption | omega) | exact Hid.mk (by first | assumption | omega) | exact Hid.mk ⟨fun _ => by first | assumption | omega, fun _ => by first | assumption | omega⟩)) (ob_recv hK hm1.2.2.1.1 rfl) dL_law_1116 k1258 k1259 k1260 k6 k1261 hd_X3_isKept rfl rfl ⟨by omega, by omega⟩ (Nat.le_of_ble_eq_true rfl) ⟨by (try dsimp only); omega, by (try dsimp only); omega⟩ hS (wa_b hm1.2.1 hzH1.2.1) (fun H6 locs hpH6 hszH6 hkH6 hS => ?_)
    obtain ⟨r1, q1, hm2, nr, nq⟩ := hpH6
    have hzH2 := hz0.at hAB hS
    have hL2 := lw_mod hLX hzH2 hu hcw ho1 hfr hfq hm2 nr nq hkH6
    refine lv_istore (lv' := [(6, .int (iI 0)), (5, .int (iI 1)), (4, .int (iI i)), (3, .ref o), (2, .ref (w 0)), (1, .ref (u 0)), (0, .ref b)]) hx hb dL_law_1119 hl (by decide) rfl (fun ls hl => ?_)
    refine lv_goto (tgt := 2331) hx hb dL_law_1121 (by decide) ?_
    exact kk _ _ _ _ _ ⟨_, _, _, _, _, _, _, _, _, _, hL2⟩ hS (by omega) (by omega) (lv_sub hl [2, 3, 4, 5, 6] rfl)

set_option maxHeartbeats 4000000 in
set_option maxRecDepth 100000 in
theorem lc_loss {p : Program} {l : Launch} {e : Env} {R : Room} {s : State} {m : MethodId} {args : Array Value} {below : List Frame} {meth : Method} {c : Code} {Q : State → Prop} {θ : TH} {S0 : State} (fx : FX p m c cL_law 7 s args yL_law.cls S0) (hl0 : l.stackTraces = false) (hz0 : SZ θ S0 s.heap) (hj0 : SJ θ S0 s.heap) (hn : NX S0) {u w : Nat → Nat} {o b L : Nat} {xs : Nat → Int32} (hLX : LX u w o) (hoθ : θ.2.2.2 ≤ o) (hX : va_X b L xs s s.heap) (hbl : b < s.heap.size) (hbA : ¬ AJ θ b) (hL : L ≤ 2560) (hRF : 1000 ≤ R.frames ∧ 1000 ≤ R.locals) {H : Heap} {locs : List Loc} {cells slots : Nat} {ls : Array Slot} {i : Int} (hi : 0 ≤ i ∧ i + 5 ≤ (L : Int)) (hw : LWE θ S0 u w o H) (hS : va_S (AJ θ) s.heap H locs) (hRc : cells + 400 ≤ R.cells ∧ slots + 7000 ≤ R.slots) (hl : lv_has ls 7 [(4, .int (iI i)), (3, .ref o), (2, .ref (w 0)), (1, .ref (u 0)), (0, .ref b)]) (kk : LK p l e R s m args below meth c Q θ S0 u w o b i cells slots 2331) : W p l e R s m args below meth c H locs cells slots Q (F0 m 1124 ls []) := by
  obtain ⟨hx, hb, hml, hown, hts⟩ := id fx.1
  have hAB : ∀ x : Nat, AJ θ x → θ.2.2.2 ≤ x := fun _ h => h
  obtain ⟨r, q, dt, sv, th, bc, rf, kn, nv, sv9, hw⟩ := hw
  obtain ⟨hcr, hmr, ho, hfr, hfq⟩ := id hw
  have hzH := hz0.at hAB hS
  have hjH := hj0.at hAB hS
  have hK := sz_K fx.2 hz0
  have hu := hcr.2.1
  obtain ⟨x1, ex1⟩ : ∃ z : Int, z = (xs (i + 1).toNat).toInt := ⟨_, rfl⟩
  have bx1 := x32_b ex1
  obtain ⟨x2, ex2⟩ : ∃ z : Int, z = (xs (i + 2).toNat).toInt := ⟨_, rfl⟩
  have bx2 := x32_b ex2
  by_cases hc1 : 0 ≤ x1 ∧ x1 < 6
  · by_cases hc2 : -240000 ≤ x2 ∧ x2 ≤ 240000
    · refine lv_aload_n hx hb dL_law_1124 rfl (lv_at hl 3 rfl) ?_
      refine lv_aload_n hx hb dL_law_1125 rfl (lv_at hl 4 rfl) ?_
      refine lv_iload hx hb dL_law_1126 (lv_at hl 0 rfl) ?_
      refine q_con hx hb dL_law_1128 ?_
      refine q_add hx hb dL_law_1129 ?_
      refine r_xld hx hb hX hbl hbA hS (i := i + 1) (z := x1) (by omega) hL ex1 dL_law_1130 ?_
      refine lv_aload_n hx hb dL_law_1131 rfl (lv_at hl 4 rfl) ?_
      refine lv_iload hx hb dL_law_1132 (lv_at hl 0 rfl) ?_
      refine q_con hx hb dL_law_1134 ?_
      refine q_add hx hb dL_law_1135 ?_
      refine r_xld hx hb hX hbl hbA hS (i := i + 2) (z := x2) (by omega) hL ex2 dL_law_1136 ?_
      refine lv_aload_n hx hb dL_law_1137 rfl (lv_at hl 1 rfl) ?_
      refine c_SWr (As := [.ref (u 0), .int (iI x1), .int (iI x2), .ref o]) (rest := []) (r := .int (iI 0)) fx hl (wr_loss θ l hl0 S0 _ u dt (fun j => sv j 0) (fun j => sv j 1) (fun j => sv j 2) bc rf kn hcr hjH hn o nv sv9 ho hLX.1 x1 x2 (by first | assumption | omega | (dsimp only; first | assumption | omega) | exact Hid.mk (by first | assumption | omega) | exact Hid.mk ⟨fun _ => by first | assumption | omega, fun _ => by first | assumption | omega⟩) (by first | assumption | omega | (dsimp only; first | assumption | omega) | exact Hid.mk (by first | assumption | omega) | exact Hid.mk ⟨fun _ => by first | assumption | omega, fun _ => by first | assumption | omega⟩) (by first | assumption | omega | (dsimp only; first | assumption | omega) | exact Hid.mk (by first | assumption | omega) | exact Hid.mk ⟨fun _ => by first | assumption | omega, fun _ => by first | assumption | omega⟩) (by first | assumption | omega | (dsimp only; first | assumption | omega) | exact Hid.mk (by first | assumption | omega) | exact Hid.mk ⟨fun _ => by first | assumption | omega, fun _ => by first | assumption | omega⟩)) dL_law_1138 k876 k877 k0 k878 hd_L_loss rfl ⟨by omega, by omega⟩ (Nat.le_of_ble_eq_true rfl) ⟨by (try dsimp only); omega, by (try dsimp only); omega⟩ hS (fun x h => h.elim (fun h => h.elim (fun ⟨j, hj, e⟩ => e ▸ hu.2 j hj) (fun h => Nat.le_trans hzH.2.1 h)) (fun e => e ▸ hoθ)) (fun H1 locs hpH1 hszH1 hkH1 hS => ?_)
      obtain ⟨hcw, ho1⟩ := hpH1
      have hzH1 := hz0.at hAB hS
      have hjH1 := hj0.at hAB hS
      have hm1 := lw_cls hLX hw hzH1 hkH1
      refine lv_istore (lv' := [(5, .int (iI 0)), (4, .int (iI i)), (3, .ref o), (2, .ref (w 0)), (1, .ref (u 0)), (0, .ref b)]) hx hb dL_law_1141 hl (by decide) rfl (fun ls hl => ?_)
      refine lv_aload_n hx hb dL_law_1143 rfl (lv_at hl 3 rfl) ?_
      refine lv_aload_n hx hb dL_law_1144 rfl (lv_at hl 5 rfl) ?_
      refine lv_iload hx hb dL_law_1145 (lv_at hl 1 rfl) ?_
      refine q_con hx hb dL_law_1147 ?_
      refine q_add hx hb dL_law_1148 ?_
      refine r_xld hx hb hX hbl hbA hS (i := i + 1) (z := x1) (by omega) hL ex1 dL_law_1149 ?_
      refine lv_aload_n hx hb dL_law_1150 rfl (lv_at hl 5 rfl) ?_
      refine lv_iload hx hb dL_law_1151 (lv_at hl 1 rfl) ?_
      refine q_con hx hb dL_law_1153 ?_
      refine q_add hx hb dL_law_1154 ?_
      refine r_xld hx hb hX hbl hbA hS (i := i + 2) (z := x2) (by omega) hL ex2 dL_law_1155 ?_
      refine c_Vr (As := [.int (iI x1), .int (iI x2)]) (rest := []) (b := w 0) (C := RX3) (r := some (.int (iI (dI (dt x1.toNat) - dI (shI (dt x1.toNat) x2))))) (st1 := [.int (iI (dI (dt x1.toNat) - dI (shI (dt x1.toNat) x2)))]) fx hl (mok_loss θ l S0 _ w r q dt sv th bc rf kn hm1 x1 x2 (by first | assumption | omega | (dsimp only; first | assumption | omega) | exact Hid.mk (by first | assumption | omega) | exact Hid.mk ⟨fun _ => by first | assumption | omega, fun _ => by first | assumption | omega⟩) (by first | assumption | omega | (dsimp only; first | assumption | omega) | exact Hid.mk (by first | assumption | omega) | exact Hid.mk ⟨fun _ => by first | assumption | omega, fun _ => by first | assumption | omega⟩) (by first | assumption | omega | (dsimp only; first | assumption | omega) | exact Hid.mk (by first | assumption | omega) | exact Hid.mk ⟨fun _ => by first | assumption | omega, fun _ => by first | assumption | omega⟩) (by first | assumption | omega | (dsimp only; first | assumption | omega) | exact Hid.mk (by first | assumption | omega) | exact Hid.mk ⟨fun _ => by first | assumption | omega, fun _ => by first | assumption | omega⟩)) (ob_recv hK hm1.2.2.1.1 rfl) dL_law_1156 k1270 k1271 k1272 k6 k1273 hd_X3_loss rfl rfl ⟨by omega, by omega⟩ (Nat.le_of_ble_eq_true rfl) ⟨by (try dsimp only); omega, by (try dsimp only); omega⟩ hS (wa_b hm1.2.1 hzH1.2.1) (fun H2 locs hpH2 hszH2 hkH2 hS => ?_)
      obtain ⟨r1, q1, hm2, nr, nq⟩ := hpH2
      have hzH2 := hz0.at hAB hS
      have hL2 := lw_mod hLX hzH2 hu hcw ho1 hfr hfq hm2 nr nq hkH2
      refine q_nm (fun z3 ez3 => ?_)
      refine lv_istore (lv' := [(6, .int (iI z3)), (5, .int (iI 0)), (4, .int (iI i)), (3, .ref o), (2, .ref (w 0)), (1, .ref (u 0)), (0, .ref b)]) hx hb dL_law_1159 hl (by decide) rfl (fun ls hl => ?_)
      refine lv_goto (tgt := 2331) hx hb dL_law_1161 (by decide) ?_
      exact kk _ _ _ _ _ ⟨_, _, _, _, _, _, _, _, _, _, hL2⟩ hS (by omega) (by omega) (lv_sub hl [2, 3, 4, 5, 6] rfl)
    · refine lv_aload_n hx hb dL_law_1124 rfl (lv_at hl 3 rfl) ?_
      refine lv_aload_n hx hb dL_law_1125 rfl (lv_at hl 4 rfl) ?_
      refine lv_iload hx hb dL_law_1126 (lv_at hl 0 rfl) ?_
      refine q_con hx hb dL_law_1128 ?_
      refine q_add hx hb dL_law_1129 ?_
      refine r_xld hx hb hX hbl hbA hS (i := i + 1) (z := x1) (by omega) hL ex1 dL_law_1130 ?_
      refine lv_aload_n hx hb dL_law_1131 rfl (lv_at hl 4 rfl) ?_
      refine lv_iload hx hb dL_law_1132 (lv_at hl 0 rfl) ?_
      refine q_con hx hb dL_law_1134 ?_
      refine q_add hx hb dL_law_1135 ?_
      refine r_xld hx hb hX hbl hbA hS (i := i + 2) (z := x2) (by omega) hL ex2 dL_law_1136 ?_
      refine lv_aload_n hx hb dL_law_1137 rfl (lv_at hl 1 rfl) ?_
      refine c_SWr (As := [.ref (u 0), .int (iI x1), .int (iI x2), .ref o]) (rest := []) (r := .int (iI 2)) fx hl (wn2_loss θ l hl0 S0 _ u dt (fun j => sv j 0) (fun j => sv j 1) (fun j => sv j 2) bc rf kn hcr hjH hn o nv sv9 ho hLX.1 x1 x2 (by first | assumption | omega | (dsimp only; first | assumption | omega) | exact Hid.mk (by first | assumption | omega) | exact Hid.mk ⟨fun _ => by first | assumption | omega, fun _ => by first | assumption | omega⟩) (by first | assumption | omega | (dsimp only; first | assumption | omega) | exact Hid.mk (by first | assumption | omega) | exact Hid.mk ⟨fun _ => by first | assumption | omega, fun _ => by first | assumption | omega⟩) (by first | assumption | omega | (dsimp only; first | assumption | omega) | exact Hid.mk (by first | assumption | omega) | exact Hid.mk ⟨fun _ => by first | assumption | omega, fun _ => by first | assumption | omega⟩) (by first | assumption | omega | (dsimp only; first | assumption | omega) | exact Hid.mk (by first | assumption | omega) | exact Hid.mk ⟨fun _ => by first | assumption | omega, fun _ => by first | assumption | omega⟩)) dL_law_1138 k876 k877 k0 k878 hd_L_loss rfl ⟨by omega, by omega⟩ (Nat.le_of_ble_eq_true rfl) ⟨by (try dsimp only); omega, by (try dsimp only); omega⟩ hS (fun x h => h.elim (fun h => h.elim (fun ⟨j, hj, e⟩ => e ▸ hu.2 j hj) (fun h => Nat.le_trans hzH.2.1 h)) (fun e => e ▸ hoθ)) (fun H4 locs hpH4 hszH4 hkH4 hS => ?_)
      obtain ⟨hcw, ho1⟩ := hpH4
      have hzH1 := hz0.at hAB hS
      have hjH1 := hj0.at hAB hS
      have hm1 := lw_cls hLX hw hzH1 hkH4
      refine lv_istore (lv' := [(5, .int (iI 2)), (4, .int (iI i)), (3, .ref o), (2, .ref (w 0)), (1, .ref (u 0)), (0, .ref b)]) hx hb dL_law_1141 hl (by decide) rfl (fun ls hl => ?_)
      refine lv_aload_n hx hb dL_law_1143 rfl (lv_at hl 3 rfl) ?_
      refine lv_aload_n hx hb dL_law_1144 rfl (lv_at hl 5 rfl) ?_
      refine lv_iload hx hb dL_law_1145 (lv_at hl 1 rfl) ?_
      refine q_con hx hb dL_law_1147 ?_
      refine q_add hx hb dL_law_1148 ?_
      refine r_xld hx hb hX hbl hbA hS (i := i + 1) (z := x1) (by omega) hL ex1 dL_law_1149 ?_
      refine lv_aload_n hx hb dL_law_1150 rfl (lv_at hl 5 rfl) ?_
      refine lv_iload hx hb dL_law_1151 (lv_at hl 1 rfl) ?_
      refine q_con hx hb dL_law_1153 ?_
      refine q_add hx hb dL_law_1154 ?_
      refine r_xld hx hb hX hbl hbA hS (i := i + 2) (z := x2) (by omega) hL ex2 dL_law_1155 ?_
      refine c_Vr (As := [.int (iI x1), .int (iI x2)]) (rest := []) (b := w 0) (C := RX3) (r := some (.int (iI 0))) (st1 := [.int (iI 0)]) fx hl (mno2_loss θ l S0 _ w r q dt sv th bc rf kn hm1 x1 x2 (by first | assumption | omega | (dsimp only; first | assumption | omega) | exact Hid.mk (by first | assumption | omega) | exact Hid.mk ⟨fun _ => by first | assumption | omega, fun _ => by first | assumption | omega⟩) (by first | assumption | omega | (dsimp only; first | assumption | omega) | exact Hid.mk (by first | assumption | omega) | exact Hid.mk ⟨fun _ => by first | assumption | omega, fun _ => by first | assumption | omega⟩) (by first | assumption | omega | (dsimp only; first | assumption | omega) | exact Hid.mk (by first | assumption | omega) | exact Hid.mk ⟨fun _ => by first | assumption | omega, fun _ => by first | assumption | omega⟩) (by first | assumption | omega | (dsimp only; first | assumption | omega) | exact Hid.mk (by first | assumption | omega) | exact Hid.mk ⟨fun _ => by first | assumption | omega, fun _ => by first | assumption | omega⟩)) (ob_recv hK hm1.2.2.1.1 rfl) dL_law_1156 k1270 k1271 k1272 k6 k1273 hd_X3_loss rfl rfl ⟨by omega, by omega⟩ (Nat.le_of_ble_eq_true rfl) ⟨by (try dsimp only); omega, by (try dsimp only); omega⟩ hS (wa_b hm1.2.1 hzH1.2.1) (fun H5 locs hpH5 hszH5 hkH5 hS => ?_)
      obtain ⟨r1, q1, hm2, nr, nq⟩ := hpH5
      have hzH2 := hz0.at hAB hS
      have hL2 := lw_mod hLX hzH2 hu hcw ho1 hfr hfq hm2 nr nq hkH5
      refine lv_istore (lv' := [(6, .int (iI 0)), (5, .int (iI 2)), (4, .int (iI i)), (3, .ref o), (2, .ref (w 0)), (1, .ref (u 0)), (0, .ref b)]) hx hb dL_law_1159 hl (by decide) rfl (fun ls hl => ?_)
      refine lv_goto (tgt := 2331) hx hb dL_law_1161 (by decide) ?_
      exact kk _ _ _ _ _ ⟨_, _, _, _, _, _, _, _, _, _, hL2⟩ hS (by omega) (by omega) (lv_sub hl [2, 3, 4, 5, 6] rfl)
  · refine lv_aload_n hx hb dL_law_1124 rfl (lv_at hl 3 rfl) ?_
    refine lv_aload_n hx hb dL_law_1125 rfl (lv_at hl 4 rfl) ?_
    refine lv_iload hx hb dL_law_1126 (lv_at hl 0 rfl) ?_
    refine q_con hx hb dL_law_1128 ?_
    refine q_add hx hb dL_law_1129 ?_
    refine r_xld hx hb hX hbl hbA hS (i := i + 1) (z := x1) (by omega) hL ex1 dL_law_1130 ?_
    refine lv_aload_n hx hb dL_law_1131 rfl (lv_at hl 4 rfl) ?_
    refine lv_iload hx hb dL_law_1132 (lv_at hl 0 rfl) ?_
    refine q_con hx hb dL_law_1134 ?_
    refine q_add hx hb dL_law_1135 ?_
    refine r_xld hx hb hX hbl hbA hS (i := i + 2) (z := x2) (by omega) hL ex2 dL_law_1136 ?_
    refine lv_aload_n hx hb dL_law_1137 rfl (lv_at hl 1 rfl) ?_
    refine c_SWr (As := [.ref (u 0), .int (iI x1), .int (iI x2), .ref o]) (rest := []) (r := .int (iI 1)) fx hl (wn1_loss θ l hl0 S0 _ u dt (fun j => sv j 0) (fun j => sv j 1) (fun j => sv j 2) bc rf kn hcr hjH hn o nv sv9 ho hLX.1 x1 x2 (by first | assumption | omega | (dsimp only; first | assumption | omega) | exact Hid.mk (by first | assumption | omega) | exact Hid.mk ⟨fun _ => by first | assumption | omega, fun _ => by first | assumption | omega⟩) (by first | assumption | omega | (dsimp only; first | assumption | omega) | exact Hid.mk (by first | assumption | omega) | exact Hid.mk ⟨fun _ => by first | assumption | omega, fun _ => by first | assumption | omega⟩) (by first | assumption | omega | (dsimp only; first | assumption | omega) | exact Hid.mk (by first | assumption | omega) | exact Hid.mk ⟨fun _ => by first | assumption | omega, fun _ => by first | assumption | omega⟩)) dL_law_1138 k876 k877 k0 k878 hd_L_loss rfl ⟨by omega, by omega⟩ (Nat.le_of_ble_eq_true rfl) ⟨by (try dsimp only); omega, by (try dsimp only); omega⟩ hS (fun x h => h.elim (fun h => h.elim (fun ⟨j, hj, e⟩ => e ▸ hu.2 j hj) (fun h => Nat.le_trans hzH.2.1 h)) (fun e => e ▸ hoθ)) (fun H6 locs hpH6 hszH6 hkH6 hS => ?_)
    obtain ⟨hcw, ho1⟩ := hpH6
    have hzH1 := hz0.at hAB hS
    have hjH1 := hj0.at hAB hS
    have hm1 := lw_cls hLX hw hzH1 hkH6
    refine lv_istore (lv' := [(5, .int (iI 1)), (4, .int (iI i)), (3, .ref o), (2, .ref (w 0)), (1, .ref (u 0)), (0, .ref b)]) hx hb dL_law_1141 hl (by decide) rfl (fun ls hl => ?_)
    refine lv_aload_n hx hb dL_law_1143 rfl (lv_at hl 3 rfl) ?_
    refine lv_aload_n hx hb dL_law_1144 rfl (lv_at hl 5 rfl) ?_
    refine lv_iload hx hb dL_law_1145 (lv_at hl 1 rfl) ?_
    refine q_con hx hb dL_law_1147 ?_
    refine q_add hx hb dL_law_1148 ?_
    refine r_xld hx hb hX hbl hbA hS (i := i + 1) (z := x1) (by omega) hL ex1 dL_law_1149 ?_
    refine lv_aload_n hx hb dL_law_1150 rfl (lv_at hl 5 rfl) ?_
    refine lv_iload hx hb dL_law_1151 (lv_at hl 1 rfl) ?_
    refine q_con hx hb dL_law_1153 ?_
    refine q_add hx hb dL_law_1154 ?_
    refine r_xld hx hb hX hbl hbA hS (i := i + 2) (z := x2) (by omega) hL ex2 dL_law_1155 ?_
    refine c_Vr (As := [.int (iI x1), .int (iI x2)]) (rest := []) (b := w 0) (C := RX3) (r := some (.int (iI 0))) (st1 := [.int (iI 0)]) fx hl (mno1_loss θ l S0 _ w r q dt sv th bc rf kn hm1 x1 x2 (by first | assumption | omega | (dsimp only; first | assumption | omega) | exact Hid.mk (by first | assumption | omega) | exact Hid.mk ⟨fun _ => by first | assumption | omega, fun _ => by first | assumption | omega⟩) (by first | assumption | omega | (dsimp only; first | assumption | omega) | exact Hid.mk (by first | assumption | omega) | exact Hid.mk ⟨fun _ => by first | assumption | omega, fun _ => by first | assumption | omega⟩) (by first | assumption | omega | (dsimp only; first | assumption | omega) | exact Hid.mk (by first | assumption | omega) | exact Hid.mk ⟨fun _ => by first | assumption | omega, fun _ => by first | assumption | omega⟩)) (ob_recv hK hm1.2.2.1.1 rfl) dL_law_1156 k1270 k1271 k1272 k6 k1273 hd_X3_loss rfl rfl ⟨by omega, by omega⟩ (Nat.le_of_ble_eq_true rfl) ⟨by (try dsimp only); omega, by (try dsimp only); omega⟩ hS (wa_b hm1.2.1 hzH1.2.1) (fun H7 locs hpH7 hszH7 hkH7 hS => ?_)
    obtain ⟨r1, q1, hm2, nr, nq⟩ := hpH7
    have hzH2 := hz0.at hAB hS
    have hL2 := lw_mod hLX hzH2 hu hcw ho1 hfr hfq hm2 nr nq hkH7
    refine lv_istore (lv' := [(6, .int (iI 0)), (5, .int (iI 1)), (4, .int (iI i)), (3, .ref o), (2, .ref (w 0)), (1, .ref (u 0)), (0, .ref b)]) hx hb dL_law_1159 hl (by decide) rfl (fun ls hl => ?_)
    refine lv_goto (tgt := 2331) hx hb dL_law_1161 (by decide) ?_
    exact kk _ _ _ _ _ ⟨_, _, _, _, _, _, _, _, _, _, hL2⟩ hS (by omega) (by omega) (lv_sub hl [2, 3, 4, 5, 6] rfl)

set_option maxHeartbeats 4000000 in
set_option maxRecDepth 100000 in
theorem lc_leadsBack {p : Program} {l : Launch} {e : Env} {R : Room} {s : State} {m : MethodId} {args : Array Value} {below : List Frame} {meth : Method} {c : Code} {Q : State → Prop} {θ : TH} {S0 : State} (fx : FX p m c cL_law 7 s args yL_law.cls S0) (hl0 : l.stackTraces = false) (hz0 : SZ θ S0 s.heap) (hj0 : SJ θ S0 s.heap) (hn : NX S0) {u w : Nat → Nat} {o b L : Nat} {xs : Nat → Int32} (hLX : LX u w o) (hoθ : θ.2.2.2 ≤ o) (hX : va_X b L xs s s.heap) (hbl : b < s.heap.size) (hbA : ¬ AJ θ b) (hL : L ≤ 2560) (hRF : 1000 ≤ R.frames ∧ 1000 ≤ R.locals) {H : Heap} {locs : List Loc} {cells slots : Nat} {ls : Array Slot} {i : Int} (hi : 0 ≤ i ∧ i + 5 ≤ (L : Int)) (hw : LWE θ S0 u w o H) (hS : va_S (AJ θ) s.heap H locs) (hRc : cells + 400 ≤ R.cells ∧ slots + 7000 ≤ R.slots) (hl : lv_has ls 7 [(4, .int (iI i)), (3, .ref o), (2, .ref (w 0)), (1, .ref (u 0)), (0, .ref b)]) (kk : LK p l e R s m args below meth c Q θ S0 u w o b i cells slots 2331) : W p l e R s m args below meth c H locs cells slots Q (F0 m 1164 ls []) := by
  obtain ⟨hx, hb, hml, hown, hts⟩ := id fx.1
  have hAB : ∀ x : Nat, AJ θ x → θ.2.2.2 ≤ x := fun _ h => h
  obtain ⟨r, q, dt, sv, th, bc, rf, kn, nv, sv9, hw⟩ := hw
  obtain ⟨hcr, hmr, ho, hfr, hfq⟩ := id hw
  have hzH := hz0.at hAB hS
  have hjH := hj0.at hAB hS
  have hK := sz_K fx.2 hz0
  have hu := hcr.2.1
  obtain ⟨x1, ex1⟩ : ∃ z : Int, z = (xs (i + 1).toNat).toInt := ⟨_, rfl⟩
  have bx1 := x32_b ex1
  obtain ⟨x2, ex2⟩ : ∃ z : Int, z = (xs (i + 2).toNat).toInt := ⟨_, rfl⟩
  have bx2 := x32_b ex2
  by_cases hc1 : 0 ≤ x1 ∧ x1 < 6
  · by_cases hc2 : -240000 ≤ x2 ∧ x2 ≤ 240000
    · obtain ⟨r9, hr9⟩ := bex (shI (shI (dt x1.toNat) x2) (-x2) = dt x1.toNat)
      refine lv_aload_n hx hb dL_law_1164 rfl (lv_at hl 3 rfl) ?_
      refine lv_aload_n hx hb dL_law_1165 rfl (lv_at hl 4 rfl) ?_
      refine lv_iload hx hb dL_law_1166 (lv_at hl 0 rfl) ?_
      refine q_con hx hb dL_law_1168 ?_
      refine q_add hx hb dL_law_1169 ?_
      refine r_xld hx hb hX hbl hbA hS (i := i + 1) (z := x1) (by omega) hL ex1 dL_law_1170 ?_
      refine lv_aload_n hx hb dL_law_1171 rfl (lv_at hl 4 rfl) ?_
      refine lv_iload hx hb dL_law_1172 (lv_at hl 0 rfl) ?_
      refine q_con hx hb dL_law_1174 ?_
      refine q_add hx hb dL_law_1175 ?_
      refine r_xld hx hb hX hbl hbA hS (i := i + 2) (z := x2) (by omega) hL ex2 dL_law_1176 ?_
      refine lv_aload_n hx hb dL_law_1177 rfl (lv_at hl 1 rfl) ?_
      refine c_SWr (As := [.ref (u 0), .int (iI x1), .int (iI x2), .ref o]) (rest := []) (r := .int (iI 0)) fx hl (wr_leadsBack θ l hl0 S0 _ u dt (fun j => sv j 0) (fun j => sv j 1) (fun j => sv j 2) bc rf kn hcr hjH hn o nv sv9 ho hLX.1 x1 x2 r9 hr9 (by first | assumption | omega | (dsimp only; first | assumption | omega) | exact Hid.mk (by first | assumption | omega) | exact Hid.mk ⟨fun _ => by first | assumption | omega, fun _ => by first | assumption | omega⟩) (by first | assumption | omega | (dsimp only; first | assumption | omega) | exact Hid.mk (by first | assumption | omega) | exact Hid.mk ⟨fun _ => by first | assumption | omega, fun _ => by first | assumption | omega⟩) (by first | assumption | omega | (dsimp only; first | assumption | omega) | exact Hid.mk (by first | assumption | omega) | exact Hid.mk ⟨fun _ => by first | assumption | omega, fun _ => by first | assumption | omega⟩) (by first | assumption | omega | (dsimp only; first | assumption | omega) | exact Hid.mk (by first | assumption | omega) | exact Hid.mk ⟨fun _ => by first | assumption | omega, fun _ => by first | assumption | omega⟩)) dL_law_1178 k880 k881 k0 k882 hd_L_leadsBack rfl ⟨by omega, by omega⟩ (Nat.le_of_ble_eq_true rfl) ⟨by (try dsimp only); omega, by (try dsimp only); omega⟩ hS (fun x h => h.elim (fun h => h.elim (fun ⟨j, hj, e⟩ => e ▸ hu.2 j hj) (fun h => Nat.le_trans hzH.2.1 h)) (fun e => e ▸ hoθ)) (fun H1 locs hpH1 hszH1 hkH1 hS => ?_)
      obtain ⟨hcw, ho1⟩ := hpH1
      have hzH1 := hz0.at hAB hS
      have hjH1 := hj0.at hAB hS
      have hm1 := lw_cls hLX hw hzH1 hkH1
      refine lv_istore (lv' := [(5, .int (iI 0)), (4, .int (iI i)), (3, .ref o), (2, .ref (w 0)), (1, .ref (u 0)), (0, .ref b)]) hx hb dL_law_1181 hl (by decide) rfl (fun ls hl => ?_)
      refine lv_aload_n hx hb dL_law_1183 rfl (lv_at hl 3 rfl) ?_
      refine lv_aload_n hx hb dL_law_1184 rfl (lv_at hl 5 rfl) ?_
      refine lv_iload hx hb dL_law_1185 (lv_at hl 1 rfl) ?_
      refine q_con hx hb dL_law_1187 ?_
      refine q_add hx hb dL_law_1188 ?_
      refine r_xld hx hb hX hbl hbA hS (i := i + 1) (z := x1) (by omega) hL ex1 dL_law_1189 ?_
      refine lv_aload_n hx hb dL_law_1190 rfl (lv_at hl 5 rfl) ?_
      refine lv_iload hx hb dL_law_1191 (lv_at hl 1 rfl) ?_
      refine q_con hx hb dL_law_1193 ?_
      refine q_add hx hb dL_law_1194 ?_
      refine r_xld hx hb hX hbl hbA hS (i := i + 2) (z := x2) (by omega) hL ex2 dL_law_1195 ?_
      refine c_Vr (As := [.int (iI x1), .int (iI x2)]) (rest := []) (b := w 0) (C := RX3) (r := some (.int (iI r9))) (st1 := [.int (iI r9)]) fx hl (mok_leadsBack θ l S0 _ w r q dt sv th bc rf kn hm1 x1 x2 r9 hr9 (by first | assumption | omega | (dsimp only; first | assumption | omega) | exact Hid.mk (by first | assumption | omega) | exact Hid.mk ⟨fun _ => by first | assumption | omega, fun _ => by first | assumption | omega⟩) (by first | assumption | omega | (dsimp only; first | assumption | omega) | exact Hid.mk (by first | assumption | omega) | exact Hid.mk ⟨fun _ => by first | assumption | omega, fun _ => by first | assumption | omega⟩) (by first | assumption | omega | (dsimp only; first | assumption | omega) | exact Hid.mk (by first | assumption | omega) | exact Hid.mk ⟨fun _ => by first | assumption | omega, fun _ => by first | assumption | omega⟩) (by first | assumption | omega | (dsimp only; first | assumption | omega) | exact Hid.mk (by first | assumption | omega) | exact Hid.mk ⟨fun _ => by first | assumption | omega, fun _ => by first | assumption | omega⟩)) (ob_recv hK hm1.2.2.1.1 rfl) dL_law_1196 k1274 k1275 k1276 k6 k1277 hd_X3_leadsBack rfl rfl ⟨by omega, by omega⟩ (Nat.le_of_ble_eq_true rfl) ⟨by (try dsimp only); omega, by (try dsimp only); omega⟩ hS (wa_b hm1.2.1 hzH1.2.1) (fun H2 locs hpH2 hszH2 hkH2 hS => ?_)
      obtain ⟨r1, q1, hm2, nr, nq⟩ := hpH2
      have hzH2 := hz0.at hAB hS
      have hL2 := lw_mod hLX hzH2 hu hcw ho1 hfr hfq hm2 nr nq hkH2
      refine lv_istore (lv' := [(6, .int (iI r9)), (5, .int (iI 0)), (4, .int (iI i)), (3, .ref o), (2, .ref (w 0)), (1, .ref (u 0)), (0, .ref b)]) hx hb dL_law_1199 hl (by decide) rfl (fun ls hl => ?_)
      refine lv_goto (tgt := 2331) hx hb dL_law_1201 (by decide) ?_
      exact kk _ _ _ _ _ ⟨_, _, _, _, _, _, _, _, _, _, hL2⟩ hS (by omega) (by omega) (lv_sub hl [2, 3, 4, 5, 6] rfl)
    · refine lv_aload_n hx hb dL_law_1164 rfl (lv_at hl 3 rfl) ?_
      refine lv_aload_n hx hb dL_law_1165 rfl (lv_at hl 4 rfl) ?_
      refine lv_iload hx hb dL_law_1166 (lv_at hl 0 rfl) ?_
      refine q_con hx hb dL_law_1168 ?_
      refine q_add hx hb dL_law_1169 ?_
      refine r_xld hx hb hX hbl hbA hS (i := i + 1) (z := x1) (by omega) hL ex1 dL_law_1170 ?_
      refine lv_aload_n hx hb dL_law_1171 rfl (lv_at hl 4 rfl) ?_
      refine lv_iload hx hb dL_law_1172 (lv_at hl 0 rfl) ?_
      refine q_con hx hb dL_law_1174 ?_
      refine q_add hx hb dL_law_1175 ?_
      refine r_xld hx hb hX hbl hbA hS (i := i + 2) (z := x2) (by omega) hL ex2 dL_law_1176 ?_
      refine lv_aload_n hx hb dL_law_1177 rfl (lv_at hl 1 rfl) ?_
      refine c_SWr (As := [.ref (u 0), .int (iI x1), .int (iI x2), .ref o]) (rest := []) (r := .int (iI 2)) fx hl (wn2_leadsBack θ l hl0 S0 _ u dt (fun j => sv j 0) (fun j => sv j 1) (fun j => sv j 2) bc rf kn hcr hjH hn o nv sv9 ho hLX.1 x1 x2 (by first | assumption | omega | (dsimp only; first | assumption | omega) | exact Hid.mk (by first | assumption | omega) | exact Hid.mk ⟨fun _ => by first | assumption | omega, fun _ => by first | assumption | omega⟩) (by first | assumption | omega | (dsimp only; first | assumption | omega) | exact Hid.mk (by first | assumption | omega) | exact Hid.mk ⟨fun _ => by first | assumption | omega, fun _ => by first | assumption | omega⟩) (by first | assumption | omega | (dsimp only; first | assumption | omega) | exact Hid.mk (by first | assumption | omega) | exact Hid.mk ⟨fun _ => by first | assumption | omega, fun _ => by first | assumption | omega⟩) (by first | assumption | omega | (dsimp only; first | assumption | omega) | exact Hid.mk (by first | assumption | omega) | exact Hid.mk ⟨fun _ => by first | assumption | omega, fun _ => by first | assumption | omega⟩)) dL_law_1178 k880 k881 k0 k882 hd_L_leadsBack rfl ⟨by omega, by omega⟩ (Nat.le_of_ble_eq_true rfl) ⟨by (try dsimp only); omega, by (try dsimp only); omega⟩ hS (fun x h => h.elim (fun h => h.elim (fun ⟨j, hj, e⟩ => e ▸ hu.2 j hj) (fun h => Nat.le_trans hzH.2.1 h)) (fun e => e ▸ hoθ)) (fun H3 locs hpH3 hszH3 hkH3 hS => ?_)
      obtain ⟨hcw, ho1⟩ := hpH3
      have hzH1 := hz0.at hAB hS
      have hjH1 := hj0.at hAB hS
      have hm1 := lw_cls hLX hw hzH1 hkH3
      refine lv_istore (lv' := [(5, .int (iI 2)), (4, .int (iI i)), (3, .ref o), (2, .ref (w 0)), (1, .ref (u 0)), (0, .ref b)]) hx hb dL_law_1181 hl (by decide) rfl (fun ls hl => ?_)
      refine lv_aload_n hx hb dL_law_1183 rfl (lv_at hl 3 rfl) ?_
      refine lv_aload_n hx hb dL_law_1184 rfl (lv_at hl 5 rfl) ?_
      refine lv_iload hx hb dL_law_1185 (lv_at hl 1 rfl) ?_
      refine q_con hx hb dL_law_1187 ?_
      refine q_add hx hb dL_law_1188 ?_
      refine r_xld hx hb hX hbl hbA hS (i := i + 1) (z := x1) (by omega) hL ex1 dL_law_1189 ?_
      refine lv_aload_n hx hb dL_law_1190 rfl (lv_at hl 5 rfl) ?_
      refine lv_iload hx hb dL_law_1191 (lv_at hl 1 rfl) ?_
      refine q_con hx hb dL_law_1193 ?_
      refine q_add hx hb dL_law_1194 ?_
      refine r_xld hx hb hX hbl hbA hS (i := i + 2) (z := x2) (by omega) hL ex2 dL_law_1195 ?_
      refine c_Vr (As := [.int (iI x1), .int (iI x2)]) (rest := []) (b := w 0) (C := RX3) (r := some (.int (iI 0))) (st1 := [.int (iI 0)]) fx hl (mno2_leadsBack θ l S0 _ w r q dt sv th bc rf kn hm1 x1 x2 (by first | assumption | omega | (dsimp only; first | assumption | omega) | exact Hid.mk (by first | assumption | omega) | exact Hid.mk ⟨fun _ => by first | assumption | omega, fun _ => by first | assumption | omega⟩) (by first | assumption | omega | (dsimp only; first | assumption | omega) | exact Hid.mk (by first | assumption | omega) | exact Hid.mk ⟨fun _ => by first | assumption | omega, fun _ => by first | assumption | omega⟩) (by first | assumption | omega | (dsimp only; first | assumption | omega) | exact Hid.mk (by first | assumption | omega) | exact Hid.mk ⟨fun _ => by first | assumption | omega, fun _ => by first | assumption | omega⟩) (by first | assumption | omega | (dsimp only; first | assumption | omega) | exact Hid.mk (by first | assumption | omega) | exact Hid.mk ⟨fun _ => by first | assumption | omega, fun _ => by first | assumption | omega⟩)) (ob_recv hK hm1.2.2.1.1 rfl) dL_law_1196 k1274 k1275 k1276 k6 k1277 hd_X3_leadsBack rfl rfl ⟨by omega, by omega⟩ (Nat.le_of_ble_eq_true rfl) ⟨by (try dsimp only); omega, by (try dsimp only); omega⟩ hS (wa_b hm1.2.1 hzH1.2.1) (fun H4 locs hpH4 hszH4 hkH4 hS => ?_)
      obtain ⟨r1, q1, hm2, nr, nq⟩ := hpH4
      have hzH2 := hz0.at hAB hS
      have hL2 := lw_mod hLX hzH2 hu hcw ho1 hfr hfq hm2 nr nq hkH4
      refine lv_istore (lv' := [(6, .int (iI 0)), (5, .int (iI 2)), (4, .int (iI i)), (3, .ref o), (2, .ref (w 0)), (1, .ref (u 0)), (0, .ref b)]) hx hb dL_law_1199 hl (by decide) rfl (fun ls hl => ?_)
      refine lv_goto (tgt := 2331) hx hb dL_law_1201 (by decide) ?_
      exact kk _ _ _ _ _ ⟨_, _, _, _, _, _, _, _, _, _, hL2⟩ hS (by omega) (by omega) (lv_sub hl [2, 3, 4, 5, 6] rfl)
  · refine lv_aload_n hx hb dL_law_1164 rfl (lv_at hl 3 rfl) ?_
    refine lv_aload_n hx hb dL_law_1165 rfl (lv_at hl 4 rfl) ?_
    refine lv_iload hx hb dL_law_1166 (lv_at hl 0 rfl) ?_
    refine q_con hx hb dL_law_1168 ?_
    refine q_add hx hb dL_law_1169 ?_
    refine r_xld hx hb hX hbl hbA hS (i := i + 1) (z := x1) (by omega) hL ex1 dL_law_1170 ?_
    refine lv_aload_n hx hb dL_law_1171 rfl (lv_at hl 4 rfl) ?_
    refine lv_iload hx hb dL_law_1172 (lv_at hl 0 rfl) ?_
    refine q_con hx hb dL_law_1174 ?_
    refine q_add hx hb dL_law_1175 ?_
    refine r_xld hx hb hX hbl hbA hS (i := i + 2) (z := x2) (by omega) hL ex2 dL_law_1176 ?_
    refine lv_aload_n hx hb dL_law_1177 rfl (lv_at hl 1 rfl) ?_
    refine c_SWr (As := [.ref (u 0), .int (iI x1), .int (iI x2), .ref o]) (rest := []) (r := .int (iI 1)) fx hl (wn1_leadsBack θ l hl0 S0 _ u dt (fun j => sv j 0) (fun j => sv j 1) (fun j => sv j 2) bc rf kn hcr hjH hn o nv sv9 ho hLX.1 x1 x2 (by first | assumption | omega | (dsimp only; first | assumption | omega) | exact Hid.mk (by first | assumption | omega) | exact Hid.mk ⟨fun _ => by first | assumption | omega, fun _ => by first | assumption | omega⟩) (by first | assumption | omega | (dsimp only; first | assumption | omega) | exact Hid.mk (by first | assumption | omega) | exact Hid.mk ⟨fun _ => by first | assumption | omega, fun _ => by first | assumption | omega⟩) (by first | assumption | omega | (dsimp only; first | assumption | omega) | exact Hid.mk (by first | assumption | omega) | exact Hid.mk ⟨fun _ => by first | assumption | omega, fun _ => by first | assumption | omega⟩)) dL_law_1178 k880 k881 k0 k882 hd_L_leadsBack rfl ⟨by omega, by omega⟩ (Nat.le_of_ble_eq_true rfl) ⟨by (try dsimp only); omega, by (try dsimp only); omega⟩ hS (fun x h => h.elim (fun h => h.elim (fun ⟨j, hj, e⟩ => e ▸ hu.2 j hj) (fun h => Nat.le_trans hzH.2.1 h)) (fun e => e ▸ hoθ)) (fun H5 locs hpH5 hszH5 hkH5 hS => ?_)
    obtain ⟨hcw, ho1⟩ := hpH5
    have hzH1 := hz0.at hAB hS
    have hjH1 := hj0.at hAB hS
    have hm1 := lw_cls hLX hw hzH1 hkH5
    refine lv_istore (lv' := [(5, .int (iI 1)), (4, .int (iI i)), (3, .ref o), (2, .ref (w 0)), (1, .ref (u 0)), (0, .ref b)]) hx hb dL_law_1181 hl (by decide) rfl (fun ls hl => ?_)
    refine lv_aload_n hx hb dL_law_1183 rfl (lv_at hl 3 rfl) ?_
    refine lv_aload_n hx hb dL_law_1184 rfl (lv_at hl 5 rfl) ?_
    refine lv_iload hx hb dL_law_1185 (lv_at hl 1 rfl) ?_
    refine q_con hx hb dL_law_1187 ?_
    refine q_add hx hb dL_law_1188 ?_
    refine r_xld hx hb hX hbl hbA hS (i := i + 1) (z := x1) (by omega) hL ex1 dL_law_1189 ?_
    refine lv_aload_n hx hb dL_law_1190 rfl (lv_at hl 5 rfl) ?_
    refine lv_iload hx hb dL_law_1191 (lv_at hl 1 rfl) ?_
    refine q_con hx hb dL_law_1193 ?_
    refine q_add hx hb dL_law_1194 ?_
    refine r_xld hx hb hX hbl hbA hS (i := i + 2) (z := x2) (by omega) hL ex2 dL_law_1195 ?_
    refine c_Vr (As := [.int (iI x1), .int (iI x2)]) (rest := []) (b := w 0) (C := RX3) (r := some (.int (iI 0))) (st1 := [.int (iI 0)]) fx hl (mno1_leadsBack θ l S0 _ w r q dt sv th bc rf kn hm1 x1 x2 (by first | assumption | omega | (dsimp only; first | assumption | omega) | exact Hid.mk (by first | assumption | omega) | exact Hid.mk ⟨fun _ => by first | assumption | omega, fun _ => by first | assumption | omega⟩) (by first | assumption | omega | (dsimp only; first | assumption | omega) | exact Hid.mk (by first | assumption | omega) | exact Hid.mk ⟨fun _ => by first | assumption | omega, fun _ => by first | assumption | omega⟩) (by first | assumption | omega | (dsimp only; first | assumption | omega) | exact Hid.mk (by first | assumption | omega) | exact Hid.mk ⟨fun _ => by first | assumption | omega, fun _ => by first | assumption | omega⟩)) (ob_recv hK hm1.2.2.1.1 rfl) dL_law_1196 k1274 k1275 k1276 k6 k1277 hd_X3_leadsBack rfl rfl ⟨by omega, by omega⟩ (Nat.le_of_ble_eq_true rfl) ⟨by (try dsimp only); omega, by (try dsimp only); omega⟩ hS (wa_b hm1.2.1 hzH1.2.1) (fun H6 locs hpH6 hszH6 hkH6 hS => ?_)
    obtain ⟨r1, q1, hm2, nr, nq⟩ := hpH6
    have hzH2 := hz0.at hAB hS
    have hL2 := lw_mod hLX hzH2 hu hcw ho1 hfr hfq hm2 nr nq hkH6
    refine lv_istore (lv' := [(6, .int (iI 0)), (5, .int (iI 1)), (4, .int (iI i)), (3, .ref o), (2, .ref (w 0)), (1, .ref (u 0)), (0, .ref b)]) hx hb dL_law_1199 hl (by decide) rfl (fun ls hl => ?_)
    refine lv_goto (tgt := 2331) hx hb dL_law_1201 (by decide) ?_
    exact kk _ _ _ _ _ ⟨_, _, _, _, _, _, _, _, _, _, hL2⟩ hS (by omega) (by omega) (lv_sub hl [2, 3, 4, 5, 6] rfl)

set_option maxHeartbeats 4000000 in
set_option maxRecDepth 100000 in
theorem lc_twice {p : Program} {l : Launch} {e : Env} {R : Room} {s : State} {m : MethodId} {args : Array Value} {below : List Frame} {meth : Method} {c : Code} {Q : State → Prop} {θ : TH} {S0 : State} (fx : FX p m c cL_law 7 s args yL_law.cls S0) (hl0 : l.stackTraces = false) (hz0 : SZ θ S0 s.heap) (hj0 : SJ θ S0 s.heap) (hn : NX S0) {u w : Nat → Nat} {o b L : Nat} {xs : Nat → Int32} (hLX : LX u w o) (hoθ : θ.2.2.2 ≤ o) (hX : va_X b L xs s s.heap) (hbl : b < s.heap.size) (hbA : ¬ AJ θ b) (hL : L ≤ 2560) (hRF : 1000 ≤ R.frames ∧ 1000 ≤ R.locals) {H : Heap} {locs : List Loc} {cells slots : Nat} {ls : Array Slot} {i : Int} (hi : 0 ≤ i ∧ i + 5 ≤ (L : Int)) (hw : LWE θ S0 u w o H) (hS : va_S (AJ θ) s.heap H locs) (hRc : cells + 400 ≤ R.cells ∧ slots + 7000 ≤ R.slots) (hl : lv_has ls 7 [(4, .int (iI i)), (3, .ref o), (2, .ref (w 0)), (1, .ref (u 0)), (0, .ref b)]) (kk : LK p l e R s m args below meth c Q θ S0 u w o b i cells slots 2331) : W p l e R s m args below meth c H locs cells slots Q (F0 m 1204 ls []) := by
  obtain ⟨hx, hb, hml, hown, hts⟩ := id fx.1
  have hAB : ∀ x : Nat, AJ θ x → θ.2.2.2 ≤ x := fun _ h => h
  obtain ⟨r, q, dt, sv, th, bc, rf, kn, nv, sv9, hw⟩ := hw
  obtain ⟨hcr, hmr, ho, hfr, hfq⟩ := id hw
  have hzH := hz0.at hAB hS
  have hjH := hj0.at hAB hS
  have hK := sz_K fx.2 hz0
  have hu := hcr.2.1
  obtain ⟨x1, ex1⟩ : ∃ z : Int, z = (xs (i + 1).toNat).toInt := ⟨_, rfl⟩
  have bx1 := x32_b ex1
  obtain ⟨x2, ex2⟩ : ∃ z : Int, z = (xs (i + 2).toNat).toInt := ⟨_, rfl⟩
  have bx2 := x32_b ex2
  obtain ⟨x3, ex3⟩ : ∃ z : Int, z = (xs (i + 3).toNat).toInt := ⟨_, rfl⟩
  have bx3 := x32_b ex3
  by_cases hc1 : 0 ≤ x1 ∧ x1 < 6
  · by_cases hc2 : -240000 ≤ x2 ∧ x2 ≤ 240000
    · by_cases hc3 : -240000 ≤ x3 ∧ x3 ≤ 240000
      · refine lv_aload_n hx hb dL_law_1204 rfl (lv_at hl 3 rfl) ?_
        refine lv_aload_n hx hb dL_law_1205 rfl (lv_at hl 4 rfl) ?_
        refine lv_iload hx hb dL_law_1206 (lv_at hl 0 rfl) ?_
        refine q_con hx hb dL_law_1208 ?_
        refine q_add hx hb dL_law_1209 ?_
        refine r_xld hx hb hX hbl hbA hS (i := i + 1) (z := x1) (by omega) hL ex1 dL_law_1210 ?_
        refine lv_aload_n hx hb dL_law_1211 rfl (lv_at hl 4 rfl) ?_
        refine lv_iload hx hb dL_law_1212 (lv_at hl 0 rfl) ?_
        refine q_con hx hb dL_law_1214 ?_
        refine q_add hx hb dL_law_1215 ?_
        refine r_xld hx hb hX hbl hbA hS (i := i + 2) (z := x2) (by omega) hL ex2 dL_law_1216 ?_
        refine lv_aload_n hx hb dL_law_1217 rfl (lv_at hl 4 rfl) ?_
        refine lv_iload hx hb dL_law_1218 (lv_at hl 0 rfl) ?_
        refine q_con hx hb dL_law_1220 ?_
        refine q_add hx hb dL_law_1221 ?_
        refine r_xld hx hb hX hbl hbA hS (i := i + 3) (z := x3) (by omega) hL ex3 dL_law_1222 ?_
        refine lv_aload_n hx hb dL_law_1223 rfl (lv_at hl 1 rfl) ?_
        refine c_SWr (As := [.ref (u 0), .int (iI x1), .int (iI x2), .int (iI x3), .ref o]) (rest := []) (r := .int (iI 0)) fx hl (wr_twice θ l hl0 S0 _ u dt (fun j => sv j 0) (fun j => sv j 1) (fun j => sv j 2) bc rf kn hcr hjH hn o nv sv9 ho hLX.1 x1 x2 x3 (by first | assumption | omega | (dsimp only; first | assumption | omega) | exact Hid.mk (by first | assumption | omega) | exact Hid.mk ⟨fun _ => by first | assumption | omega, fun _ => by first | assumption | omega⟩) (by first | assumption | omega | (dsimp only; first | assumption | omega) | exact Hid.mk (by first | assumption | omega) | exact Hid.mk ⟨fun _ => by first | assumption | omega, fun _ => by first | assumption | omega⟩) (by first | assumption | omega | (dsimp only; first | assumption | omega) | exact Hid.mk (by first | assumption | omega) | exact Hid.mk ⟨fun _ => by first | assumption | omega, fun _ => by first | assumption | omega⟩) (by first | assumption | omega | (dsimp only; first | assumption | omega) | exact Hid.mk (by first | assumption | omega) | exact Hid.mk ⟨fun _ => by first | assumption | omega, fun _ => by first | assumption | omega⟩) (by first | assumption | omega | (dsimp only; first | assumption | omega) | exact Hid.mk (by first | assumption | omega) | exact Hid.mk ⟨fun _ => by first | assumption | omega, fun _ => by first | assumption | omega⟩) (by first | assumption | omega | (dsimp only; first | assumption | omega) | exact Hid.mk (by first | assumption | omega) | exact Hid.mk ⟨fun _ => by first | assumption | omega, fun _ => by first | assumption | omega⟩)) dL_law_1224 k888 k889 k0 k890 hd_L_twice rfl ⟨by omega, by omega⟩ (Nat.le_of_ble_eq_true rfl) ⟨by (try dsimp only); omega, by (try dsimp only); omega⟩ hS (fun x h => h.elim (fun h => h.elim (fun ⟨j, hj, e⟩ => e ▸ hu.2 j hj) (fun h => Nat.le_trans hzH.2.1 h)) (fun e => e ▸ hoθ)) (fun H1 locs hpH1 hszH1 hkH1 hS => ?_)
        obtain ⟨hcw, ho1⟩ := hpH1
        have hzH1 := hz0.at hAB hS
        have hjH1 := hj0.at hAB hS
        have hm1 := lw_cls hLX hw hzH1 hkH1
        refine lv_istore (lv' := [(5, .int (iI 0)), (4, .int (iI i)), (3, .ref o), (2, .ref (w 0)), (1, .ref (u 0)), (0, .ref b)]) hx hb dL_law_1227 hl (by decide) rfl (fun ls hl => ?_)
        refine lv_aload_n hx hb dL_law_1229 rfl (lv_at hl 3 rfl) ?_
        refine lv_aload_n hx hb dL_law_1230 rfl (lv_at hl 5 rfl) ?_
        refine lv_iload hx hb dL_law_1231 (lv_at hl 1 rfl) ?_
        refine q_con hx hb dL_law_1233 ?_
        refine q_add hx hb dL_law_1234 ?_
        refine r_xld hx hb hX hbl hbA hS (i := i + 1) (z := x1) (by omega) hL ex1 dL_law_1235 ?_
        refine lv_aload_n hx hb dL_law_1236 rfl (lv_at hl 5 rfl) ?_
        refine lv_iload hx hb dL_law_1237 (lv_at hl 1 rfl) ?_
        refine q_con hx hb dL_law_1239 ?_
        refine q_add hx hb dL_law_1240 ?_
        refine r_xld hx hb hX hbl hbA hS (i := i + 2) (z := x2) (by omega) hL ex2 dL_law_1241 ?_
        refine lv_aload_n hx hb dL_law_1242 rfl (lv_at hl 5 rfl) ?_
        refine lv_iload hx hb dL_law_1243 (lv_at hl 1 rfl) ?_
        refine q_con hx hb dL_law_1245 ?_
        refine q_add hx hb dL_law_1246 ?_
        refine r_xld hx hb hX hbl hbA hS (i := i + 3) (z := x3) (by omega) hL ex3 dL_law_1247 ?_
        refine c_Vr (As := [.int (iI x1), .int (iI x2), .int (iI x3)]) (rest := []) (b := w 0) (C := RX3) (r := some (.int (iI (shI (dt x1.toNat) (x2 + x3) - shI (shI (dt x1.toNat) x2) x3)))) (st1 := [.int (iI (shI (dt x1.toNat) (x2 + x3) - shI (shI (dt x1.toNat) x2) x3))]) fx hl (mok_twice θ l S0 _ w r q dt sv th bc rf kn hm1 x1 x2 x3 (by first | assumption | omega | (dsimp only; first | assumption | omega) | exact Hid.mk (by first | assumption | omega) | exact Hid.mk ⟨fun _ => by first | assumption | omega, fun _ => by first | assumption | omega⟩) (by first | assumption | omega | (dsimp only; first | assumption | omega) | exact Hid.mk (by first | assumption | omega) | exact Hid.mk ⟨fun _ => by first | assumption | omega, fun _ => by first | assumption | omega⟩) (by first | assumption | omega | (dsimp only; first | assumption | omega) | exact Hid.mk (by first | assumption | omega) | exact Hid.mk ⟨fun _ => by first | assumption | omega, fun _ => by first | assumption | omega⟩) (by first | assumption | omega | (dsimp only; first | assumption | omega) | exact Hid.mk (by first | assumption | omega) | exact Hid.mk ⟨fun _ => by first | assumption | omega, fun _ => by first | assumption | omega⟩) (by first | assumption | omega | (dsimp only; first | assumption | omega) | exact Hid.mk (by first | assumption | omega) | exact Hid.mk ⟨fun _ => by first | assumption | omega, fun _ => by first | assumption | omega⟩) (by first | assumption | omega | (dsimp only; first | assumption | omega) | exact Hid.mk (by first | assumption | omega) | exact Hid.mk ⟨fun _ => by first | assumption | omega, fun _ => by first | assumption | omega⟩)) (ob_recv hK hm1.2.2.1.1 rfl) dL_law_1248 k1278 k1279 k1280 k6 k1281 hd_X3_twice rfl rfl ⟨by omega, by omega⟩ (Nat.le_of_ble_eq_true rfl) ⟨by (try dsimp only); omega, by (try dsimp only); omega⟩ hS (wa_b hm1.2.1 hzH1.2.1) (fun H2 locs hpH2 hszH2 hkH2 hS => ?_)
        obtain ⟨r1, q1, hm2, nr, nq⟩ := hpH2
        have hzH2 := hz0.at hAB hS
        have hL2 := lw_mod hLX hzH2 hu hcw ho1 hfr hfq hm2 nr nq hkH2
        refine q_nm (fun z3 ez3 => ?_)
        refine lv_istore (lv' := [(6, .int (iI z3)), (5, .int (iI 0)), (4, .int (iI i)), (3, .ref o), (2, .ref (w 0)), (1, .ref (u 0)), (0, .ref b)]) hx hb dL_law_1251 hl (by decide) rfl (fun ls hl => ?_)
        refine lv_goto (tgt := 2331) hx hb dL_law_1253 (by decide) ?_
        exact kk _ _ _ _ _ ⟨_, _, _, _, _, _, _, _, _, _, hL2⟩ hS (by omega) (by omega) (lv_sub hl [2, 3, 4, 5, 6] rfl)
      · refine lv_aload_n hx hb dL_law_1204 rfl (lv_at hl 3 rfl) ?_
        refine lv_aload_n hx hb dL_law_1205 rfl (lv_at hl 4 rfl) ?_
        refine lv_iload hx hb dL_law_1206 (lv_at hl 0 rfl) ?_
        refine q_con hx hb dL_law_1208 ?_
        refine q_add hx hb dL_law_1209 ?_
        refine r_xld hx hb hX hbl hbA hS (i := i + 1) (z := x1) (by omega) hL ex1 dL_law_1210 ?_
        refine lv_aload_n hx hb dL_law_1211 rfl (lv_at hl 4 rfl) ?_
        refine lv_iload hx hb dL_law_1212 (lv_at hl 0 rfl) ?_
        refine q_con hx hb dL_law_1214 ?_
        refine q_add hx hb dL_law_1215 ?_
        refine r_xld hx hb hX hbl hbA hS (i := i + 2) (z := x2) (by omega) hL ex2 dL_law_1216 ?_
        refine lv_aload_n hx hb dL_law_1217 rfl (lv_at hl 4 rfl) ?_
        refine lv_iload hx hb dL_law_1218 (lv_at hl 0 rfl) ?_
        refine q_con hx hb dL_law_1220 ?_
        refine q_add hx hb dL_law_1221 ?_
        refine r_xld hx hb hX hbl hbA hS (i := i + 3) (z := x3) (by omega) hL ex3 dL_law_1222 ?_
        refine lv_aload_n hx hb dL_law_1223 rfl (lv_at hl 1 rfl) ?_
        refine c_SWr (As := [.ref (u 0), .int (iI x1), .int (iI x2), .int (iI x3), .ref o]) (rest := []) (r := .int (iI 2)) fx hl (wn3_twice θ l hl0 S0 _ u dt (fun j => sv j 0) (fun j => sv j 1) (fun j => sv j 2) bc rf kn hcr hjH hn o nv sv9 ho hLX.1 x1 x2 x3 (by first | assumption | omega | (dsimp only; first | assumption | omega) | exact Hid.mk (by first | assumption | omega) | exact Hid.mk ⟨fun _ => by first | assumption | omega, fun _ => by first | assumption | omega⟩) (by first | assumption | omega | (dsimp only; first | assumption | omega) | exact Hid.mk (by first | assumption | omega) | exact Hid.mk ⟨fun _ => by first | assumption | omega, fun _ => by first | assumption | omega⟩) (by first | assumption | omega | (dsimp only; first | assumption | omega) | exact Hid.mk (by first | assumption | omega) | exact Hid.mk ⟨fun _ => by first | assumption | omega, fun _ => by first | assumption | omega⟩) (by first | assumption | omega | (dsimp only; first | assumption | omega) | exact Hid.mk (by first | assumption | omega) | exact Hid.mk ⟨fun _ => by first | assumption | omega, fun _ => by first | assumption | omega⟩) (by first | assumption | omega | (dsimp only; first | assumption | omega) | exact Hid.mk (by first | assumption | omega) | exact Hid.mk ⟨fun _ => by first | assumption | omega, fun _ => by first | assumption | omega⟩) (by first | assumption | omega | (dsimp only; first | assumption | omega) | exact Hid.mk (by first | assumption | omega) | exact Hid.mk ⟨fun _ => by first | assumption | omega, fun _ => by first | assumption | omega⟩)) dL_law_1224 k888 k889 k0 k890 hd_L_twice rfl ⟨by omega, by omega⟩ (Nat.le_of_ble_eq_true rfl) ⟨by (try dsimp only); omega, by (try dsimp only); omega⟩ hS (fun x h => h.elim (fun h => h.elim (fun ⟨j, hj, e⟩ => e ▸ hu.2 j hj) (fun h => Nat.le_trans hzH.2.1 h)) (fun e => e ▸ hoθ)) (fun H4 locs hpH4 hszH4 hkH4 hS => ?_)
        obtain ⟨hcw, ho1⟩ := hpH4
        have hzH1 := hz0.at hAB hS
        have hjH1 := hj0.at hAB hS
        have hm1 := lw_cls hLX hw hzH1 hkH4
        refine lv_istore (lv' := [(5, .int (iI 2)), (4, .int (iI i)), (3, .ref o), (2, .ref (w 0)), (1, .ref (u 0)), (0, .ref b)]) hx hb dL_law_1227 hl (by decide) rfl (fun ls hl => ?_)
        refine lv_aload_n hx hb dL_law_1229 rfl (lv_at hl 3 rfl) ?_
        refine lv_aload_n hx hb dL_law_1230 rfl (lv_at hl 5 rfl) ?_
        refine lv_iload hx hb dL_law_1231 (lv_at hl 1 rfl) ?_
        refine q_con hx hb dL_law_1233 ?_
        refine q_add hx hb dL_law_1234 ?_
        refine r_xld hx hb hX hbl hbA hS (i := i + 1) (z := x1) (by omega) hL ex1 dL_law_1235 ?_
        refine lv_aload_n hx hb dL_law_1236 rfl (lv_at hl 5 rfl) ?_
        refine lv_iload hx hb dL_law_1237 (lv_at hl 1 rfl) ?_
        refine q_con hx hb dL_law_1239 ?_
        refine q_add hx hb dL_law_1240 ?_
        refine r_xld hx hb hX hbl hbA hS (i := i + 2) (z := x2) (by omega) hL ex2 dL_law_1241 ?_
        refine lv_aload_n hx hb dL_law_1242 rfl (lv_at hl 5 rfl) ?_
        refine lv_iload hx hb dL_law_1243 (lv_at hl 1 rfl) ?_
        refine q_con hx hb dL_law_1245 ?_
        refine q_add hx hb dL_law_1246 ?_
        refine r_xld hx hb hX hbl hbA hS (i := i + 3) (z := x3) (by omega) hL ex3 dL_law_1247 ?_
        refine c_Vr (As := [.int (iI x1), .int (iI x2), .int (iI x3)]) (rest := []) (b := w 0) (C := RX3) (r := some (.int (iI 0))) (st1 := [.int (iI 0)]) fx hl (mno3_twice θ l S0 _ w r q dt sv th bc rf kn hm1 x1 x2 x3 (by first | assumption | omega | (dsimp only; first | assumption | omega) | exact Hid.mk (by first | assumption | omega) | exact Hid.mk ⟨fun _ => by first | assumption | omega, fun _ => by first | assumption | omega⟩) (by first | assumption | omega | (dsimp only; first | assumption | omega) | exact Hid.mk (by first | assumption | omega) | exact Hid.mk ⟨fun _ => by first | assumption | omega, fun _ => by first | assumption | omega⟩) (by first | assumption | omega | (dsimp only; first | assumption | omega) | exact Hid.mk (by first | assumption | omega) | exact Hid.mk ⟨fun _ => by first | assumption | omega, fun _ => by first | assumption | omega⟩) (by first | assumption | omega | (dsimp only; first | assumption | omega) | exact Hid.mk (by first | assumption | omega) | exact Hid.mk ⟨fun _ => by first | assumption | omega, fun _ => by first | assumption | omega⟩) (by first | assumption | omega | (dsimp only; first | assumption | omega) | exact Hid.mk (by first | assumption | omega) | exact Hid.mk ⟨fun _ => by first | assumption | omega, fun _ => by first | assumption | omega⟩) (by first | assumption | omega | (dsimp only; first | assumption | omega) | exact Hid.mk (by first | assumption | omega) | exact Hid.mk ⟨fun _ => by first | assumption | omega, fun _ => by first | assumption | omega⟩)) (ob_recv hK hm1.2.2.1.1 rfl) dL_law_1248 k1278 k1279 k1280 k6 k1281 hd_X3_twice rfl rfl ⟨by omega, by omega⟩ (Nat.le_of_ble_eq_true rfl) ⟨by (try dsimp only); omega, by (try dsimp only); omega⟩ hS (wa_b hm1.2.1 hzH1.2.1) (fun H5 locs hpH5 hszH5 hkH5 hS => ?_)
        obtain ⟨r1, q1, hm2, nr, nq⟩ := hpH5
        have hzH2 := hz0.at hAB hS
        have hL2 := lw_mod hLX hzH2 hu hcw ho1 hfr hfq hm2 nr nq hkH5
        refine lv_istore (lv' := [(6, .int (iI 0)), (5, .int (iI 2)), (4, .int (iI i)), (3, .ref o), (2, .ref (w 0)), (1, .ref (u 0)), (0, .ref b)]) hx hb dL_law_1251 hl (by decide) rfl (fun ls hl => ?_)
        refine lv_goto (tgt := 2331) hx hb dL_law_1253 (by decide) ?_
        exact kk _ _ _ _ _ ⟨_, _, _, _, _, _, _, _, _, _, hL2⟩ hS (by omega) (by omega) (lv_sub hl [2, 3, 4, 5, 6] rfl)
    · refine lv_aload_n hx hb dL_law_1204 rfl (lv_at hl 3 rfl) ?_
      refine lv_aload_n hx hb dL_law_1205 rfl (lv_at hl 4 rfl) ?_
      refine lv_iload hx hb dL_law_1206 (lv_at hl 0 rfl) ?_
      refine q_con hx hb dL_law_1208 ?_
      refine q_add hx hb dL_law_1209 ?_
      refine r_xld hx hb hX hbl hbA hS (i := i + 1) (z := x1) (by omega) hL ex1 dL_law_1210 ?_
      refine lv_aload_n hx hb dL_law_1211 rfl (lv_at hl 4 rfl) ?_
      refine lv_iload hx hb dL_law_1212 (lv_at hl 0 rfl) ?_
      refine q_con hx hb dL_law_1214 ?_
      refine q_add hx hb dL_law_1215 ?_
      refine r_xld hx hb hX hbl hbA hS (i := i + 2) (z := x2) (by omega) hL ex2 dL_law_1216 ?_
      refine lv_aload_n hx hb dL_law_1217 rfl (lv_at hl 4 rfl) ?_
      refine lv_iload hx hb dL_law_1218 (lv_at hl 0 rfl) ?_
      refine q_con hx hb dL_law_1220 ?_
      refine q_add hx hb dL_law_1221 ?_
      refine r_xld hx hb hX hbl hbA hS (i := i + 3) (z := x3) (by omega) hL ex3 dL_law_1222 ?_
      refine lv_aload_n hx hb dL_law_1223 rfl (lv_at hl 1 rfl) ?_
      refine c_SWr (As := [.ref (u 0), .int (iI x1), .int (iI x2), .int (iI x3), .ref o]) (rest := []) (r := .int (iI 2)) fx hl (wn2_twice θ l hl0 S0 _ u dt (fun j => sv j 0) (fun j => sv j 1) (fun j => sv j 2) bc rf kn hcr hjH hn o nv sv9 ho hLX.1 x1 x2 x3 (by first | assumption | omega | (dsimp only; first | assumption | omega) | exact Hid.mk (by first | assumption | omega) | exact Hid.mk ⟨fun _ => by first | assumption | omega, fun _ => by first | assumption | omega⟩) (by first | assumption | omega | (dsimp only; first | assumption | omega) | exact Hid.mk (by first | assumption | omega) | exact Hid.mk ⟨fun _ => by first | assumption | omega, fun _ => by first | assumption | omega⟩) (by first | assumption | omega | (dsimp only; first | assumption | omega) | exact Hid.mk (by first | assumption | omega) | exact Hid.mk ⟨fun _ => by first | assumption | omega, fun _ => by first | assumption | omega⟩) (by first | assumption | omega | (dsimp only; first | assumption | omega) | exact Hid.mk (by first | assumption | omega) | exact Hid.mk ⟨fun _ => by first | assumption | omega, fun _ => by first | assumption | omega⟩) (by first | assumption | omega | (dsimp only; first | assumption | omega) | exact Hid.mk (by first | assumption | omega) | exact Hid.mk ⟨fun _ => by first | assumption | omega, fun _ => by first | assumption | omega⟩)) dL_law_1224 k888 k889 k0 k890 hd_L_twice rfl ⟨by omega, by omega⟩ (Nat.le_of_ble_eq_true rfl) ⟨by (try dsimp only); omega, by (try dsimp only); omega⟩ hS (fun x h => h.elim (fun h => h.elim (fun ⟨j, hj, e⟩ => e ▸ hu.2 j hj) (fun h => Nat.le_trans hzH.2.1 h)) (fun e => e ▸ hoθ)) (fun H6 locs hpH6 hszH6 hkH6 hS => ?_)
      obtain ⟨hcw, ho1⟩ := hpH6
      have hzH1 := hz0.at hAB hS
      have hjH1 := hj0.at hAB hS
      have hm1 := lw_cls hLX hw hzH1 hkH6
      refine lv_istore (lv' := [(5, .int (iI 2)), (4, .int (iI i)), (3, .ref o), (2, .ref (w 0)), (1, .ref (u 0)), (0, .ref b)]) hx hb dL_law_1227 hl (by decide) rfl (fun ls hl => ?_)
      refine lv_aload_n hx hb dL_law_1229 rfl (lv_at hl 3 rfl) ?_
      refine lv_aload_n hx hb dL_law_1230 rfl (lv_at hl 5 rfl) ?_
      refine lv_iload hx hb dL_law_1231 (lv_at hl 1 rfl) ?_
      refine q_con hx hb dL_law_1233 ?_
      refine q_add hx hb dL_law_1234 ?_
      refine r_xld hx hb hX hbl hbA hS (i := i + 1) (z := x1) (by omega) hL ex1 dL_law_1235 ?_
      refine lv_aload_n hx hb dL_law_1236 rfl (lv_at hl 5 rfl) ?_
      refine lv_iload hx hb dL_law_1237 (lv_at hl 1 rfl) ?_
      refine q_con hx hb dL_law_1239 ?_
      refine q_add hx hb dL_law_1240 ?_
      refine r_xld hx hb hX hbl hbA hS (i := i + 2) (z := x2) (by omega) hL ex2 dL_law_1241 ?_
      refine lv_aload_n hx hb dL_law_1242 rfl (lv_at hl 5 rfl) ?_
      refine lv_iload hx hb dL_law_1243 (lv_at hl 1 rfl) ?_
      refine q_con hx hb dL_law_1245 ?_
      refine q_add hx hb dL_law_1246 ?_
      refine r_xld hx hb hX hbl hbA hS (i := i + 3) (z := x3) (by omega) hL ex3 dL_law_1247 ?_
      refine c_Vr (As := [.int (iI x1), .int (iI x2), .int (iI x3)]) (rest := []) (b := w 0) (C := RX3) (r := some (.int (iI 0))) (st1 := [.int (iI 0)]) fx hl (mno2_twice θ l S0 _ w r q dt sv th bc rf kn hm1 x1 x2 x3 (by first | assumption | omega | (dsimp only; first | assumption | omega) | exact Hid.mk (by first | assumption | omega) | exact Hid.mk ⟨fun _ => by first | assumption | omega, fun _ => by first | assumption | omega⟩) (by first | assumption | omega | (dsimp only; first | assumption | omega) | exact Hid.mk (by first | assumption | omega) | exact Hid.mk ⟨fun _ => by first | assumption | omega, fun _ => by first | assumption | omega⟩) (by first | assumption | omega | (dsimp only; first | assumption | omega) | exact Hid.mk (by first | assumption | omega) | exact Hid.mk ⟨fun _ => by first | assumption | omega, fun _ => by first | assumption | omega⟩) (by first | assumption | omega | (dsimp only; first | assumption | omega) | exact Hid.mk (by first | assumption | omega) | exact Hid.mk ⟨fun _ => by first | assumption | omega, fun _ => by first | assumption | omega⟩) (by first | assumption | omega | (dsimp only; first | assumption | omega) | exact Hid.mk (by first | assumption | omega) | exact Hid.mk ⟨fun _ => by first | assumption | omega, fun _ => by first | assumption | omega⟩)) (ob_recv hK hm1.2.2.1.1 rfl) dL_law_1248 k1278 k1279 k1280 k6 k1281 hd_X3_twice rfl rfl ⟨by omega, by omega⟩ (Nat.le_of_ble_eq_true rfl) ⟨by (try dsimp only); omega, by (try dsimp only); omega⟩ hS (wa_b hm1.2.1 hzH1.2.1) (fun H7 locs hpH7 hszH7 hkH7 hS => ?_)
      obtain ⟨r1, q1, hm2, nr, nq⟩ := hpH7
      have hzH2 := hz0.at hAB hS
      have hL2 := lw_mod hLX hzH2 hu hcw ho1 hfr hfq hm2 nr nq hkH7
      refine lv_istore (lv' := [(6, .int (iI 0)), (5, .int (iI 2)), (4, .int (iI i)), (3, .ref o), (2, .ref (w 0)), (1, .ref (u 0)), (0, .ref b)]) hx hb dL_law_1251 hl (by decide) rfl (fun ls hl => ?_)
      refine lv_goto (tgt := 2331) hx hb dL_law_1253 (by decide) ?_
      exact kk _ _ _ _ _ ⟨_, _, _, _, _, _, _, _, _, _, hL2⟩ hS (by omega) (by omega) (lv_sub hl [2, 3, 4, 5, 6] rfl)
  · refine lv_aload_n hx hb dL_law_1204 rfl (lv_at hl 3 rfl) ?_
    refine lv_aload_n hx hb dL_law_1205 rfl (lv_at hl 4 rfl) ?_
    refine lv_iload hx hb dL_law_1206 (lv_at hl 0 rfl) ?_
    refine q_con hx hb dL_law_1208 ?_
    refine q_add hx hb dL_law_1209 ?_
    refine r_xld hx hb hX hbl hbA hS (i := i + 1) (z := x1) (by omega) hL ex1 dL_law_1210 ?_
    refine lv_aload_n hx hb dL_law_1211 rfl (lv_at hl 4 rfl) ?_
    refine lv_iload hx hb dL_law_1212 (lv_at hl 0 rfl) ?_
    refine q_con hx hb dL_law_1214 ?_
    refine q_add hx hb dL_law_1215 ?_
    refine r_xld hx hb hX hbl hbA hS (i := i + 2) (z := x2) (by omega) hL ex2 dL_law_1216 ?_
    refine lv_aload_n hx hb dL_law_1217 rfl (lv_at hl 4 rfl) ?_
    refine lv_iload hx hb dL_law_1218 (lv_at hl 0 rfl) ?_
    refine q_con hx hb dL_law_1220 ?_
    refine q_add hx hb dL_law_1221 ?_
    refine r_xld hx hb hX hbl hbA hS (i := i + 3) (z := x3) (by omega) hL ex3 dL_law_1222 ?_
    refine lv_aload_n hx hb dL_law_1223 rfl (lv_at hl 1 rfl) ?_
    refine c_SWr (As := [.ref (u 0), .int (iI x1), .int (iI x2), .int (iI x3), .ref o]) (rest := []) (r := .int (iI 1)) fx hl (wn1_twice θ l hl0 S0 _ u dt (fun j => sv j 0) (fun j => sv j 1) (fun j => sv j 2) bc rf kn hcr hjH hn o nv sv9 ho hLX.1 x1 x2 x3 (by first | assumption | omega | (dsimp only; first | assumption | omega) | exact Hid.mk (by first | assumption | omega) | exact Hid.mk ⟨fun _ => by first | assumption | omega, fun _ => by first | assumption | omega⟩) (by first | assumption | omega | (dsimp only; first | assumption | omega) | exact Hid.mk (by first | assumption | omega) | exact Hid.mk ⟨fun _ => by first | assumption | omega, fun _ => by first | assumption | omega⟩) (by first | assumption | omega | (dsimp only; first | assumption | omega) | exact Hid.mk (by first | assumption | omega) | exact Hid.mk ⟨fun _ => by first | assumption | omega, fun _ => by first | assumption | omega⟩) (by first | assumption | omega | (dsimp only; first | assumption | omega) | exact Hid.mk (by first | assumption | omega) | exact Hid.mk ⟨fun _ => by first | assumption | omega, fun _ => by first | assumption | omega⟩)) dL_law_1224 k888 k889 k0 k890 hd_L_twice rfl ⟨by omega, by omega⟩ (Nat.le_of_ble_eq_true rfl) ⟨by (try dsimp only); omega, by (try dsimp only); omega⟩ hS (fun x h => h.elim (fun h => h.elim (fun ⟨j, hj, e⟩ => e ▸ hu.2 j hj) (fun h => Nat.le_trans hzH.2.1 h)) (fun e => e ▸ hoθ)) (fun H8 locs hpH8 hszH8 hkH8 hS => ?_)
    obtain ⟨hcw, ho1⟩ := hpH8
    have hzH1 := hz0.at hAB hS
    have hjH1 := hj0.at hAB hS
    have hm1 := lw_cls hLX hw hzH1 hkH8
    refine lv_istore (lv' := [(5, .int (iI 1)), (4, .int (iI i)), (3, .ref o), (2, .ref (w 0)), (1, .ref (u 0)), (0, .ref b)]) hx hb dL_law_1227 hl (by decide) rfl (fun ls hl => ?_)
    refine lv_aload_n hx hb dL_law_1229 rfl (lv_at hl 3 rfl) ?_
    refine lv_aload_n hx hb dL_law_1230 rfl (lv_at hl 5 rfl) ?_
    refine lv_iload hx hb dL_law_1231 (lv_at hl 1 rfl) ?_
    refine q_con hx hb dL_law_1233 ?_
    refine q_add hx hb dL_law_1234 ?_
    refine r_xld hx hb hX hbl hbA hS (i := i + 1) (z := x1) (by omega) hL ex1 dL_law_1235 ?_
    refine lv_aload_n hx hb dL_law_1236 rfl (lv_at hl 5 rfl) ?_
    refine lv_iload hx hb dL_law_1237 (lv_at hl 1 rfl) ?_
    refine q_con hx hb dL_law_1239 ?_
    refine q_add hx hb dL_law_1240 ?_
    refine r_xld hx hb hX hbl hbA hS (i := i + 2) (z := x2) (by omega) hL ex2 dL_law_1241 ?_
    refine lv_aload_n hx hb dL_law_1242 rfl (lv_at hl 5 rfl) ?_
    refine lv_iload hx hb dL_law_1243 (lv_at hl 1 rfl) ?_
    refine q_con hx hb dL_law_1245 ?_
    refine q_add hx hb dL_law_1246 ?_
    refine r_xld hx hb hX hbl hbA hS (i := i + 3) (z := x3) (by omega) hL ex3 dL_law_1247 ?_
    refine c_Vr (As := [.int (iI x1), .int (iI x2), .int (iI x3)]) (rest := []) (b := w 0) (C := RX3) (r := some (.int (iI 0))) (st1 := [.int (iI 0)]) fx hl (mno1_twice θ l S0 _ w r q dt sv th bc rf kn hm1 x1 x2 x3 (by first | assumption | omega | (dsimp only; first | assumption | omega) | exact Hid.mk (by first | assumption | omega) | exact Hid.mk ⟨fun _ => by first | assumption | omega, fun _ => by first | assumption | omega⟩) (by first | assumption | omega | (dsimp only; first | assumption | omega) | exact Hid.mk (by first | assumption | omega) | exact Hid.mk ⟨fun _ => by first | assumption | omega, fun _ => by first | assumption | omega⟩) (by first | assumption | omega | (dsimp only; first | assumption | omega) | exact Hid.mk (by first | assumption | omega) | exact Hid.mk ⟨fun _ => by first | assumption | omega, fun _ => by first | assumption | omega⟩) (by first | assumption | omega | (dsimp only; first | assumption | omega) | exact Hid.mk (by first | assumption | omega) | exact Hid.mk ⟨fun _ => by first | assumption | omega, fun _ => by first | assumption | omega⟩)) (ob_recv hK hm1.2.2.1.1 rfl) dL_law_1248 k1278 k1279 k1280 k6 k1281 hd_X3_twice rfl rfl ⟨by omega, by omega⟩ (Nat.le_of_ble_eq_true rfl) ⟨by (try dsimp only); omega, by (try dsimp only); omega⟩ hS (wa_b hm1.2.1 hzH1.2.1) (fun H9 locs hpH9 hszH9 hkH9 hS => ?_)
    obtain ⟨r1, q1, hm2, nr, nq⟩ := hpH9
    have hzH2 := hz0.at hAB hS
    have hL2 := lw_mod hLX hzH2 hu hcw ho1 hfr hfq hm2 nr nq hkH9
    refine lv_istore (lv' := [(6, .int (iI 0)), (5, .int (iI 1)), (4, .int (iI i)), (3, .ref o), (2, .ref (w 0)), (1, .ref (u 0)), (0, .ref b)]) hx hb dL_law_1251 hl (by decide) rfl (fun ls hl => ?_)
    refine lv_goto (tgt := 2331) hx hb dL_law_1253 (by decide) ?_
    exact kk _ _ _ _ _ ⟨_, _, _, _, _, _, _, _, _, _, hL2⟩ hS (by omega) (by omega) (lv_sub hl [2, 3, 4, 5, 6] rfl)

set_option maxHeartbeats 4000000 in
set_option maxRecDepth 100000 in
theorem lc_gap {p : Program} {l : Launch} {e : Env} {R : Room} {s : State} {m : MethodId} {args : Array Value} {below : List Frame} {meth : Method} {c : Code} {Q : State → Prop} {θ : TH} {S0 : State} (fx : FX p m c cL_law 7 s args yL_law.cls S0) (hl0 : l.stackTraces = false) (hz0 : SZ θ S0 s.heap) (hj0 : SJ θ S0 s.heap) (hn : NX S0) {u w : Nat → Nat} {o b L : Nat} {xs : Nat → Int32} (hLX : LX u w o) (hoθ : θ.2.2.2 ≤ o) (hX : va_X b L xs s s.heap) (hbl : b < s.heap.size) (hbA : ¬ AJ θ b) (hL : L ≤ 2560) (hRF : 1000 ≤ R.frames ∧ 1000 ≤ R.locals) {H : Heap} {locs : List Loc} {cells slots : Nat} {ls : Array Slot} {i : Int} (hi : 0 ≤ i ∧ i + 5 ≤ (L : Int)) (hw : LWE θ S0 u w o H) (hS : va_S (AJ θ) s.heap H locs) (hRc : cells + 400 ≤ R.cells ∧ slots + 7000 ≤ R.slots) (hl : lv_has ls 7 [(4, .int (iI i)), (3, .ref o), (2, .ref (w 0)), (1, .ref (u 0)), (0, .ref b)]) (kk : LK p l e R s m args below meth c Q θ S0 u w o b i cells slots 2331) : W p l e R s m args below meth c H locs cells slots Q (F0 m 1256 ls []) := by
  obtain ⟨hx, hb, hml, hown, hts⟩ := id fx.1
  have hAB : ∀ x : Nat, AJ θ x → θ.2.2.2 ≤ x := fun _ h => h
  obtain ⟨r, q, dt, sv, th, bc, rf, kn, nv, sv9, hw⟩ := hw
  obtain ⟨hcr, hmr, ho, hfr, hfq⟩ := id hw
  have hzH := hz0.at hAB hS
  have hjH := hj0.at hAB hS
  have hK := sz_K fx.2 hz0
  have hu := hcr.2.1
  obtain ⟨x1, ex1⟩ : ∃ z : Int, z = (xs (i + 1).toNat).toInt := ⟨_, rfl⟩
  have bx1 := x32_b ex1
  obtain ⟨x2, ex2⟩ : ∃ z : Int, z = (xs (i + 2).toNat).toInt := ⟨_, rfl⟩
  have bx2 := x32_b ex2
  obtain ⟨x3, ex3⟩ : ∃ z : Int, z = (xs (i + 3).toNat).toInt := ⟨_, rfl⟩
  have bx3 := x32_b ex3
  by_cases hc1 : 0 ≤ x1 ∧ x1 < 6
  · by_cases hc2 : -240000 ≤ x2 ∧ x2 ≤ 240000
    · by_cases hc3 : -100000 ≤ x3 ∧ x3 ≤ 100000
      · refine lv_aload_n hx hb dL_law_1256 rfl (lv_at hl 3 rfl) ?_
        refine lv_aload_n hx hb dL_law_1257 rfl (lv_at hl 4 rfl) ?_
        refine lv_iload hx hb dL_law_1258 (lv_at hl 0 rfl) ?_
        refine q_con hx hb dL_law_1260 ?_
        refine q_add hx hb dL_law_1261 ?_
        refine r_xld hx hb hX hbl hbA hS (i := i + 1) (z := x1) (by omega) hL ex1 dL_law_1262 ?_
        refine lv_aload_n hx hb dL_law_1263 rfl (lv_at hl 4 rfl) ?_
        refine lv_iload hx hb dL_law_1264 (lv_at hl 0 rfl) ?_
        refine q_con hx hb dL_law_1266 ?_
        refine q_add hx hb dL_law_1267 ?_
        refine r_xld hx hb hX hbl hbA hS (i := i + 2) (z := x2) (by omega) hL ex2 dL_law_1268 ?_
        refine lv_aload_n hx hb dL_law_1269 rfl (lv_at hl 4 rfl) ?_
        refine lv_iload hx hb dL_law_1270 (lv_at hl 0 rfl) ?_
        refine q_con hx hb dL_law_1272 ?_
        refine q_add hx hb dL_law_1273 ?_
        refine r_xld hx hb hX hbl hbA hS (i := i + 3) (z := x3) (by omega) hL ex3 dL_law_1274 ?_
        refine lv_aload_n hx hb dL_law_1275 rfl (lv_at hl 1 rfl) ?_
        refine c_SWr (As := [.ref (u 0), .int (iI x1), .int (iI x2), .int (iI x3), .ref o]) (rest := []) (r := .int (iI 0)) fx hl (wr_gap θ l hl0 S0 _ u dt (fun j => sv j 0) (fun j => sv j 1) (fun j => sv j 2) bc rf kn hcr hjH hn o nv sv9 ho hLX.1 x1 x2 x3 (by first | assumption | omega | (dsimp only; first | assumption | omega) | exact Hid.mk (by first | assumption | omega) | exact Hid.mk ⟨fun _ => by first | assumption | omega, fun _ => by first | assumption | omega⟩) (by first | assumption | omega | (dsimp only; first | assumption | omega) | exact Hid.mk (by first | assumption | omega) | exact Hid.mk ⟨fun _ => by first | assumption | omega, fun _ => by first | assumption | omega⟩) (by first | assumption | omega | (dsimp only; first | assumption | omega) | exact Hid.mk (by first | assumption | omega) | exact Hid.mk ⟨fun _ => by first | assumption | omega, fun _ => by first | assumption | omega⟩) (by first | assumption | omega | (dsimp only; first | assumption | omega) | exact Hid.mk (by first | assumption | omega) | exact Hid.mk ⟨fun _ => by first | assumption | omega, fun _ => by first | assumption | omega⟩) (by first | assumption | omega | (dsimp only; first | assumption | omega) | exact Hid.mk (by first | assumption | omega) | exact Hid.mk ⟨fun _ => by first | assumption | omega, fun _ => by first | assumption | omega⟩) (by first | assumption | omega | (dsimp only; first | assumption | omega) | exact Hid.mk (by first | assumption | omega) | exact Hid.mk ⟨fun _ => by first | assumption | omega, fun _ => by first | assumption | omega⟩)) dL_law_1276 k895 k896 k0 k897 hd_L_gap rfl ⟨by omega, by omega⟩ (Nat.le_of_ble_eq_true rfl) ⟨by (try dsimp only); omega, by (try dsimp only); omega⟩ hS (fun x h => h.elim (fun h => h.elim (fun ⟨j, hj, e⟩ => e ▸ hu.2 j hj) (fun h => Nat.le_trans hzH.2.1 h)) (fun e => e ▸ hoθ)) (fun H1 locs hpH1 hszH1 hkH1 hS => ?_)
        obtain ⟨hcw, ho1⟩ := hpH1
        have hzH1 := hz0.at hAB hS
        have hjH1 := hj0.at hAB hS
        have hm1 := lw_cls hLX hw hzH1 hkH1
        refine lv_istore (lv' := [(5, .int (iI 0)), (4, .int (iI i)), (3, .ref o), (2, .ref (w 0)), (1, .ref (u 0)), (0, .ref b)]) hx hb dL_law_1279 hl (by decide) rfl (fun ls hl => ?_)
        refine lv_aload_n hx hb dL_law_1281 rfl (lv_at hl 3 rfl) ?_
        refine lv_aload_n hx hb dL_law_1282 rfl (lv_at hl 5 rfl) ?_
        refine lv_iload hx hb dL_law_1283 (lv_at hl 1 rfl) ?_
        refine q_con hx hb dL_law_1285 ?_
        refine q_add hx hb dL_law_1286 ?_
        refine r_xld hx hb hX hbl hbA hS (i := i + 1) (z := x1) (by omega) hL ex1 dL_law_1287 ?_
        refine lv_aload_n hx hb dL_law_1288 rfl (lv_at hl 5 rfl) ?_
        refine lv_iload hx hb dL_law_1289 (lv_at hl 1 rfl) ?_
        refine q_con hx hb dL_law_1291 ?_
        refine q_add hx hb dL_law_1292 ?_
        refine r_xld hx hb hX hbl hbA hS (i := i + 2) (z := x2) (by omega) hL ex2 dL_law_1293 ?_
        refine lv_aload_n hx hb dL_law_1294 rfl (lv_at hl 5 rfl) ?_
        refine lv_iload hx hb dL_law_1295 (lv_at hl 1 rfl) ?_
        refine q_con hx hb dL_law_1297 ?_
        refine q_add hx hb dL_law_1298 ?_
        refine r_xld hx hb hX hbl hbA hS (i := i + 3) (z := x3) (by omega) hL ex3 dL_law_1299 ?_
        refine c_Vr (As := [.int (iI x1), .int (iI x2), .int (iI x3)]) (rest := []) (b := w 0) (C := RX3) (r := some (.int (iI (shI (dt x1.toNat + x3) x2 - (shI (dt x1.toNat) x2 + x3))))) (st1 := [.int (iI (shI (dt x1.toNat + x3) x2 - (shI (dt x1.toNat) x2 + x3)))]) fx hl (mok_gap θ l S0 _ w r q dt sv th bc rf kn hm1 x1 x2 x3 (by first | assumption | omega | (dsimp only; first | assumption | omega) | exact Hid.mk (by first | assumption | omega) | exact Hid.mk ⟨fun _ => by first | assumption | omega, fun _ => by first | assumption | omega⟩) (by first | assumption | omega | (dsimp only; first | assumption | omega) | exact Hid.mk (by first | assumption | omega) | exact Hid.mk ⟨fun _ => by first | assumption | omega, fun _ => by first | assumption | omega⟩) (by first | assumption | omega | (dsimp only; first | assumption | omega) | exact Hid.mk (by first | assumption | omega) | exact Hid.mk ⟨fun _ => by first | assumption | omega, fun _ => by first | assumption | omega⟩) (by first | assumption | omega | (dsimp only; first | assumption | omega) | exact Hid.mk (by first | assumption | omega) | exact Hid.mk ⟨fun _ => by first | assumption | omega, fun _ => by first | assumption | omega⟩) (by first | assumption | omega | (dsimp only; first | assumption | omega) | exact Hid.mk (by first | assumption | omega) | exact Hid.mk ⟨fun _ => by first | assumption | omega, fun _ => by first | assumption | omega⟩) (by first | assumption | omega | (dsimp only; first | assumption | omega) | exact Hid.mk (by first | assumption | omega) | exact Hid.mk ⟨fun _ => by first | assumption | omega, fun _ => by first | assumption | omega⟩)) (ob_recv hK hm1.2.2.1.1 rfl) dL_law_1300 k1282 k1283 k1284 k6 k1285 hd_X3_gap rfl rfl ⟨by omega, by omega⟩ (Nat.le_of_ble_eq_true rfl) ⟨by (try dsimp only); omega, by (try dsimp only); omega⟩ hS (wa_b hm1.2.1 hzH1.2.1) (fun H2 locs hpH2 hszH2 hkH2 hS => ?_)
        obtain ⟨r1, q1, hm2, nr, nq⟩ := hpH2
        have hzH2 := hz0.at hAB hS
        have hL2 := lw_mod hLX hzH2 hu hcw ho1 hfr hfq hm2 nr nq hkH2
        refine q_nm (fun z3 ez3 => ?_)
        refine lv_istore (lv' := [(6, .int (iI z3)), (5, .int (iI 0)), (4, .int (iI i)), (3, .ref o), (2, .ref (w 0)), (1, .ref (u 0)), (0, .ref b)]) hx hb dL_law_1303 hl (by decide) rfl (fun ls hl => ?_)
        refine lv_goto (tgt := 2331) hx hb dL_law_1305 (by decide) ?_
        exact kk _ _ _ _ _ ⟨_, _, _, _, _, _, _, _, _, _, hL2⟩ hS (by omega) (by omega) (lv_sub hl [2, 3, 4, 5, 6] rfl)
      · refine lv_aload_n hx hb dL_law_1256 rfl (lv_at hl 3 rfl) ?_
        refine lv_aload_n hx hb dL_law_1257 rfl (lv_at hl 4 rfl) ?_
        refine lv_iload hx hb dL_law_1258 (lv_at hl 0 rfl) ?_
        refine q_con hx hb dL_law_1260 ?_
        refine q_add hx hb dL_law_1261 ?_
        refine r_xld hx hb hX hbl hbA hS (i := i + 1) (z := x1) (by omega) hL ex1 dL_law_1262 ?_
        refine lv_aload_n hx hb dL_law_1263 rfl (lv_at hl 4 rfl) ?_
        refine lv_iload hx hb dL_law_1264 (lv_at hl 0 rfl) ?_
        refine q_con hx hb dL_law_1266 ?_
        refine q_add hx hb dL_law_1267 ?_
        refine r_xld hx hb hX hbl hbA hS (i := i + 2) (z := x2) (by omega) hL ex2 dL_law_1268 ?_
        refine lv_aload_n hx hb dL_law_1269 rfl (lv_at hl 4 rfl) ?_
        refine lv_iload hx hb dL_law_1270 (lv_at hl 0 rfl) ?_
        refine q_con hx hb dL_law_1272 ?_
        refine q_add hx hb dL_law_1273 ?_
        refine r_xld hx hb hX hbl hbA hS (i := i + 3) (z := x3) (by omega) hL ex3 dL_law_1274 ?_
        refine lv_aload_n hx hb dL_law_1275 rfl (lv_at hl 1 rfl) ?_
        refine c_SWr (As := [.ref (u 0), .int (iI x1), .int (iI x2), .int (iI x3), .ref o]) (rest := []) (r := .int (iI 2)) fx hl (wn3_gap θ l hl0 S0 _ u dt (fun j => sv j 0) (fun j => sv j 1) (fun j => sv j 2) bc rf kn hcr hjH hn o nv sv9 ho hLX.1 x1 x2 x3 (by first | assumption | omega | (dsimp only; first | assumption | omega) | exact Hid.mk (by first | assumption | omega) | exact Hid.mk ⟨fun _ => by first | assumption | omega, fun _ => by first | assumption | omega⟩) (by first | assumption | omega | (dsimp only; first | assumption | omega) | exact Hid.mk (by first | assumption | omega) | exact Hid.mk ⟨fun _ => by first | assumption | omega, fun _ => by first | assumption | omega⟩) (by first | assumption | omega | (dsimp only; first | assumption | omega) | exact Hid.mk (by first | assumption | omega) | exact Hid.mk ⟨fun _ => by first | assumption | omega, fun _ => by first | assumption | omega⟩) (by first | assumption | omega | (dsimp only; first | assumption | omega) | exact Hid.mk (by first | assumption | omega) | exact Hid.mk ⟨fun _ => by first | assumption | omega, fun _ => by first | assumption | omega⟩) (by first | assumption | omega | (dsimp only; first | assumption | omega) | exact Hid.mk (by first | assumption | omega) | exact Hid.mk ⟨fun _ => by first | assumption | omega, fun _ => by first | assumption | omega⟩) (by first | assumption | omega | (dsimp only; first | assumption | omega) | exact Hid.mk (by first | assumption | omega) | exact Hid.mk ⟨fun _ => by first | assumption | omega, fun _ => by first | assumption | omega⟩)) dL_law_1276 k895 k896 k0 k897 hd_L_gap rfl ⟨by omega, by omega⟩ (Nat.le_of_ble_eq_true rfl) ⟨by (try dsimp only); omega, by (try dsimp only); omega⟩ hS (fun x h => h.elim (fun h => h.elim (fun ⟨j, hj, e⟩ => e ▸ hu.2 j hj) (fun h => Nat.le_trans hzH.2.1 h)) (fun e => e ▸ hoθ)) (fun H4 locs hpH4 hszH4 hkH4 hS => ?_)
        obtain ⟨hcw, ho1⟩ := hpH4
        have hzH1 := hz0.at hAB hS
        have hjH1 := hj0.at hAB hS
        have hm1 := lw_cls hLX hw hzH1 hkH4
        refine lv_istore (lv' := [(5, .int (iI 2)), (4, .int (iI i)), (3, .ref o), (2, .ref (w 0)), (1, .ref (u 0)), (0, .ref b)]) hx hb dL_law_1279 hl (by decide) rfl (fun ls hl => ?_)
        refine lv_aload_n hx hb dL_law_1281 rfl (lv_at hl 3 rfl) ?_
        refine lv_aload_n hx hb dL_law_1282 rfl (lv_at hl 5 rfl) ?_
        refine lv_iload hx hb dL_law_1283 (lv_at hl 1 rfl) ?_
        refine q_con hx hb dL_law_1285 ?_
        refine q_add hx hb dL_law_1286 ?_
        refine r_xld hx hb hX hbl hbA hS (i := i + 1) (z := x1) (by omega) hL ex1 dL_law_1287 ?_
        refine lv_aload_n hx hb dL_law_1288 rfl (lv_at hl 5 rfl) ?_
        refine lv_iload hx hb dL_law_1289 (lv_at hl 1 rfl) ?_
        refine q_con hx hb dL_law_1291 ?_
        refine q_add hx hb dL_law_1292 ?_
        refine r_xld hx hb hX hbl hbA hS (i := i + 2) (z := x2) (by omega) hL ex2 dL_law_1293 ?_
        refine lv_aload_n hx hb dL_law_1294 rfl (lv_at hl 5 rfl) ?_
        refine lv_iload hx hb dL_law_1295 (lv_at hl 1 rfl) ?_
        refine q_con hx hb dL_law_1297 ?_
        refine q_add hx hb dL_law_1298 ?_
        refine r_xld hx hb hX hbl hbA hS (i := i + 3) (z := x3) (by omega) hL ex3 dL_law_1299 ?_
        refine c_Vr (As := [.int (iI x1), .int (iI x2), .int (iI x3)]) (rest := []) (b := w 0) (C := RX3) (r := some (.int (iI 0))) (st1 := [.int (iI 0)]) fx hl (mno3_gap θ l S0 _ w r q dt sv th bc rf kn hm1 x1 x2 x3 (by first | assumption | omega | (dsimp only; first | assumption | omega) | exact Hid.mk (by first | assumption | omega) | exact Hid.mk ⟨fun _ => by first | assumption | omega, fun _ => by first | assumption | omega⟩) (by first | assumption | omega | (dsimp only; first | assumption | omega) | exact Hid.mk (by first | assumption | omega) | exact Hid.mk ⟨fun _ => by first | assumption | omega, fun _ => by first | assumption | omega⟩) (by first | assumption | omega | (dsimp only; first | assumption | omega) | exact Hid.mk (by first | assumption | omega) | exact Hid.mk ⟨fun _ => by first | assumption | omega, fun _ => by first | assumption | omega⟩) (by first | assumption | omega | (dsimp only; first | assumption | omega) | exact Hid.mk (by first | assumption | omega) | exact Hid.mk ⟨fun _ => by first | assumption | omega, fun _ => by first | assumption | omega⟩) (by first | assumption | omega | (dsimp only; first | assumption | omega) | exact Hid.mk (by first | assumption | omega) | exact Hid.mk ⟨fun _ => by first | assumption | omega, fun _ => by first | assumption | omega⟩) (by first | assumption | omega | (dsimp only; first | assumption | omega) | exact Hid.mk (by first | assumption | omega) | exact Hid.mk ⟨fun _ => by first | assumption | omega, fun _ => by first | assumption | omega⟩)) (ob_recv hK hm1.2.2.1.1 rfl) dL_law_1300 k1282 k1283 k1284 k6 k1285 hd_X3_gap rfl rfl ⟨by omega, by omega⟩ (Nat.le_of_ble_eq_true rfl) ⟨by (try dsimp only); omega, by (try dsimp only); omega⟩ hS (wa_b hm1.2.1 hzH1.2.1) (fun H5 locs hpH5 hszH5 hkH5 hS => ?_)
        obtain ⟨r1, q1, hm2, nr, nq⟩ := hpH5
        have hzH2 := hz0.at hAB hS
        have hL2 := lw_mod hLX hzH2 hu hcw ho1 hfr hfq hm2 nr nq hkH5
        refine lv_istore (lv' := [(6, .int (iI 0)), (5, .int (iI 2)), (4, .int (iI i)), (3, .ref o), (2, .ref (w 0)), (1, .ref (u 0)), (0, .ref b)]) hx hb dL_law_1303 hl (by decide) rfl (fun ls hl => ?_)
        refine lv_goto (tgt := 2331) hx hb dL_law_1305 (by decide) ?_
        exact kk _ _ _ _ _ ⟨_, _, _, _, _, _, _, _, _, _, hL2⟩ hS (by omega) (by omega) (lv_sub hl [2, 3, 4, 5, 6] rfl)
    · refine lv_aload_n hx hb dL_law_1256 rfl (lv_at hl 3 rfl) ?_
      refine lv_aload_n hx hb dL_law_1257 rfl (lv_at hl 4 rfl) ?_
      refine lv_iload hx hb dL_law_1258 (lv_at hl 0 rfl) ?_
      refine q_con hx hb dL_law_1260 ?_
      refine q_add hx hb dL_law_1261 ?_
      refine r_xld hx hb hX hbl hbA hS (i := i + 1) (z := x1) (by omega) hL ex1 dL_law_1262 ?_
      refine lv_aload_n hx hb dL_law_1263 rfl (lv_at hl 4 rfl) ?_
      refine lv_iload hx hb dL_law_1264 (lv_at hl 0 rfl) ?_
      refine q_con hx hb dL_law_1266 ?_
      refine q_add hx hb dL_law_1267 ?_
      refine r_xld hx hb hX hbl hbA hS (i := i + 2) (z := x2) (by omega) hL ex2 dL_law_1268 ?_
      refine lv_aload_n hx hb dL_law_1269 rfl (lv_at hl 4 rfl) ?_
      refine lv_iload hx hb dL_law_1270 (lv_at hl 0 rfl) ?_
      refine q_con hx hb dL_law_1272 ?_
      refine q_add hx hb dL_law_1273 ?_
      refine r_xld hx hb hX hbl hbA hS (i := i + 3) (z := x3) (by omega) hL ex3 dL_law_1274 ?_
      refine lv_aload_n hx hb dL_law_1275 rfl (lv_at hl 1 rfl) ?_
      refine c_SWr (As := [.ref (u 0), .int (iI x1), .int (iI x2), .int (iI x3), .ref o]) (rest := []) (r := .int (iI 2)) fx hl (wn2_gap θ l hl0 S0 _ u dt (fun j => sv j 0) (fun j => sv j 1) (fun j => sv j 2) bc rf kn hcr hjH hn o nv sv9 ho hLX.1 x1 x2 x3 (by first | assumption | omega | (dsimp only; first | assumption | omega) | exact Hid.mk (by first | assumption | omega) | exact Hid.mk ⟨fun _ => by first | assumption | omega, fun _ => by first | assumption | omega⟩) (by first | assumption | omega | (dsimp only; first | assumption | omega) | exact Hid.mk (by first | assumption | omega) | exact Hid.mk ⟨fun _ => by first | assumption | omega, fun _ => by first | assumption | omega⟩) (by first | assumption | omega | (dsimp only; first | assumption | omega) | exact Hid.mk (by first | assumption | omega) | exact Hid.mk ⟨fun _ => by first | assumption | omega, fun _ => by first | assumption | omega⟩) (by first | assumption | omega | (dsimp only; first | assumption | omega) | exact Hid.mk (by first | assumption | omega) | exact Hid.mk ⟨fun _ => by first | assumption | omega, fun _ => by first | assumption | omega⟩) (by first | assumption | omega | (dsimp only; first | assumption | omega) | exact Hid.mk (by first | assumption | omega) | exact Hid.mk ⟨fun _ => by first | assumption | omega, fun _ => by first | assumption | omega⟩)) dL_law_1276 k895 k896 k0 k897 hd_L_gap rfl ⟨by omega, by omega⟩ (Nat.le_of_ble_eq_true rfl) ⟨by (try dsimp only); omega, by (try dsimp only); omega⟩ hS (fun x h => h.elim (fun h => h.elim (fun ⟨j, hj, e⟩ => e ▸ hu.2 j hj) (fun h => Nat.le_trans hzH.2.1 h)) (fun e => e ▸ hoθ)) (fun H6 locs hpH6 hszH6 hkH6 hS => ?_)
      obtain ⟨hcw, ho1⟩ := hpH6
      have hzH1 := hz0.at hAB hS
      have hjH1 := hj0.at hAB hS
      have hm1 := lw_cls hLX hw hzH1 hkH6
      refine lv_istore (lv' := [(5, .int (iI 2)), (4, .int (iI i)), (3, .ref o), (2, .ref (w 0)), (1, .ref (u 0)), (0, .ref b)]) hx hb dL_law_1279 hl (by decide) rfl (fun ls hl => ?_)
      refine lv_aload_n hx hb dL_law_1281 rfl (lv_at hl 3 rfl) ?_
      refine lv_aload_n hx hb dL_law_1282 rfl (lv_at hl 5 rfl) ?_
      refine lv_iload hx hb dL_law_1283 (lv_at hl 1 rfl) ?_
      refine q_con hx hb dL_law_1285 ?_
      refine q_add hx hb dL_law_1286 ?_
      refine r_xld hx hb hX hbl hbA hS (i := i + 1) (z := x1) (by omega) hL ex1 dL_law_1287 ?_
      refine lv_aload_n hx hb dL_law_1288 rfl (lv_at hl 5 rfl) ?_
      refine lv_iload hx hb dL_law_1289 (lv_at hl 1 rfl) ?_
      refine q_con hx hb dL_law_1291 ?_
      refine q_add hx hb dL_law_1292 ?_
      refine r_xld hx hb hX hbl hbA hS (i := i + 2) (z := x2) (by omega) hL ex2 dL_law_1293 ?_
      refine lv_aload_n hx hb dL_law_1294 rfl (lv_at hl 5 rfl) ?_
      refine lv_iload hx hb dL_law_1295 (lv_at hl 1 rfl) ?_
      refine q_con hx hb dL_law_1297 ?_
      refine q_add hx hb dL_law_1298 ?_
      refine r_xld hx hb hX hbl hbA hS (i := i + 3) (z := x3) (by omega) hL ex3 dL_law_1299 ?_
      refine c_Vr (As := [.int (iI x1), .int (iI x2), .int (iI x3)]) (rest := []) (b := w 0) (C := RX3) (r := some (.int (iI 0))) (st1 := [.int (iI 0)]) fx hl (mno2_gap θ l S0 _ w r q dt sv th bc rf kn hm1 x1 x2 x3 (by first | assumption | omega | (dsimp only; first | assumption | omega) | exact Hid.mk (by first | assumption | omega) | exact Hid.mk ⟨fun _ => by first | assumption | omega, fun _ => by first | assumption | omega⟩) (by first | assumption | omega | (dsimp only; first | assumption | omega) | exact Hid.mk (by first | assumption | omega) | exact Hid.mk ⟨fun _ => by first | assumption | omega, fun _ => by first | assumption | omega⟩) (by first | assumption | omega | (dsimp only; first | assumption | omega) | exact Hid.mk (by first | assumption | omega) | exact Hid.mk ⟨fun _ => by first | assumption | omega, fun _ => by first | assumption | omega⟩) (by first | assumption | omega | (dsimp only; first | assumption | omega) | exact Hid.mk (by first | assumption | omega) | exact Hid.mk ⟨fun _ => by first | assumption | omega, fun _ => by first | assumption | omega⟩) (by first | assumption | omega | (dsimp only; first | assumption | omega) | exact Hid.mk (by first | assumption | omega) | exact Hid.mk ⟨fun _ => by first | assumption | omega, fun _ => by first | assumption | omega⟩)) (ob_recv hK hm1.2.2.1.1 rfl) dL_law_1300 k1282 k1283 k1284 k6 k1285 hd_X3_gap rfl rfl ⟨by omega, by omega⟩ (Nat.le_of_ble_eq_true rfl) ⟨by (try dsimp only); omega, by (try dsimp only); omega⟩ hS (wa_b hm1.2.1 hzH1.2.1) (fun H7 locs hpH7 hszH7 hkH7 hS => ?_)
      obtain ⟨r1, q1, hm2, nr, nq⟩ := hpH7
      have hzH2 := hz0.at hAB hS
      have hL2 := lw_mod hLX hzH2 hu hcw ho1 hfr hfq hm2 nr nq hkH7
      refine lv_istore (lv' := [(6, .int (iI 0)), (5, .int (iI 2)), (4, .int (iI i)), (3, .ref o), (2, .ref (w 0)), (1, .ref (u 0)), (0, .ref b)]) hx hb dL_law_1303 hl (by decide) rfl (fun ls hl => ?_)
      refine lv_goto (tgt := 2331) hx hb dL_law_1305 (by decide) ?_
      exact kk _ _ _ _ _ ⟨_, _, _, _, _, _, _, _, _, _, hL2⟩ hS (by omega) (by omega) (lv_sub hl [2, 3, 4, 5, 6] rfl)
  · refine lv_aload_n hx hb dL_law_1256 rfl (lv_at hl 3 rfl) ?_
    refine lv_aload_n hx hb dL_law_1257 rfl (lv_at hl 4 rfl) ?_
    refine lv_iload hx hb dL_law_1258 (lv_at hl 0 rfl) ?_
    refine q_con hx hb dL_law_1260 ?_
    refine q_add hx hb dL_law_1261 ?_
    refine r_xld hx hb hX hbl hbA hS (i := i + 1) (z := x1) (by omega) hL ex1 dL_law_1262 ?_
    refine lv_aload_n hx hb dL_law_1263 rfl (lv_at hl 4 rfl) ?_
    refine lv_iload hx hb dL_law_1264 (lv_at hl 0 rfl) ?_
    refine q_con hx hb dL_law_1266 ?_
    refine q_add hx hb dL_law_1267 ?_
    refine r_xld hx hb hX hbl hbA hS (i := i + 2) (z := x2) (by omega) hL ex2 dL_law_1268 ?_
    refine lv_aload_n hx hb dL_law_1269 rfl (lv_at hl 4 rfl) ?_
    refine lv_iload hx hb dL_law_1270 (lv_at hl 0 rfl) ?_
    refine q_con hx hb dL_law_1272 ?_
    refine q_add hx hb dL_law_1273 ?_
    refine r_xld hx hb hX hbl hbA hS (i := i + 3) (z := x3) (by omega) hL ex3 dL_law_1274 ?_
    refine lv_aload_n hx hb dL_law_1275 rfl (lv_at hl 1 rfl) ?_
    refine c_SWr (As := [.ref (u 0), .int (iI x1), .int (iI x2), .int (iI x3), .ref o]) (rest := []) (r := .int (iI 1)) fx hl (wn1_gap θ l hl0 S0 _ u dt (fun j => sv j 0) (fun j => sv j 1) (fun j => sv j 2) bc rf kn hcr hjH hn o nv sv9 ho hLX.1 x1 x2 x3 (by first | assumption | omega | (dsimp only; first | assumption | omega) | exact Hid.mk (by first | assumption | omega) | exact Hid.mk ⟨fun _ => by first | assumption | omega, fun _ => by first | assumption | omega⟩) (by first | assumption | omega | (dsimp only; first | assumption | omega) | exact Hid.mk (by first | assumption | omega) | exact Hid.mk ⟨fun _ => by first | assumption | omega, fun _ => by first | assumption | omega⟩) (by first | assumption | omega | (dsimp only; first | assumption | omega) | exact Hid.mk (by first | assumption | omega) | exact Hid.mk ⟨fun _ => by first | assumption | omega, fun _ => by first | assumption | omega⟩) (by first | assumption | omega | (dsimp only; first | assumption | omega) | exact Hid.mk (by first | assumption | omega) | exact Hid.mk ⟨fun _ => by first | assumption | omega, fun _ => by first | assumption | omega⟩)) dL_law_1276 k895 k896 k0 k897 hd_L_gap rfl ⟨by omega, by omega⟩ (Nat.le_of_ble_eq_true rfl) ⟨by (try dsimp only); omega, by (try dsimp only); omega⟩ hS (fun x h => h.elim (fun h => h.elim (fun ⟨j, hj, e⟩ => e ▸ hu.2 j hj) (fun h => Nat.le_trans hzH.2.1 h)) (fun e => e ▸ hoθ)) (fun H8 locs hpH8 hszH8 hkH8 hS => ?_)
    obtain ⟨hcw, ho1⟩ := hpH8
    have hzH1 := hz0.at hAB hS
    have hjH1 := hj0.at hAB hS
    have hm1 := lw_cls hLX hw hzH1 hkH8
    refine lv_istore (lv' := [(5, .int (iI 1)), (4, .int (iI i)), (3, .ref o), (2, .ref (w 0)), (1, .ref (u 0)), (0, .ref b)]) hx hb dL_law_1279 hl (by decide) rfl (fun ls hl => ?_)
    refine lv_aload_n hx hb dL_law_1281 rfl (lv_at hl 3 rfl) ?_
    refine lv_aload_n hx hb dL_law_1282 rfl (lv_at hl 5 rfl) ?_
    refine lv_iload hx hb dL_law_1283 (lv_at hl 1 rfl) ?_
    refine q_con hx hb dL_law_1285 ?_
    refine q_add hx hb dL_law_1286 ?_
    refine r_xld hx hb hX hbl hbA hS (i := i + 1) (z := x1) (by omega) hL ex1 dL_law_1287 ?_
    refine lv_aload_n hx hb dL_law_1288 rfl (lv_at hl 5 rfl) ?_
    refine lv_iload hx hb dL_law_1289 (lv_at hl 1 rfl) ?_
    refine q_con hx hb dL_law_1291 ?_
    refine q_add hx hb dL_law_1292 ?_
    refine r_xld hx hb hX hbl hbA hS (i := i + 2) (z := x2) (by omega) hL ex2 dL_law_1293 ?_
    refine lv_aload_n hx hb dL_law_1294 rfl (lv_at hl 5 rfl) ?_
    refine lv_iload hx hb dL_law_1295 (lv_at hl 1 rfl) ?_
    refine q_con hx hb dL_law_1297 ?_
    refine q_add hx hb dL_law_1298 ?_
    refine r_xld hx hb hX hbl hbA hS (i := i + 3) (z := x3) (by omega) hL ex3 dL_law_1299 ?_
    refine c_Vr (As := [.int (iI x1), .int (iI x2), .int (iI x3)]) (rest := []) (b := w 0) (C := RX3) (r := some (.int (iI 0))) (st1 := [.int (iI 0)]) fx hl (mno1_gap θ l S0 _ w r q dt sv th bc rf kn hm1 x1 x2 x3 (by first | assumption | omega | (dsimp only; first | assumption | omega) | exact Hid.mk (by first | assumption | omega) | exact Hid.mk ⟨fun _ => by first | assumption | omega, fun _ => by first | assumption | omega⟩) (by first | assumption | omega | (dsimp only; first | assumption | omega) | exact Hid.mk (by first | assumption | omega) | exact Hid.mk ⟨fun _ => by first | assumption | omega, fun _ => by first | assumption | omega⟩) (by first | assumption | omega | (dsimp only; first | assumption | omega) | exact Hid.mk (by first | assumption | omega) | exact Hid.mk ⟨fun _ => by first | assumption | omega, fun _ => by first | assumption | omega⟩) (by first | assumption | omega | (dsimp only; first | assumption | omega) | exact Hid.mk (by first | assumption | omega) | exact Hid.mk ⟨fun _ => by first | assumption | omega, fun _ => by first | assumption | omega⟩)) (ob_recv hK hm1.2.2.1.1 rfl) dL_law_1300 k1282 k1283 k1284 k6 k1285 hd_X3_gap rfl rfl ⟨by omega, by omega⟩ (Nat.le_of_ble_eq_true rfl) ⟨by (try dsimp only); omega, by (try dsimp only); omega⟩ hS (wa_b hm1.2.1 hzH1.2.1) (fun H9 locs hpH9 hszH9 hkH9 hS => ?_)
    obtain ⟨r1, q1, hm2, nr, nq⟩ := hpH9
    have hzH2 := hz0.at hAB hS
    have hL2 := lw_mod hLX hzH2 hu hcw ho1 hfr hfq hm2 nr nq hkH9
    refine lv_istore (lv' := [(6, .int (iI 0)), (5, .int (iI 1)), (4, .int (iI i)), (3, .ref o), (2, .ref (w 0)), (1, .ref (u 0)), (0, .ref b)]) hx hb dL_law_1303 hl (by decide) rfl (fun ls hl => ?_)
    refine lv_goto (tgt := 2331) hx hb dL_law_1305 (by decide) ?_
    exact kk _ _ _ _ _ ⟨_, _, _, _, _, _, _, _, _, _, hL2⟩ hS (by omega) (by omega) (lv_sub hl [2, 3, 4, 5, 6] rfl)

set_option maxHeartbeats 4000000 in
set_option maxRecDepth 100000 in
theorem lc_lowest {p : Program} {l : Launch} {e : Env} {R : Room} {s : State} {m : MethodId} {args : Array Value} {below : List Frame} {meth : Method} {c : Code} {Q : State → Prop} {θ : TH} {S0 : State} (fx : FX p m c cL_law 7 s args yL_law.cls S0) (hl0 : l.stackTraces = false) (hz0 : SZ θ S0 s.heap) (hj0 : SJ θ S0 s.heap) (hn : NX S0) {u w : Nat → Nat} {o b L : Nat} {xs : Nat → Int32} (hLX : LX u w o) (hoθ : θ.2.2.2 ≤ o) (hX : va_X b L xs s s.heap) (hbl : b < s.heap.size) (hbA : ¬ AJ θ b) (hL : L ≤ 2560) (hRF : 1000 ≤ R.frames ∧ 1000 ≤ R.locals) {H : Heap} {locs : List Loc} {cells slots : Nat} {ls : Array Slot} {i : Int} (hi : 0 ≤ i ∧ i + 5 ≤ (L : Int)) (hw : LWE θ S0 u w o H) (hS : va_S (AJ θ) s.heap H locs) (hRc : cells + 400 ≤ R.cells ∧ slots + 7000 ≤ R.slots) (hl : lv_has ls 7 [(4, .int (iI i)), (3, .ref o), (2, .ref (w 0)), (1, .ref (u 0)), (0, .ref b)]) (kk : LK p l e R s m args below meth c Q θ S0 u w o b i cells slots 2331) : W p l e R s m args below meth c H locs cells slots Q (F0 m 1308 ls []) := by
  obtain ⟨hx, hb, hml, hown, hts⟩ := id fx.1
  have hAB : ∀ x : Nat, AJ θ x → θ.2.2.2 ≤ x := fun _ h => h
  obtain ⟨r, q, dt, sv, th, bc, rf, kn, nv, sv9, hw⟩ := hw
  obtain ⟨hcr, hmr, ho, hfr, hfq⟩ := id hw
  have hzH := hz0.at hAB hS
  have hjH := hj0.at hAB hS
  have hK := sz_K fx.2 hz0
  have hu := hcr.2.1
  obtain ⟨x1, ex1⟩ : ∃ z : Int, z = (xs (i + 1).toNat).toInt := ⟨_, rfl⟩
  have bx1 := x32_b ex1
  obtain ⟨x2, ex2⟩ : ∃ z : Int, z = (xs (i + 2).toNat).toInt := ⟨_, rfl⟩
  have bx2 := x32_b ex2
  obtain ⟨x3, ex3⟩ : ∃ z : Int, z = (xs (i + 3).toNat).toInt := ⟨_, rfl⟩
  have bx3 := x32_b ex3
  by_cases hc1 : 0 ≤ x1 ∧ x1 < 6
  · by_cases hc2 : -1200 ≤ x2 ∧ x2 ≤ 1200
    · by_cases hc3 : 0 ≤ x3 ∧ x3 ≤ 48
      · refine lv_aload_n hx hb dL_law_1308 rfl (lv_at hl 3 rfl) ?_
        refine lv_aload_n hx hb dL_law_1309 rfl (lv_at hl 4 rfl) ?_
        refine lv_iload hx hb dL_law_1310 (lv_at hl 0 rfl) ?_
        refine q_con hx hb dL_law_1312 ?_
        refine q_add hx hb dL_law_1313 ?_
        refine r_xld hx hb hX hbl hbA hS (i := i + 1) (z := x1) (by omega) hL ex1 dL_law_1314 ?_
        refine lv_aload_n hx hb dL_law_1315 rfl (lv_at hl 4 rfl) ?_
        refine lv_iload hx hb dL_law_1316 (lv_at hl 0 rfl) ?_
        refine q_con hx hb dL_law_1318 ?_
        refine q_add hx hb dL_law_1319 ?_
        refine r_xld hx hb hX hbl hbA hS (i := i + 2) (z := x2) (by omega) hL ex2 dL_law_1320 ?_
        refine lv_aload_n hx hb dL_law_1321 rfl (lv_at hl 4 rfl) ?_
        refine lv_iload hx hb dL_law_1322 (lv_at hl 0 rfl) ?_
        refine q_con hx hb dL_law_1324 ?_
        refine q_add hx hb dL_law_1325 ?_
        refine r_xld hx hb hX hbl hbA hS (i := i + 3) (z := x3) (by omega) hL ex3 dL_law_1326 ?_
        refine lv_aload_n hx hb dL_law_1327 rfl (lv_at hl 1 rfl) ?_
        refine c_SWr (As := [.ref (u 0), .int (iI x1), .int (iI x2), .int (iI x3), .ref o]) (rest := []) (r := .int (iI 0)) fx hl (wr_lowest θ l hl0 S0 _ u dt (fun j => sv j 0) (fun j => sv j 1) (fun j => sv j 2) bc rf kn hcr hjH hn o nv sv9 ho hLX.1 x1 x2 x3 (by first | assumption | omega | (dsimp only; first | assumption | omega) | exact Hid.mk (by first | assumption | omega) | exact Hid.mk ⟨fun _ => by first | assumption | omega, fun _ => by first | assumption | omega⟩) (by first | assumption | omega | (dsimp only; first | assumption | omega) | exact Hid.mk (by first | assumption | omega) | exact Hid.mk ⟨fun _ => by first | assumption | omega, fun _ => by first | assumption | omega⟩) (by first | assumption | omega | (dsimp only; first | assumption | omega) | exact Hid.mk (by first | assumption | omega) | exact Hid.mk ⟨fun _ => by first | assumption | omega, fun _ => by first | assumption | omega⟩) (by first | assumption | omega | (dsimp only; first | assumption | omega) | exact Hid.mk (by first | assumption | omega) | exact Hid.mk ⟨fun _ => by first | assumption | omega, fun _ => by first | assumption | omega⟩) (by first | assumption | omega | (dsimp only; first | assumption | omega) | exact Hid.mk (by first | assumption | omega) | exact Hid.mk ⟨fun _ => by first | assumption | omega, fun _ => by first | assumption | omega⟩) (by first | assumption | omega | (dsimp only; first | assumption | omega) | exact Hid.mk (by first | assumption | omega) | exact Hid.mk ⟨fun _ => by first | assumption | omega, fun _ => by first | assumption | omega⟩)) dL_law_1328 k899 k900 k0 k901 hd_L_lowest rfl ⟨by omega, by omega⟩ (Nat.le_of_ble_eq_true rfl) ⟨by (try dsimp only); omega, by (try dsimp only); omega⟩ hS (fun x h => h.elim (fun h => h.elim (fun ⟨j, hj, e⟩ => e ▸ hu.2 j hj) (fun h => Nat.le_trans hzH.2.1 h)) (fun e => e ▸ hoθ)) (fun H1 locs hpH1 hszH1 hkH1 hS => ?_)
        obtain ⟨hcw, z9, ho1⟩ := hpH1
        have hzH1 := hz0.at hAB hS
        have hjH1 := hj0.at hAB hS
        have hm1 := lw_cls hLX hw hzH1 hkH1
        refine lv_istore (lv' := [(5, .int (iI 0)), (4, .int (iI i)), (3, .ref o), (2, .ref (w 0)), (1, .ref (u 0)), (0, .ref b)]) hx hb dL_law_1331 hl (by decide) rfl (fun ls hl => ?_)
        refine lv_aload_n hx hb dL_law_1333 rfl (lv_at hl 3 rfl) ?_
        refine lv_aload_n hx hb dL_law_1334 rfl (lv_at hl 5 rfl) ?_
        refine lv_iload hx hb dL_law_1335 (lv_at hl 1 rfl) ?_
        refine q_con hx hb dL_law_1337 ?_
        refine q_add hx hb dL_law_1338 ?_
        refine r_xld hx hb hX hbl hbA hS (i := i + 1) (z := x1) (by omega) hL ex1 dL_law_1339 ?_
        refine lv_aload_n hx hb dL_law_1340 rfl (lv_at hl 5 rfl) ?_
        refine lv_iload hx hb dL_law_1341 (lv_at hl 1 rfl) ?_
        refine q_con hx hb dL_law_1343 ?_
        refine q_add hx hb dL_law_1344 ?_
        refine r_xld hx hb hX hbl hbA hS (i := i + 2) (z := x2) (by omega) hL ex2 dL_law_1345 ?_
        refine lv_aload_n hx hb dL_law_1346 rfl (lv_at hl 5 rfl) ?_
        refine lv_iload hx hb dL_law_1347 (lv_at hl 1 rfl) ?_
        refine q_con hx hb dL_law_1349 ?_
        refine q_add hx hb dL_law_1350 ?_
        refine r_xld hx hb hX hbl hbA hS (i := i + 3) (z := x3) (by omega) hL ex3 dL_law_1351 ?_
        refine c_Vr (As := [.int (iI x1), .int (iI x2), .int (iI x3)]) (rest := []) (b := w 0) (C := RX3) (r := some (.int (iI (dI (wyI (dt x1.toNat) x2 x3.toNat))))) (st1 := [.int (iI (dI (wyI (dt x1.toNat) x2 x3.toNat)))]) fx hl (mok_lowest θ l S0 _ w r q dt sv th bc rf kn hm1 hjH1 x1 x2 x3 (by first | assumption | omega | (dsimp only; first | assumption | omega) | exact Hid.mk (by first | assumption | omega) | exact Hid.mk ⟨fun _ => by first | assumption | omega, fun _ => by first | assumption | omega⟩) (by first | assumption | omega | (dsimp only; first | assumption | omega) | exact Hid.mk (by first | assumption | omega) | exact Hid.mk ⟨fun _ => by first | assumption | omega, fun _ => by first | assumption | omega⟩) (by first | assumption | omega | (dsimp only; first | assumption | omega) | exact Hid.mk (by first | assumption | omega) | exact Hid.mk ⟨fun _ => by first | assumption | omega, fun _ => by first | assumption | omega⟩) (by first | assumption | omega | (dsimp only; first | assumption | omega) | exact Hid.mk (by first | assumption | omega) | exact Hid.mk ⟨fun _ => by first | assumption | omega, fun _ => by first | assumption | omega⟩) (by first | assumption | omega | (dsimp only; first | assumption | omega) | exact Hid.mk (by first | assumption | omega) | exact Hid.mk ⟨fun _ => by first | assumption | omega, fun _ => by first | assumption | omega⟩) (by first | assumption | omega | (dsimp only; first | assumption | omega) | exact Hid.mk (by first | assumption | omega) | exact Hid.mk ⟨fun _ => by first | assumption | omega, fun _ => by first | assumption | omega⟩)) (ob_recv hK hm1.2.2.1.1 rfl) dL_law_1352 k1292 k1293 k1294 k6 k1295 hd_X3_lowest rfl rfl ⟨by omega, by omega⟩ (Nat.le_of_ble_eq_true rfl) ⟨by (try dsimp only); omega, by (try dsimp only); omega⟩ hS (wa_b hm1.2.1 hzH1.2.1) (fun H2 locs hpH2 hszH2 hkH2 hS => ?_)
        obtain ⟨r1, q1, hm2, nr, nq⟩ := hpH2
        have hzH2 := hz0.at hAB hS
        have hL2 := lw_mod hLX hzH2 hu hcw ho1 hfr hfq hm2 nr nq hkH2
        refine lv_istore (lv' := [(6, .int (iI (dI (wyI (dt x1.toNat) x2 x3.toNat)))), (5, .int (iI 0)), (4, .int (iI i)), (3, .ref o), (2, .ref (w 0)), (1, .ref (u 0)), (0, .ref b)]) hx hb dL_law_1355 hl (by decide) rfl (fun ls hl => ?_)
        refine lv_goto (tgt := 2331) hx hb dL_law_1357 (by decide) ?_
        exact kk _ _ _ _ _ ⟨_, _, _, _, _, _, _, _, _, _, hL2⟩ hS (by omega) (by omega) (lv_sub hl [2, 3, 4, 5, 6] rfl)
      · refine lv_aload_n hx hb dL_law_1308 rfl (lv_at hl 3 rfl) ?_
        refine lv_aload_n hx hb dL_law_1309 rfl (lv_at hl 4 rfl) ?_
        refine lv_iload hx hb dL_law_1310 (lv_at hl 0 rfl) ?_
        refine q_con hx hb dL_law_1312 ?_
        refine q_add hx hb dL_law_1313 ?_
        refine r_xld hx hb hX hbl hbA hS (i := i + 1) (z := x1) (by omega) hL ex1 dL_law_1314 ?_
        refine lv_aload_n hx hb dL_law_1315 rfl (lv_at hl 4 rfl) ?_
        refine lv_iload hx hb dL_law_1316 (lv_at hl 0 rfl) ?_
        refine q_con hx hb dL_law_1318 ?_
        refine q_add hx hb dL_law_1319 ?_
        refine r_xld hx hb hX hbl hbA hS (i := i + 2) (z := x2) (by omega) hL ex2 dL_law_1320 ?_
        refine lv_aload_n hx hb dL_law_1321 rfl (lv_at hl 4 rfl) ?_
        refine lv_iload hx hb dL_law_1322 (lv_at hl 0 rfl) ?_
        refine q_con hx hb dL_law_1324 ?_
        refine q_add hx hb dL_law_1325 ?_
        refine r_xld hx hb hX hbl hbA hS (i := i + 3) (z := x3) (by omega) hL ex3 dL_law_1326 ?_
        refine lv_aload_n hx hb dL_law_1327 rfl (lv_at hl 1 rfl) ?_
        refine c_SWr (As := [.ref (u 0), .int (iI x1), .int (iI x2), .int (iI x3), .ref o]) (rest := []) (r := .int (iI 2)) fx hl (wn3_lowest θ l hl0 S0 _ u dt (fun j => sv j 0) (fun j => sv j 1) (fun j => sv j 2) bc rf kn hcr hjH hn o nv sv9 ho hLX.1 x1 x2 x3 (by first | assumption | omega | (dsimp only; first | assumption | omega) | exact Hid.mk (by first | assumption | omega) | exact Hid.mk ⟨fun _ => by first | assumption | omega, fun _ => by first | assumption | omega⟩) (by first | assumption | omega | (dsimp only; first | assumption | omega) | exact Hid.mk (by first | assumption | omega) | exact Hid.mk ⟨fun _ => by first | assumption | omega, fun _ => by first | assumption | omega⟩) (by first | assumption | omega | (dsimp only; first | assumption | omega) | exact Hid.mk (by first | assumption | omega) | exact Hid.mk ⟨fun _ => by first | assumption | omega, fun _ => by first | assumption | omega⟩) (by first | assumption | omega | (dsimp only; first | assumption | omega) | exact Hid.mk (by first | assumption | omega) | exact Hid.mk ⟨fun _ => by first | assumption | omega, fun _ => by first | assumption | omega⟩) (by first | assumption | omega | (dsimp only; first | assumption | omega) | exact Hid.mk (by first | assumption | omega) | exact Hid.mk ⟨fun _ => by first | assumption | omega, fun _ => by first | assumption | omega⟩) (by first | assumption | omega | (dsimp only; first | assumption | omega) | exact Hid.mk (by first | assumption | omega) | exact Hid.mk ⟨fun _ => by first | assumption | omega, fun _ => by first | assumption | omega⟩)) dL_law_1328 k899 k900 k0 k901 hd_L_lowest rfl ⟨by omega, by omega⟩ (Nat.le_of_ble_eq_true rfl) ⟨by (try dsimp only); omega, by (try dsimp only); omega⟩ hS (fun x h => h.elim (fun h => h.elim (fun ⟨j, hj, e⟩ => e ▸ hu.2 j hj) (fun h => Nat.le_trans hzH.2.1 h)) (fun e => e ▸ hoθ)) (fun H3 locs hpH3 hszH3 hkH3 hS => ?_)
        obtain ⟨hcw, ho1⟩ := hpH3
        have hzH1 := hz0.at hAB hS
        have hjH1 := hj0.at hAB hS
        have hm1 := lw_cls hLX hw hzH1 hkH3
        refine lv_istore (lv' := [(5, .int (iI 2)), (4, .int (iI i)), (3, .ref o), (2, .ref (w 0)), (1, .ref (u 0)), (0, .ref b)]) hx hb dL_law_1331 hl (by decide) rfl (fun ls hl => ?_)
        refine lv_aload_n hx hb dL_law_1333 rfl (lv_at hl 3 rfl) ?_
        refine lv_aload_n hx hb dL_law_1334 rfl (lv_at hl 5 rfl) ?_
        refine lv_iload hx hb dL_law_1335 (lv_at hl 1 rfl) ?_
        refine q_con hx hb dL_law_1337 ?_
        refine q_add hx hb dL_law_1338 ?_
        refine r_xld hx hb hX hbl hbA hS (i := i + 1) (z := x1) (by omega) hL ex1 dL_law_1339 ?_
        refine lv_aload_n hx hb dL_law_1340 rfl (lv_at hl 5 rfl) ?_
        refine lv_iload hx hb dL_law_1341 (lv_at hl 1 rfl) ?_
        refine q_con hx hb dL_law_1343 ?_
        refine q_add hx hb dL_law_1344 ?_
        refine r_xld hx hb hX hbl hbA hS (i := i + 2) (z := x2) (by omega) hL ex2 dL_law_1345 ?_
        refine lv_aload_n hx hb dL_law_1346 rfl (lv_at hl 5 rfl) ?_
        refine lv_iload hx hb dL_law_1347 (lv_at hl 1 rfl) ?_
        refine q_con hx hb dL_law_1349 ?_
        refine q_add hx hb dL_law_1350 ?_
        refine r_xld hx hb hX hbl hbA hS (i := i + 3) (z := x3) (by omega) hL ex3 dL_law_1351 ?_
        refine c_Vr (As := [.int (iI x1), .int (iI x2), .int (iI x3)]) (rest := []) (b := w 0) (C := RX3) (r := some (.int (iI 0))) (st1 := [.int (iI 0)]) fx hl (mno3_lowest θ l S0 _ w r q dt sv th bc rf kn hm1 hjH1 x1 x2 x3 (by first | assumption | omega | (dsimp only; first | assumption | omega) | exact Hid.mk (by first | assumption | omega) | exact Hid.mk ⟨fun _ => by first | assumption | omega, fun _ => by first | assumption | omega⟩) (by first | assumption | omega | (dsimp only; first | assumption | omega) | exact Hid.mk (by first | assumption | omega) | exact Hid.mk ⟨fun _ => by first | assumption | omega, fun _ => by first | assumption | omega⟩) (by first | assumption | omega | (dsimp only; first | assumption | omega) | exact Hid.mk (by first | assumption | omega) | exact Hid.mk ⟨fun _ => by first | assumption | omega, fun _ => by first | assumption | omega⟩) (by first | assumption | omega | (dsimp only; first | assumption | omega) | exact Hid.mk (by first | assumption | omega) | exact Hid.mk ⟨fun _ => by first | assumption | omega, fun _ => by first | assumption | omega⟩) (by first | assumption | omega | (dsimp only; first | assumption | omega) | exact Hid.mk (by first | assumption | omega) | exact Hid.mk ⟨fun _ => by first | assumption | omega, fun _ => by first | assumption | omega⟩) (by first | assumption | omega | (dsimp only; first | assumption | omega) | exact Hid.mk (by first | assumption | omega) | exact Hid.mk ⟨fun _ => by first | assumption | omega, fun _ => by first | assumption | omega⟩)) (ob_recv hK hm1.2.2.1.1 rfl) dL_law_1352 k1292 k1293 k1294 k6 k1295 hd_X3_lowest rfl rfl ⟨by omega, by omega⟩ (Nat.le_of_ble_eq_true rfl) ⟨by (try dsimp only); omega, by (try dsimp only); omega⟩ hS (wa_b hm1.2.1 hzH1.2.1) (fun H4 locs hpH4 hszH4 hkH4 hS => ?_)
        obtain ⟨r1, q1, hm2, nr, nq⟩ := hpH4
        have hzH2 := hz0.at hAB hS
        have hL2 := lw_mod hLX hzH2 hu hcw ho1 hfr hfq hm2 nr nq hkH4
        refine lv_istore (lv' := [(6, .int (iI 0)), (5, .int (iI 2)), (4, .int (iI i)), (3, .ref o), (2, .ref (w 0)), (1, .ref (u 0)), (0, .ref b)]) hx hb dL_law_1355 hl (by decide) rfl (fun ls hl => ?_)
        refine lv_goto (tgt := 2331) hx hb dL_law_1357 (by decide) ?_
        exact kk _ _ _ _ _ ⟨_, _, _, _, _, _, _, _, _, _, hL2⟩ hS (by omega) (by omega) (lv_sub hl [2, 3, 4, 5, 6] rfl)
    · refine lv_aload_n hx hb dL_law_1308 rfl (lv_at hl 3 rfl) ?_
      refine lv_aload_n hx hb dL_law_1309 rfl (lv_at hl 4 rfl) ?_
      refine lv_iload hx hb dL_law_1310 (lv_at hl 0 rfl) ?_
      refine q_con hx hb dL_law_1312 ?_
      refine q_add hx hb dL_law_1313 ?_
      refine r_xld hx hb hX hbl hbA hS (i := i + 1) (z := x1) (by omega) hL ex1 dL_law_1314 ?_
      refine lv_aload_n hx hb dL_law_1315 rfl (lv_at hl 4 rfl) ?_
      refine lv_iload hx hb dL_law_1316 (lv_at hl 0 rfl) ?_
      refine q_con hx hb dL_law_1318 ?_
      refine q_add hx hb dL_law_1319 ?_
      refine r_xld hx hb hX hbl hbA hS (i := i + 2) (z := x2) (by omega) hL ex2 dL_law_1320 ?_
      refine lv_aload_n hx hb dL_law_1321 rfl (lv_at hl 4 rfl) ?_
      refine lv_iload hx hb dL_law_1322 (lv_at hl 0 rfl) ?_
      refine q_con hx hb dL_law_1324 ?_
      refine q_add hx hb dL_law_1325 ?_
      refine r_xld hx hb hX hbl hbA hS (i := i + 3) (z := x3) (by omega) hL ex3 dL_law_1326 ?_
      refine lv_aload_n hx hb dL_law_1327 rfl (lv_at hl 1 rfl) ?_
      refine c_SWr (As := [.ref (u 0), .int (iI x1), .int (iI x2), .int (iI x3), .ref o]) (rest := []) (r := .int (iI 2)) fx hl (wn2_lowest θ l hl0 S0 _ u dt (fun j => sv j 0) (fun j => sv j 1) (fun j => sv j 2) bc rf kn hcr hjH hn o nv sv9 ho hLX.1 x1 x2 x3 (by first | assumption | omega | (dsimp only; first | assumption | omega) | exact Hid.mk (by first | assumption | omega) | exact Hid.mk ⟨fun _ => by first | assumption | omega, fun _ => by first | assumption | omega⟩) (by first | assumption | omega | (dsimp only; first | assumption | omega) | exact Hid.mk (by first | assumption | omega) | exact Hid.mk ⟨fun _ => by first | assumption | omega, fun _ => by first | assumption | omega⟩) (by first | assumption | omega | (dsimp only; first | assumption | omega) | exact Hid.mk (by first | assumption | omega) | exact Hid.mk ⟨fun _ => by first | assumption | omega, fun _ => by first | assumption | omega⟩) (by first | assumption | omega | (dsimp only; first | assumption | omega) | exact Hid.mk (by first | assumption | omega) | exact Hid.mk ⟨fun _ => by first | assumption | omega, fun _ => by first | assumption | omega⟩) (by first | assumption | omega | (dsimp only; first | assumption | omega) | exact Hid.mk (by first | assumption | omega) | exact Hid.mk ⟨fun _ => by first | assumption | omega, fun _ => by first | assumption | omega⟩)) dL_law_1328 k899 k900 k0 k901 hd_L_lowest rfl ⟨by omega, by omega⟩ (Nat.le_of_ble_eq_true rfl) ⟨by (try dsimp only); omega, by (try dsimp only); omega⟩ hS (fun x h => h.elim (fun h => h.elim (fun ⟨j, hj, e⟩ => e ▸ hu.2 j hj) (fun h => Nat.le_trans hzH.2.1 h)) (fun e => e ▸ hoθ)) (fun H5 locs hpH5 hszH5 hkH5 hS => ?_)
      obtain ⟨hcw, ho1⟩ := hpH5
      have hzH1 := hz0.at hAB hS
      have hjH1 := hj0.at hAB hS
      have hm1 := lw_cls hLX hw hzH1 hkH5
      refine lv_istore (lv' := [(5, .int (iI 2)), (4, .int (iI i)), (3, .ref o), (2, .ref (w 0)), (1, .ref (u 0)), (0, .ref b)]) hx hb dL_law_1331 hl (by decide) rfl (fun ls hl => ?_)
      refine lv_aload_n hx hb dL_law_1333 rfl (lv_at hl 3 rfl) ?_
      refine lv_aload_n hx hb dL_law_1334 rfl (lv_at hl 5 rfl) ?_
      refine lv_iload hx hb dL_law_1335 (lv_at hl 1 rfl) ?_
      refine q_con hx hb dL_law_1337 ?_
      refine q_add hx hb dL_law_1338 ?_
      refine r_xld hx hb hX hbl hbA hS (i := i + 1) (z := x1) (by omega) hL ex1 dL_law_1339 ?_
      refine lv_aload_n hx hb dL_law_1340 rfl (lv_at hl 5 rfl) ?_
      refine lv_iload hx hb dL_law_1341 (lv_at hl 1 rfl) ?_
      refine q_con hx hb dL_law_1343 ?_
      refine q_add hx hb dL_law_1344 ?_
      refine r_xld hx hb hX hbl hbA hS (i := i + 2) (z := x2) (by omega) hL ex2 dL_law_1345 ?_
      refine lv_aload_n hx hb dL_law_1346 rfl (lv_at hl 5 rfl) ?_
      refine lv_iload hx hb dL_law_1347 (lv_at hl 1 rfl) ?_
      refine q_con hx hb dL_law_1349 ?_
      refine q_add hx hb dL_law_1350 ?_
      refine r_xld hx hb hX hbl hbA hS (i := i + 3) (z := x3) (by omega) hL ex3 dL_law_1351 ?_
      refine c_Vr (As := [.int (iI x1), .int (iI x2), .int (iI x3)]) (rest := []) (b := w 0) (C := RX3) (r := some (.int (iI 0))) (st1 := [.int (iI 0)]) fx hl (mno2_lowest θ l S0 _ w r q dt sv th bc rf kn hm1 hjH1 x1 x2 x3 (by first | assumption | omega | (dsimp only; first | assumption | omega) | exact Hid.mk (by first | assumption | omega) | exact Hid.mk ⟨fun _ => by first | assumption | omega, fun _ => by first | assumption | omega⟩) (by first | assumption | omega | (dsimp only; first | assumption | omega) | exact Hid.mk (by first | assumption | omega) | exact Hid.mk ⟨fun _ => by first | assumption | omega, fun _ => by first | assumption | omega⟩) (by first | assumption | omega | (dsimp only; first | assumption | omega) | exact Hid.mk (by first | assumption | omega) | exact Hid.mk ⟨fun _ => by first | assumption | omega, fun _ => by first | assumption | omega⟩) (by first | assumption | omega | (dsimp only; first | assumption | omega) | exact Hid.mk (by first | assumption | omega) | exact Hid.mk ⟨fun _ => by first | assumption | omega, fun _ => by first | assumption | omega⟩) (by first | assumption | omega | (dsimp only; first | assumption | omega) | exact Hid.mk (by first | assumption | omega) | exact Hid.mk ⟨fun _ => by first | assumption | omega, fun _ => by first | assumption | omega⟩)) (ob_recv hK hm1.2.2.1.1 rfl) dL_law_1352 k1292 k1293 k1294 k6 k1295 hd_X3_lowest rfl rfl ⟨by omega, by omega⟩ (Nat.le_of_ble_eq_true rfl) ⟨by (try dsimp only); omega, by (try dsimp only); omega⟩ hS (wa_b hm1.2.1 hzH1.2.1) (fun H6 locs hpH6 hszH6 hkH6 hS => ?_)
      obtain ⟨r1, q1, hm2, nr, nq⟩ := hpH6
      have hzH2 := hz0.at hAB hS
      have hL2 := lw_mod hLX hzH2 hu hcw ho1 hfr hfq hm2 nr nq hkH6
      refine lv_istore (lv' := [(6, .int (iI 0)), (5, .int (iI 2)), (4, .int (iI i)), (3, .ref o), (2, .ref (w 0)), (1, .ref (u 0)), (0, .ref b)]) hx hb dL_law_1355 hl (by decide) rfl (fun ls hl => ?_)
      refine lv_goto (tgt := 2331) hx hb dL_law_1357 (by decide) ?_
      exact kk _ _ _ _ _ ⟨_, _, _, _, _, _, _, _, _, _, hL2⟩ hS (by omega) (by omega) (lv_sub hl [2, 3, 4, 5, 6] rfl)
  · refine lv_aload_n hx hb dL_law_1308 rfl (lv_at hl 3 rfl) ?_
    refine lv_aload_n hx hb dL_law_1309 rfl (lv_at hl 4 rfl) ?_
    refine lv_iload hx hb dL_law_1310 (lv_at hl 0 rfl) ?_
    refine q_con hx hb dL_law_1312 ?_
    refine q_add hx hb dL_law_1313 ?_
    refine r_xld hx hb hX hbl hbA hS (i := i + 1) (z := x1) (by omega) hL ex1 dL_law_1314 ?_
    refine lv_aload_n hx hb dL_law_1315 rfl (lv_at hl 4 rfl) ?_
    refine lv_iload hx hb dL_law_1316 (lv_at hl 0 rfl) ?_
    refine q_con hx hb dL_law_1318 ?_
    refine q_add hx hb dL_law_1319 ?_
    refine r_xld hx hb hX hbl hbA hS (i := i + 2) (z := x2) (by omega) hL ex2 dL_law_1320 ?_
    refine lv_aload_n hx hb dL_law_1321 rfl (lv_at hl 4 rfl) ?_
    refine lv_iload hx hb dL_law_1322 (lv_at hl 0 rfl) ?_
    refine q_con hx hb dL_law_1324 ?_
    refine q_add hx hb dL_law_1325 ?_
    refine r_xld hx hb hX hbl hbA hS (i := i + 3) (z := x3) (by omega) hL ex3 dL_law_1326 ?_
    refine lv_aload_n hx hb dL_law_1327 rfl (lv_at hl 1 rfl) ?_
    refine c_SWr (As := [.ref (u 0), .int (iI x1), .int (iI x2), .int (iI x3), .ref o]) (rest := []) (r := .int (iI 1)) fx hl (wn1_lowest θ l hl0 S0 _ u dt (fun j => sv j 0) (fun j => sv j 1) (fun j => sv j 2) bc rf kn hcr hjH hn o nv sv9 ho hLX.1 x1 x2 x3 (by first | assumption | omega | (dsimp only; first | assumption | omega) | exact Hid.mk (by first | assumption | omega) | exact Hid.mk ⟨fun _ => by first | assumption | omega, fun _ => by first | assumption | omega⟩) (by first | assumption | omega | (dsimp only; first | assumption | omega) | exact Hid.mk (by first | assumption | omega) | exact Hid.mk ⟨fun _ => by first | assumption | omega, fun _ => by first | assumption | omega⟩) (by first | assumption | omega | (dsimp only; first | assumption | omega) | exact Hid.mk (by first | assumption | omega) | exact Hid.mk ⟨fun _ => by first | assumption | omega, fun _ => by first | assumption | omega⟩) (by first | assumption | omega | (dsimp only; first | assumption | omega) | exact Hid.mk (by first | assumption | omega) | exact Hid.mk ⟨fun _ => by first | assumption | omega, fun _ => by first | assumption | omega⟩)) dL_law_1328 k899 k900 k0 k901 hd_L_lowest rfl ⟨by omega, by omega⟩ (Nat.le_of_ble_eq_true rfl) ⟨by (try dsimp only); omega, by (try dsimp only); omega⟩ hS (fun x h => h.elim (fun h => h.elim (fun ⟨j, hj, e⟩ => e ▸ hu.2 j hj) (fun h => Nat.le_trans hzH.2.1 h)) (fun e => e ▸ hoθ)) (fun H7 locs hpH7 hszH7 hkH7 hS => ?_)
    obtain ⟨hcw, ho1⟩ := hpH7
    have hzH1 := hz0.at hAB hS
    have hjH1 := hj0.at hAB hS
    have hm1 := lw_cls hLX hw hzH1 hkH7
    refine lv_istore (lv' := [(5, .int (iI 1)), (4, .int (iI i)), (3, .ref o), (2, .ref (w 0)), (1, .ref (u 0)), (0, .ref b)]) hx hb dL_law_1331 hl (by decide) rfl (fun ls hl => ?_)
    refine lv_aload_n hx hb dL_law_1333 rfl (lv_at hl 3 rfl) ?_
    refine lv_aload_n hx hb dL_law_1334 rfl (lv_at hl 5 rfl) ?_
    refine lv_iload hx hb dL_law_1335 (lv_at hl 1 rfl) ?_
    refine q_con hx hb dL_law_1337 ?_
    refine q_add hx hb dL_law_1338 ?_
    refine r_xld hx hb hX hbl hbA hS (i := i + 1) (z := x1) (by omega) hL ex1 dL_law_1339 ?_
    refine lv_aload_n hx hb dL_law_1340 rfl (lv_at hl 5 rfl) ?_
    refine lv_iload hx hb dL_law_1341 (lv_at hl 1 rfl) ?_
    refine q_con hx hb dL_law_1343 ?_
    refine q_add hx hb dL_law_1344 ?_
    refine r_xld hx hb hX hbl hbA hS (i := i + 2) (z := x2) (by omega) hL ex2 dL_law_1345 ?_
    refine lv_aload_n hx hb dL_law_1346 rfl (lv_at hl 5 rfl) ?_
    refine lv_iload hx hb dL_law_1347 (lv_at hl 1 rfl) ?_
    refine q_con hx hb dL_law_1349 ?_
    refine q_add hx hb dL_law_1350 ?_
    refine r_xld hx hb hX hbl hbA hS (i := i + 3) (z := x3) (by omega) hL ex3 dL_law_1351 ?_
    refine c_Vr (As := [.int (iI x1), .int (iI x2), .int (iI x3)]) (rest := []) (b := w 0) (C := RX3) (r := some (.int (iI 0))) (st1 := [.int (iI 0)]) fx hl (mno1_lowest θ l S0 _ w r q dt sv th bc rf kn hm1 hjH1 x1 x2 x3 (by first | assumption | omega | (dsimp only; first | assumption | omega) | exact Hid.mk (by first | assumption | omega) | exact Hid.mk ⟨fun _ => by first | assumption | omega, fun _ => by first | assumption | omega⟩) (by first | assumption | omega | (dsimp only; first | assumption | omega) | exact Hid.mk (by first | assumption | omega) | exact Hid.mk ⟨fun _ => by first | assumption | omega, fun _ => by first | assumption | omega⟩) (by first | assumption | omega | (dsimp only; first | assumption | omega) | exact Hid.mk (by first | assumption | omega) | exact Hid.mk ⟨fun _ => by first | assumption | omega, fun _ => by first | assumption | omega⟩) (by first | assumption | omega | (dsimp only; first | assumption | omega) | exact Hid.mk (by first | assumption | omega) | exact Hid.mk ⟨fun _ => by first | assumption | omega, fun _ => by first | assumption | omega⟩)) (ob_recv hK hm1.2.2.1.1 rfl) dL_law_1352 k1292 k1293 k1294 k6 k1295 hd_X3_lowest rfl rfl ⟨by omega, by omega⟩ (Nat.le_of_ble_eq_true rfl) ⟨by (try dsimp only); omega, by (try dsimp only); omega⟩ hS (wa_b hm1.2.1 hzH1.2.1) (fun H8 locs hpH8 hszH8 hkH8 hS => ?_)
    obtain ⟨r1, q1, hm2, nr, nq⟩ := hpH8
    have hzH2 := hz0.at hAB hS
    have hL2 := lw_mod hLX hzH2 hu hcw ho1 hfr hfq hm2 nr nq hkH8
    refine lv_istore (lv' := [(6, .int (iI 0)), (5, .int (iI 1)), (4, .int (iI i)), (3, .ref o), (2, .ref (w 0)), (1, .ref (u 0)), (0, .ref b)]) hx hb dL_law_1355 hl (by decide) rfl (fun ls hl => ?_)
    refine lv_goto (tgt := 2331) hx hb dL_law_1357 (by decide) ?_
    exact kk _ _ _ _ _ ⟨_, _, _, _, _, _, _, _, _, _, hL2⟩ hS (by omega) (by omega) (lv_sub hl [2, 3, 4, 5, 6] rfl)

set_option maxHeartbeats 4000000 in
set_option maxRecDepth 100000 in
theorem lc_met {p : Program} {l : Launch} {e : Env} {R : Room} {s : State} {m : MethodId} {args : Array Value} {below : List Frame} {meth : Method} {c : Code} {Q : State → Prop} {θ : TH} {S0 : State} (fx : FX p m c cL_law 7 s args yL_law.cls S0) (hl0 : l.stackTraces = false) (hz0 : SZ θ S0 s.heap) (hj0 : SJ θ S0 s.heap) (hn : NX S0) {u w : Nat → Nat} {o b L : Nat} {xs : Nat → Int32} (hLX : LX u w o) (hoθ : θ.2.2.2 ≤ o) (hX : va_X b L xs s s.heap) (hbl : b < s.heap.size) (hbA : ¬ AJ θ b) (hL : L ≤ 2560) (hRF : 1000 ≤ R.frames ∧ 1000 ≤ R.locals) {H : Heap} {locs : List Loc} {cells slots : Nat} {ls : Array Slot} {i : Int} (hi : 0 ≤ i ∧ i + 5 ≤ (L : Int)) (hw : LWE θ S0 u w o H) (hS : va_S (AJ θ) s.heap H locs) (hRc : cells + 400 ≤ R.cells ∧ slots + 7000 ≤ R.slots) (hl : lv_has ls 7 [(4, .int (iI i)), (3, .ref o), (2, .ref (w 0)), (1, .ref (u 0)), (0, .ref b)]) (kk : LK p l e R s m args below meth c Q θ S0 u w o b i cells slots 2331) : W p l e R s m args below meth c H locs cells slots Q (F0 m 1360 ls []) := by
  obtain ⟨hx, hb, hml, hown, hts⟩ := id fx.1
  have hAB : ∀ x : Nat, AJ θ x → θ.2.2.2 ≤ x := fun _ h => h
  obtain ⟨r, q, dt, sv, th, bc, rf, kn, nv, sv9, hw⟩ := hw
  obtain ⟨hcr, hmr, ho, hfr, hfq⟩ := id hw
  have hzH := hz0.at hAB hS
  have hjH := hj0.at hAB hS
  have hK := sz_K fx.2 hz0
  have hu := hcr.2.1
  obtain ⟨x1, ex1⟩ : ∃ z : Int, z = (xs (i + 1).toNat).toInt := ⟨_, rfl⟩
  have bx1 := x32_b ex1
  obtain ⟨x2, ex2⟩ : ∃ z : Int, z = (xs (i + 2).toNat).toInt := ⟨_, rfl⟩
  have bx2 := x32_b ex2
  obtain ⟨x3, ex3⟩ : ∃ z : Int, z = (xs (i + 3).toNat).toInt := ⟨_, rfl⟩
  have bx3 := x32_b ex3
  by_cases hc1 : 0 ≤ x1 ∧ x1 < 6
  · by_cases hc2 : -1200 ≤ x2 ∧ x2 ≤ 1200
    · by_cases hc3 : 0 ≤ x3 ∧ x3 ≤ 48
      · refine lv_aload_n hx hb dL_law_1360 rfl (lv_at hl 3 rfl) ?_
        refine lv_aload_n hx hb dL_law_1361 rfl (lv_at hl 4 rfl) ?_
        refine lv_iload hx hb dL_law_1362 (lv_at hl 0 rfl) ?_
        refine q_con hx hb dL_law_1364 ?_
        refine q_add hx hb dL_law_1365 ?_
        refine r_xld hx hb hX hbl hbA hS (i := i + 1) (z := x1) (by omega) hL ex1 dL_law_1366 ?_
        refine lv_aload_n hx hb dL_law_1367 rfl (lv_at hl 4 rfl) ?_
        refine lv_iload hx hb dL_law_1368 (lv_at hl 0 rfl) ?_
        refine q_con hx hb dL_law_1370 ?_
        refine q_add hx hb dL_law_1371 ?_
        refine r_xld hx hb hX hbl hbA hS (i := i + 2) (z := x2) (by omega) hL ex2 dL_law_1372 ?_
        refine lv_aload_n hx hb dL_law_1373 rfl (lv_at hl 4 rfl) ?_
        refine lv_iload hx hb dL_law_1374 (lv_at hl 0 rfl) ?_
        refine q_con hx hb dL_law_1376 ?_
        refine q_add hx hb dL_law_1377 ?_
        refine r_xld hx hb hX hbl hbA hS (i := i + 3) (z := x3) (by omega) hL ex3 dL_law_1378 ?_
        refine lv_aload_n hx hb dL_law_1379 rfl (lv_at hl 1 rfl) ?_
        refine c_SWr (As := [.ref (u 0), .int (iI x1), .int (iI x2), .int (iI x3), .ref o]) (rest := []) (r := .int (iI 0)) fx hl (wr_met θ l hl0 S0 _ u dt (fun j => sv j 0) (fun j => sv j 1) (fun j => sv j 2) bc rf kn hcr hjH hn o nv sv9 ho hLX.1 x1 x2 x3 (by first | assumption | omega | (dsimp only; first | assumption | omega) | exact Hid.mk (by first | assumption | omega) | exact Hid.mk ⟨fun _ => by first | assumption | omega, fun _ => by first | assumption | omega⟩) (by first | assumption | omega | (dsimp only; first | assumption | omega) | exact Hid.mk (by first | assumption | omega) | exact Hid.mk ⟨fun _ => by first | assumption | omega, fun _ => by first | assumption | omega⟩) (by first | assumption | omega | (dsimp only; first | assumption | omega) | exact Hid.mk (by first | assumption | omega) | exact Hid.mk ⟨fun _ => by first | assumption | omega, fun _ => by first | assumption | omega⟩)) dL_law_1380 k906 k907 k0 k908 hd_L_met rfl ⟨by omega, by omega⟩ (Nat.le_of_ble_eq_true rfl) ⟨by (try dsimp only); omega, by (try dsimp only); omega⟩ hS (fun x h => h.elim (fun h => h.elim (fun ⟨j, hj, e⟩ => e ▸ hu.2 j hj) (fun h => Nat.le_trans hzH.2.1 h)) (fun e => e ▸ hoθ)) (fun H1 locs hpH1 hszH1 hkH1 hS => ?_)
        obtain ⟨hcw, z9, ho1⟩ := hpH1
        have hzH1 := hz0.at hAB hS
        have hjH1 := hj0.at hAB hS
        have hm1 := lw_cls hLX hw hzH1 hkH1
        refine lv_istore (lv' := [(5, .int (iI 0)), (4, .int (iI i)), (3, .ref o), (2, .ref (w 0)), (1, .ref (u 0)), (0, .ref b)]) hx hb dL_law_1383 hl (by decide) rfl (fun ls hl => ?_)
        refine lv_aload_n hx hb dL_law_1385 rfl (lv_at hl 3 rfl) ?_
        refine lv_aload_n hx hb dL_law_1386 rfl (lv_at hl 5 rfl) ?_
        refine lv_iload hx hb dL_law_1387 (lv_at hl 1 rfl) ?_
        refine q_con hx hb dL_law_1389 ?_
        refine q_add hx hb dL_law_1390 ?_
        refine r_xld hx hb hX hbl hbA hS (i := i + 1) (z := x1) (by omega) hL ex1 dL_law_1391 ?_
        refine lv_aload_n hx hb dL_law_1392 rfl (lv_at hl 5 rfl) ?_
        refine lv_iload hx hb dL_law_1393 (lv_at hl 1 rfl) ?_
        refine q_con hx hb dL_law_1395 ?_
        refine q_add hx hb dL_law_1396 ?_
        refine r_xld hx hb hX hbl hbA hS (i := i + 2) (z := x2) (by omega) hL ex2 dL_law_1397 ?_
        refine lv_aload_n hx hb dL_law_1398 rfl (lv_at hl 5 rfl) ?_
        refine lv_iload hx hb dL_law_1399 (lv_at hl 1 rfl) ?_
        refine q_con hx hb dL_law_1401 ?_
        refine q_add hx hb dL_law_1402 ?_
        refine r_xld hx hb hX hbl hbA hS (i := i + 3) (z := x3) (by omega) hL ex3 dL_law_1403 ?_
        refine c_XP (As := [.int (iI x1), .int (iI x2), .int (iI x3)]) (rest := []) (b := w 0) (C := RX3) fx hl (mok_met θ l S0 _ w r q dt sv th bc rf kn hm1 hjH1 x1 x2 x3 (by first | assumption | omega | (dsimp only; first | assumption | omega) | exact Hid.mk (by first | assumption | omega) | exact Hid.mk ⟨fun _ => by first | assumption | omega, fun _ => by first | assumption | omega⟩) (by first | assumption | omega | (dsimp only; first | assumption | omega) | exact Hid.mk (by first | assumption | omega) | exact Hid.mk ⟨fun _ => by first | assumption | omega, fun _ => by first | assumption | omega⟩) (by first | assumption | omega | (dsimp only; first | assumption | omega) | exact Hid.mk (by first | assumption | omega) | exact Hid.mk ⟨fun _ => by first | assumption | omega, fun _ => by first | assumption | omega⟩) (by first | assumption | omega | (dsimp only; first | assumption | omega) | exact Hid.mk (by first | assumption | omega) | exact Hid.mk ⟨fun _ => by first | assumption | omega, fun _ => by first | assumption | omega⟩) (by first | assumption | omega | (dsimp only; first | assumption | omega) | exact Hid.mk (by first | assumption | omega) | exact Hid.mk ⟨fun _ => by first | assumption | omega, fun _ => by first | assumption | omega⟩) (by first | assumption | omega | (dsimp only; first | assumption | omega) | exact Hid.mk (by first | assumption | omega) | exact Hid.mk ⟨fun _ => by first | assumption | omega, fun _ => by first | assumption | omega⟩)) (ob_recv hK hm1.2.2.1.1 rfl) dL_law_1404 k1415 k1416 k1417 k6 k1418 hd_X3_met rfl ⟨by omega, by omega⟩ (Nat.le_of_ble_eq_true rfl) ⟨by (try dsimp only); omega, by (try dsimp only); omega⟩ hS (wa_b hm1.2.1 hzH1.2.1) (fun x3 H2 locs hpH2 hszH2 hkH2 hS => ?_)
        obtain ⟨r1, q1, hm2, nr, nq⟩ := hpH2
        have hzH2 := hz0.at hAB hS
        have hL2 := lw_mod hLX hzH2 hu hcw ho1 hfr hfq hm2 nr nq hkH2
        refine lv_astore (lv' := [(6, .ref x3), (5, .int (iI 0)), (4, .int (iI i)), (3, .ref o), (2, .ref (w 0)), (1, .ref (u 0)), (0, .ref b)]) hx hb dL_law_1407 hl (by decide) rfl (fun ls hl => ?_)
        refine lv_goto (tgt := 2331) hx hb dL_law_1409 (by decide) ?_
        exact kk _ _ _ _ _ ⟨_, _, _, _, _, _, _, _, _, _, hL2⟩ hS (by omega) (by omega) (lv_sub hl [2, 3, 4, 5, 6] rfl)
      · refine lv_aload_n hx hb dL_law_1360 rfl (lv_at hl 3 rfl) ?_
        refine lv_aload_n hx hb dL_law_1361 rfl (lv_at hl 4 rfl) ?_
        refine lv_iload hx hb dL_law_1362 (lv_at hl 0 rfl) ?_
        refine q_con hx hb dL_law_1364 ?_
        refine q_add hx hb dL_law_1365 ?_
        refine r_xld hx hb hX hbl hbA hS (i := i + 1) (z := x1) (by omega) hL ex1 dL_law_1366 ?_
        refine lv_aload_n hx hb dL_law_1367 rfl (lv_at hl 4 rfl) ?_
        refine lv_iload hx hb dL_law_1368 (lv_at hl 0 rfl) ?_
        refine q_con hx hb dL_law_1370 ?_
        refine q_add hx hb dL_law_1371 ?_
        refine r_xld hx hb hX hbl hbA hS (i := i + 2) (z := x2) (by omega) hL ex2 dL_law_1372 ?_
        refine lv_aload_n hx hb dL_law_1373 rfl (lv_at hl 4 rfl) ?_
        refine lv_iload hx hb dL_law_1374 (lv_at hl 0 rfl) ?_
        refine q_con hx hb dL_law_1376 ?_
        refine q_add hx hb dL_law_1377 ?_
        refine r_xld hx hb hX hbl hbA hS (i := i + 3) (z := x3) (by omega) hL ex3 dL_law_1378 ?_
        refine lv_aload_n hx hb dL_law_1379 rfl (lv_at hl 1 rfl) ?_
        refine c_SWr (As := [.ref (u 0), .int (iI x1), .int (iI x2), .int (iI x3), .ref o]) (rest := []) (r := .int (iI 2)) fx hl (wn3_met θ l hl0 S0 _ u dt (fun j => sv j 0) (fun j => sv j 1) (fun j => sv j 2) bc rf kn hcr hjH hn o nv sv9 ho hLX.1 x1 x2 x3 (by first | assumption | omega | (dsimp only; first | assumption | omega) | exact Hid.mk (by first | assumption | omega) | exact Hid.mk ⟨fun _ => by first | assumption | omega, fun _ => by first | assumption | omega⟩) (by first | assumption | omega | (dsimp only; first | assumption | omega) | exact Hid.mk (by first | assumption | omega) | exact Hid.mk ⟨fun _ => by first | assumption | omega, fun _ => by first | assumption | omega⟩) (by first | assumption | omega | (dsimp only; first | assumption | omega) | exact Hid.mk (by first | assumption | omega) | exact Hid.mk ⟨fun _ => by first | assumption | omega, fun _ => by first | assumption | omega⟩) (by first | assumption | omega | (dsimp only; first | assumption | omega) | exact Hid.mk (by first | assumption | omega) | exact Hid.mk ⟨fun _ => by first | assumption | omega, fun _ => by first | assumption | omega⟩) (by first | assumption | omega | (dsimp only; first | assumption | omega) | exact Hid.mk (by first | assumption | omega) | exact Hid.mk ⟨fun _ => by first | assumption | omega, fun _ => by first | assumption | omega⟩) (by first | assumption | omega | (dsimp only; first | assumption | omega) | exact Hid.mk (by first | assumption | omega) | exact Hid.mk ⟨fun _ => by first | assumption | omega, fun _ => by first | assumption | omega⟩)) dL_law_1380 k906 k907 k0 k908 hd_L_met rfl ⟨by omega, by omega⟩ (Nat.le_of_ble_eq_true rfl) ⟨by (try dsimp only); omega, by (try dsimp only); omega⟩ hS (fun x h => h.elim (fun h => h.elim (fun ⟨j, hj, e⟩ => e ▸ hu.2 j hj) (fun h => Nat.le_trans hzH.2.1 h)) (fun e => e ▸ hoθ)) (fun H4 locs hpH4 hszH4 hkH4 hS => ?_)
        obtain ⟨hcw, ho1⟩ := hpH4
        have hzH1 := hz0.at hAB hS
        have hjH1 := hj0.at hAB hS
        have hm1 := lw_cls hLX hw hzH1 hkH4
        refine lv_istore (lv' := [(5, .int (iI 2)), (4, .int (iI i)), (3, .ref o), (2, .ref (w 0)), (1, .ref (u 0)), (0, .ref b)]) hx hb dL_law_1383 hl (by decide) rfl (fun ls hl => ?_)
        refine lv_aload_n hx hb dL_law_1385 rfl (lv_at hl 3 rfl) ?_
        refine lv_aload_n hx hb dL_law_1386 rfl (lv_at hl 5 rfl) ?_
        refine lv_iload hx hb dL_law_1387 (lv_at hl 1 rfl) ?_
        refine q_con hx hb dL_law_1389 ?_
        refine q_add hx hb dL_law_1390 ?_
        refine r_xld hx hb hX hbl hbA hS (i := i + 1) (z := x1) (by omega) hL ex1 dL_law_1391 ?_
        refine lv_aload_n hx hb dL_law_1392 rfl (lv_at hl 5 rfl) ?_
        refine lv_iload hx hb dL_law_1393 (lv_at hl 1 rfl) ?_
        refine q_con hx hb dL_law_1395 ?_
        refine q_add hx hb dL_law_1396 ?_
        refine r_xld hx hb hX hbl hbA hS (i := i + 2) (z := x2) (by omega) hL ex2 dL_law_1397 ?_
        refine lv_aload_n hx hb dL_law_1398 rfl (lv_at hl 5 rfl) ?_
        refine lv_iload hx hb dL_law_1399 (lv_at hl 1 rfl) ?_
        refine q_con hx hb dL_law_1401 ?_
        refine q_add hx hb dL_law_1402 ?_
        refine r_xld hx hb hX hbl hbA hS (i := i + 3) (z := x3) (by omega) hL ex3 dL_law_1403 ?_
        refine c_XP (As := [.int (iI x1), .int (iI x2), .int (iI x3)]) (rest := []) (b := w 0) (C := RX3) fx hl (mno3_met θ l S0 _ w r q dt sv th bc rf kn hm1 hjH1 x1 x2 x3 (by first | assumption | omega | (dsimp only; first | assumption | omega) | exact Hid.mk (by first | assumption | omega) | exact Hid.mk ⟨fun _ => by first | assumption | omega, fun _ => by first | assumption | omega⟩) (by first | assumption | omega | (dsimp only; first | assumption | omega) | exact Hid.mk (by first | assumption | omega) | exact Hid.mk ⟨fun _ => by first | assumption | omega, fun _ => by first | assumption | omega⟩) (by first | assumption | omega | (dsimp only; first | assumption | omega) | exact Hid.mk (by first | assumption | omega) | exact Hid.mk ⟨fun _ => by first | assumption | omega, fun _ => by first | assumption | omega⟩) (by first | assumption | omega | (dsimp only; first | assumption | omega) | exact Hid.mk (by first | assumption | omega) | exact Hid.mk ⟨fun _ => by first | assumption | omega, fun _ => by first | assumption | omega⟩) (by first | assumption | omega | (dsimp only; first | assumption | omega) | exact Hid.mk (by first | assumption | omega) | exact Hid.mk ⟨fun _ => by first | assumption | omega, fun _ => by first | assumption | omega⟩) (by first | assumption | omega | (dsimp only; first | assumption | omega) | exact Hid.mk (by first | assumption | omega) | exact Hid.mk ⟨fun _ => by first | assumption | omega, fun _ => by first | assumption | omega⟩)) (ob_recv hK hm1.2.2.1.1 rfl) dL_law_1404 k1415 k1416 k1417 k6 k1418 hd_X3_met rfl ⟨by omega, by omega⟩ (Nat.le_of_ble_eq_true rfl) ⟨by (try dsimp only); omega, by (try dsimp only); omega⟩ hS (wa_b hm1.2.1 hzH1.2.1) (fun x6 H5 locs hpH5 hszH5 hkH5 hS => ?_)
        obtain ⟨r1, q1, hm2, nr, nq⟩ := hpH5
        have hzH2 := hz0.at hAB hS
        have hL2 := lw_mod hLX hzH2 hu hcw ho1 hfr hfq hm2 nr nq hkH5
        refine lv_astore (lv' := [(6, .ref x6), (5, .int (iI 2)), (4, .int (iI i)), (3, .ref o), (2, .ref (w 0)), (1, .ref (u 0)), (0, .ref b)]) hx hb dL_law_1407 hl (by decide) rfl (fun ls hl => ?_)
        refine lv_goto (tgt := 2331) hx hb dL_law_1409 (by decide) ?_
        exact kk _ _ _ _ _ ⟨_, _, _, _, _, _, _, _, _, _, hL2⟩ hS (by omega) (by omega) (lv_sub hl [2, 3, 4, 5, 6] rfl)
    · refine lv_aload_n hx hb dL_law_1360 rfl (lv_at hl 3 rfl) ?_
      refine lv_aload_n hx hb dL_law_1361 rfl (lv_at hl 4 rfl) ?_
      refine lv_iload hx hb dL_law_1362 (lv_at hl 0 rfl) ?_
      refine q_con hx hb dL_law_1364 ?_
      refine q_add hx hb dL_law_1365 ?_
      refine r_xld hx hb hX hbl hbA hS (i := i + 1) (z := x1) (by omega) hL ex1 dL_law_1366 ?_
      refine lv_aload_n hx hb dL_law_1367 rfl (lv_at hl 4 rfl) ?_
      refine lv_iload hx hb dL_law_1368 (lv_at hl 0 rfl) ?_
      refine q_con hx hb dL_law_1370 ?_
      refine q_add hx hb dL_law_1371 ?_
      refine r_xld hx hb hX hbl hbA hS (i := i + 2) (z := x2) (by omega) hL ex2 dL_law_1372 ?_
      refine lv_aload_n hx hb dL_law_1373 rfl (lv_at hl 4 rfl) ?_
      refine lv_iload hx hb dL_law_1374 (lv_at hl 0 rfl) ?_
      refine q_con hx hb dL_law_1376 ?_
      refine q_add hx hb dL_law_1377 ?_
      refine r_xld hx hb hX hbl hbA hS (i := i + 3) (z := x3) (by omega) hL ex3 dL_law_1378 ?_
      refine lv_aload_n hx hb dL_law_1379 rfl (lv_at hl 1 rfl) ?_
      refine c_SWr (As := [.ref (u 0), .int (iI x1), .int (iI x2), .int (iI x3), .ref o]) (rest := []) (r := .int (iI 2)) fx hl (wn2_met θ l hl0 S0 _ u dt (fun j => sv j 0) (fun j => sv j 1) (fun j => sv j 2) bc rf kn hcr hjH hn o nv sv9 ho hLX.1 x1 x2 x3 (by first | assumption | omega | (dsimp only; first | assumption | omega) | exact Hid.mk (by first | assumption | omega) | exact Hid.mk ⟨fun _ => by first | assumption | omega, fun _ => by first | assumption | omega⟩) (by first | assumption | omega | (dsimp only; first | assumption | omega) | exact Hid.mk (by first | assumption | omega) | exact Hid.mk ⟨fun _ => by first | assumption | omega, fun _ => by first | assumption | omega⟩) (by first | assumption | omega | (dsimp only; first | assumption | omega) | exact Hid.mk (by first | assumption | omega) | exact Hid.mk ⟨fun _ => by first | assumption | omega, fun _ => by first | assumption | omega⟩) (by first | assumption | omega | (dsimp only; first | assumption | omega) | exact Hid.mk (by first | assumption | omega) | exact Hid.mk ⟨fun _ => by first | assumption | omega, fun _ => by first | assumption | omega⟩) (by first | assumption | omega | (dsimp only; first | assumption | omega) | exact Hid.mk (by first | assumption | omega) | exact Hid.mk ⟨fun _ => by first | assumption | omega, fun _ => by first | assumption | omega⟩)) dL_law_1380 k906 k907 k0 k908 hd_L_met rfl ⟨by omega, by omega⟩ (Nat.le_of_ble_eq_true rfl) ⟨by (try dsimp only); omega, by (try dsimp only); omega⟩ hS (fun x h => h.elim (fun h => h.elim (fun ⟨j, hj, e⟩ => e ▸ hu.2 j hj) (fun h => Nat.le_trans hzH.2.1 h)) (fun e => e ▸ hoθ)) (fun H7 locs hpH7 hszH7 hkH7 hS => ?_)
      obtain ⟨hcw, ho1⟩ := hpH7
      have hzH1 := hz0.at hAB hS
      have hjH1 := hj0.at hAB hS
      have hm1 := lw_cls hLX hw hzH1 hkH7
      refine lv_istore (lv' := [(5, .int (iI 2)), (4, .int (iI i)), (3, .ref o), (2, .ref (w 0)), (1, .ref (u 0)), (0, .ref b)]) hx hb dL_law_1383 hl (by decide) rfl (fun ls hl => ?_)
      refine lv_aload_n hx hb dL_law_1385 rfl (lv_at hl 3 rfl) ?_
      refine lv_aload_n hx hb dL_law_1386 rfl (lv_at hl 5 rfl) ?_
      refine lv_iload hx hb dL_law_1387 (lv_at hl 1 rfl) ?_
      refine q_con hx hb dL_law_1389 ?_
      refine q_add hx hb dL_law_1390 ?_
      refine r_xld hx hb hX hbl hbA hS (i := i + 1) (z := x1) (by omega) hL ex1 dL_law_1391 ?_
      refine lv_aload_n hx hb dL_law_1392 rfl (lv_at hl 5 rfl) ?_
      refine lv_iload hx hb dL_law_1393 (lv_at hl 1 rfl) ?_
      refine q_con hx hb dL_law_1395 ?_
      refine q_add hx hb dL_law_1396 ?_
      refine r_xld hx hb hX hbl hbA hS (i := i + 2) (z := x2) (by omega) hL ex2 dL_law_1397 ?_
      refine lv_aload_n hx hb dL_law_1398 rfl (lv_at hl 5 rfl) ?_
      refine lv_iload hx hb dL_law_1399 (lv_at hl 1 rfl) ?_
      refine q_con hx hb dL_law_1401 ?_
      refine q_add hx hb dL_law_1402 ?_
      refine r_xld hx hb hX hbl hbA hS (i := i + 3) (z := x3) (by omega) hL ex3 dL_law_1403 ?_
      refine c_XP (As := [.int (iI x1), .int (iI x2), .int (iI x3)]) (rest := []) (b := w 0) (C := RX3) fx hl (mno2_met θ l S0 _ w r q dt sv th bc rf kn hm1 hjH1 x1 x2 x3 (by first | assumption | omega | (dsimp only; first | assumption | omega) | exact Hid.mk (by first | assumption | omega) | exact Hid.mk ⟨fun _ => by first | assumption | omega, fun _ => by first | assumption | omega⟩) (by first | assumption | omega | (dsimp only; first | assumption | omega) | exact Hid.mk (by first | assumption | omega) | exact Hid.mk ⟨fun _ => by first | assumption | omega, fun _ => by first | assumption | omega⟩) (by first | assumption | omega | (dsimp only; first | assumption | omega) | exact Hid.mk (by first | assumption | omega) | exact Hid.mk ⟨fun _ => by first | assumption | omega, fun _ => by first | assumption | omega⟩) (by first | assumption | omega | (dsimp only; first | assumption | omega) | exact Hid.mk (by first | assumption | omega) | exact Hid.mk ⟨fun _ => by first | assumption | omega, fun _ => by first | assumption | omega⟩) (by first | assumption | omega | (dsimp only; first | assumption | omega) | exact Hid.mk (by first | assumption | omega) | exact Hid.mk ⟨fun _ => by first | assumption | omega, fun _ => by first | assumption | omega⟩)) (ob_recv hK hm1.2.2.1.1 rfl) dL_law_1404 k1415 k1416 k1417 k6 k1418 hd_X3_met rfl ⟨by omega, by omega⟩ (Nat.le_of_ble_eq_true rfl) ⟨by (try dsimp only); omega, by (try dsimp only); omega⟩ hS (wa_b hm1.2.1 hzH1.2.1) (fun x9 H8 locs hpH8 hszH8 hkH8 hS => ?_)
      obtain ⟨r1, q1, hm2, nr, nq⟩ := hpH8
      have hzH2 := hz0.at hAB hS
      have hL2 := lw_mod hLX hzH2 hu hcw ho1 hfr hfq hm2 nr nq hkH8
      refine lv_astore (lv' := [(6, .ref x9), (5, .int (iI 2)), (4, .int (iI i)), (3, .ref o), (2, .ref (w 0)), (1, .ref (u 0)), (0, .ref b)]) hx hb dL_law_1407 hl (by decide) rfl (fun ls hl => ?_)
      refine lv_goto (tgt := 2331) hx hb dL_law_1409 (by decide) ?_
      exact kk _ _ _ _ _ ⟨_, _, _, _, _, _, _, _, _, _, hL2⟩ hS (by omega) (by omega) (lv_sub hl [2, 3, 4, 5, 6] rfl)
  · refine lv_aload_n hx hb dL_law_1360 rfl (lv_at hl 3 rfl) ?_
    refine lv_aload_n hx hb dL_law_1361 rfl (lv_at hl 4 rfl) ?_
    refine lv_iload hx hb dL_law_1362 (lv_at hl 0 rfl) ?_
    refine q_con hx hb dL_law_1364 ?_
    refine q_add hx hb dL_law_1365 ?_
    refine r_xld hx hb hX hbl hbA hS (i := i + 1) (z := x1) (by omega) hL ex1 dL_law_1366 ?_
    refine lv_aload_n hx hb dL_law_1367 rfl (lv_at hl 4 rfl) ?_
    refine lv_iload hx hb dL_law_1368 (lv_at hl 0 rfl) ?_
    refine q_con hx hb dL_law_1370 ?_
    refine q_add hx hb dL_law_1371 ?_
    refine r_xld hx hb hX hbl hbA hS (i := i + 2) (z := x2) (by omega) hL ex2 dL_law_1372 ?_
    refine lv_aload_n hx hb dL_law_1373 rfl (lv_at hl 4 rfl) ?_
    refine lv_iload hx hb dL_law_1374 (lv_at hl 0 rfl) ?_
    refine q_con hx hb dL_law_1376 ?_
    refine q_add hx hb dL_law_1377 ?_
    refine r_xld hx hb hX hbl hbA hS (i := i + 3) (z := x3) (by omega) hL ex3 dL_law_1378 ?_
    refine lv_aload_n hx hb dL_law_1379 rfl (lv_at hl 1 rfl) ?_
    refine c_SWr (As := [.ref (u 0), .int (iI x1), .int (iI x2), .int (iI x3), .ref o]) (rest := []) (r := .int (iI 1)) fx hl (wn1_met θ l hl0 S0 _ u dt (fun j => sv j 0) (fun j => sv j 1) (fun j => sv j 2) bc rf kn hcr hjH hn o nv sv9 ho hLX.1 x1 x2 x3 (by first | assumption | omega | (dsimp only; first | assumption | omega) | exact Hid.mk (by first | assumption | omega) | exact Hid.mk ⟨fun _ => by first | assumption | omega, fun _ => by first | assumption | omega⟩) (by first | assumption | omega | (dsimp only; first | assumption | omega) | exact Hid.mk (by first | assumption | omega) | exact Hid.mk ⟨fun _ => by first | assumption | omega, fun _ => by first | assumption | omega⟩) (by first | assumption | omega | (dsimp only; first | assumption | omega) | exact Hid.mk (by first | assumption | omega) | exact Hid.mk ⟨fun _ => by first | assumption | omega, fun _ => by first | assumption | omega⟩) (by first | assumption | omega | (dsimp only; first | assumption | omega) | exact Hid.mk (by first | assumption | omega) | exact Hid.mk ⟨fun _ => by first | assumption | omega, fun _ => by first | assumption | omega⟩)) dL_law_1380 k906 k907 k0 k908 hd_L_met rfl ⟨by omega, by omega⟩ (Nat.le_of_ble_eq_true rfl) ⟨by (try dsimp only); omega, by (try dsimp only); omega⟩ hS (fun x h => h.elim (fun h => h.elim (fun ⟨j, hj, e⟩ => e ▸ hu.2 j hj) (fun h => Nat.le_trans hzH.2.1 h)) (fun e => e ▸ hoθ)) (fun H10 locs hpH10 hszH10 hkH10 hS => ?_)
    obtain ⟨hcw, ho1⟩ := hpH10
    have hzH1 := hz0.at hAB hS
    have hjH1 := hj0.at hAB hS
    have hm1 := lw_cls hLX hw hzH1 hkH10
    refine lv_istore (lv' := [(5, .int (iI 1)), (4, .int (iI i)), (3, .ref o), (2, .ref (w 0)), (1, .ref (u 0)), (0, .ref b)]) hx hb dL_law_1383 hl (by decide) rfl (fun ls hl => ?_)
    refine lv_aload_n hx hb dL_law_1385 rfl (lv_at hl 3 rfl) ?_
    refine lv_aload_n hx hb dL_law_1386 rfl (lv_at hl 5 rfl) ?_
    refine lv_iload hx hb dL_law_1387 (lv_at hl 1 rfl) ?_
    refine q_con hx hb dL_law_1389 ?_
    refine q_add hx hb dL_law_1390 ?_
    refine r_xld hx hb hX hbl hbA hS (i := i + 1) (z := x1) (by omega) hL ex1 dL_law_1391 ?_
    refine lv_aload_n hx hb dL_law_1392 rfl (lv_at hl 5 rfl) ?_
    refine lv_iload hx hb dL_law_1393 (lv_at hl 1 rfl) ?_
    refine q_con hx hb dL_law_1395 ?_
    refine q_add hx hb dL_law_1396 ?_
    refine r_xld hx hb hX hbl hbA hS (i := i + 2) (z := x2) (by omega) hL ex2 dL_law_1397 ?_
    refine lv_aload_n hx hb dL_law_1398 rfl (lv_at hl 5 rfl) ?_
    refine lv_iload hx hb dL_law_1399 (lv_at hl 1 rfl) ?_
    refine q_con hx hb dL_law_1401 ?_
    refine q_add hx hb dL_law_1402 ?_
    refine r_xld hx hb hX hbl hbA hS (i := i + 3) (z := x3) (by omega) hL ex3 dL_law_1403 ?_
    refine c_XP (As := [.int (iI x1), .int (iI x2), .int (iI x3)]) (rest := []) (b := w 0) (C := RX3) fx hl (mno1_met θ l S0 _ w r q dt sv th bc rf kn hm1 hjH1 x1 x2 x3 (by first | assumption | omega | (dsimp only; first | assumption | omega) | exact Hid.mk (by first | assumption | omega) | exact Hid.mk ⟨fun _ => by first | assumption | omega, fun _ => by first | assumption | omega⟩) (by first | assumption | omega | (dsimp only; first | assumption | omega) | exact Hid.mk (by first | assumption | omega) | exact Hid.mk ⟨fun _ => by first | assumption | omega, fun _ => by first | assumption | omega⟩) (by first | assumption | omega | (dsimp only; first | assumption | omega) | exact Hid.mk (by first | assumption | omega) | exact Hid.mk ⟨fun _ => by first | assumption | omega, fun _ => by first | assumption | omega⟩) (by first | assumption | omega | (dsimp only; first | assumption | omega) | exact Hid.mk (by first | assumption | omega) | exact Hid.mk ⟨fun _ => by first | assumption | omega, fun _ => by first | assumption | omega⟩)) (ob_recv hK hm1.2.2.1.1 rfl) dL_law_1404 k1415 k1416 k1417 k6 k1418 hd_X3_met rfl ⟨by omega, by omega⟩ (Nat.le_of_ble_eq_true rfl) ⟨by (try dsimp only); omega, by (try dsimp only); omega⟩ hS (wa_b hm1.2.1 hzH1.2.1) (fun x12 H11 locs hpH11 hszH11 hkH11 hS => ?_)
    obtain ⟨r1, q1, hm2, nr, nq⟩ := hpH11
    have hzH2 := hz0.at hAB hS
    have hL2 := lw_mod hLX hzH2 hu hcw ho1 hfr hfq hm2 nr nq hkH11
    refine lv_astore (lv' := [(6, .ref x12), (5, .int (iI 1)), (4, .int (iI i)), (3, .ref o), (2, .ref (w 0)), (1, .ref (u 0)), (0, .ref b)]) hx hb dL_law_1407 hl (by decide) rfl (fun ls hl => ?_)
    refine lv_goto (tgt := 2331) hx hb dL_law_1409 (by decide) ?_
    exact kk _ _ _ _ _ ⟨_, _, _, _, _, _, _, _, _, _, hL2⟩ hS (by omega) (by omega) (lv_sub hl [2, 3, 4, 5, 6] rfl)

set_option maxHeartbeats 4000000 in
set_option maxRecDepth 100000 in
theorem lc_keeps {p : Program} {l : Launch} {e : Env} {R : Room} {s : State} {m : MethodId} {args : Array Value} {below : List Frame} {meth : Method} {c : Code} {Q : State → Prop} {θ : TH} {S0 : State} (fx : FX p m c cL_law 7 s args yL_law.cls S0) (hl0 : l.stackTraces = false) (hz0 : SZ θ S0 s.heap) (hj0 : SJ θ S0 s.heap) (hn : NX S0) {u w : Nat → Nat} {o b L : Nat} {xs : Nat → Int32} (hLX : LX u w o) (hoθ : θ.2.2.2 ≤ o) (hX : va_X b L xs s s.heap) (hbl : b < s.heap.size) (hbA : ¬ AJ θ b) (hL : L ≤ 2560) (hRF : 1000 ≤ R.frames ∧ 1000 ≤ R.locals) {H : Heap} {locs : List Loc} {cells slots : Nat} {ls : Array Slot} {i : Int} (hi : 0 ≤ i ∧ i + 5 ≤ (L : Int)) (hw : LWE θ S0 u w o H) (hS : va_S (AJ θ) s.heap H locs) (hRc : cells + 400 ≤ R.cells ∧ slots + 7000 ≤ R.slots) (hl : lv_has ls 7 [(4, .int (iI i)), (3, .ref o), (2, .ref (w 0)), (1, .ref (u 0)), (0, .ref b)]) (kk : LK p l e R s m args below meth c Q θ S0 u w o b i cells slots 2331) : W p l e R s m args below meth c H locs cells slots Q (F0 m 1412 ls []) := by
  obtain ⟨hx, hb, hml, hown, hts⟩ := id fx.1
  have hAB : ∀ x : Nat, AJ θ x → θ.2.2.2 ≤ x := fun _ h => h
  obtain ⟨r, q, dt, sv, th, bc, rf, kn, nv, sv9, hw⟩ := hw
  obtain ⟨hcr, hmr, ho, hfr, hfq⟩ := id hw
  have hzH := hz0.at hAB hS
  have hjH := hj0.at hAB hS
  have hK := sz_K fx.2 hz0
  have hu := hcr.2.1
  obtain ⟨x1, ex1⟩ : ∃ z : Int, z = (xs (i + 1).toNat).toInt := ⟨_, rfl⟩
  have bx1 := x32_b ex1
  obtain ⟨x2, ex2⟩ : ∃ z : Int, z = (xs (i + 2).toNat).toInt := ⟨_, rfl⟩
  have bx2 := x32_b ex2
  by_cases hc1 : 0 ≤ x1 ∧ x1 < 6
  · by_cases hc2 : -1200 ≤ x2 ∧ x2 ≤ 1200
    · refine lv_aload_n hx hb dL_law_1412 rfl (lv_at hl 3 rfl) ?_
      refine lv_aload_n hx hb dL_law_1413 rfl (lv_at hl 4 rfl) ?_
      refine lv_iload hx hb dL_law_1414 (lv_at hl 0 rfl) ?_
      refine q_con hx hb dL_law_1416 ?_
      refine q_add hx hb dL_law_1417 ?_
      refine r_xld hx hb hX hbl hbA hS (i := i + 1) (z := x1) (by omega) hL ex1 dL_law_1418 ?_
      refine lv_aload_n hx hb dL_law_1419 rfl (lv_at hl 4 rfl) ?_
      refine lv_iload hx hb dL_law_1420 (lv_at hl 0 rfl) ?_
      refine q_con hx hb dL_law_1422 ?_
      refine q_add hx hb dL_law_1423 ?_
      refine r_xld hx hb hX hbl hbA hS (i := i + 2) (z := x2) (by omega) hL ex2 dL_law_1424 ?_
      refine lv_aload_n hx hb dL_law_1425 rfl (lv_at hl 1 rfl) ?_
      refine c_SWr (As := [.ref (u 0), .int (iI x1), .int (iI x2), .ref o]) (rest := []) (r := .int (iI 0)) fx hl (wr_keeps θ l hl0 S0 _ u dt (fun j => sv j 0) (fun j => sv j 1) (fun j => sv j 2) bc rf kn hcr hjH hn o nv sv9 ho hLX.1 x1 x2 (by first | assumption | omega | (dsimp only; first | assumption | omega) | exact Hid.mk (by first | assumption | omega) | exact Hid.mk ⟨fun _ => by first | assumption | omega, fun _ => by first | assumption | omega⟩) (by first | assumption | omega | (dsimp only; first | assumption | omega) | exact Hid.mk (by first | assumption | omega) | exact Hid.mk ⟨fun _ => by first | assumption | omega, fun _ => by first | assumption | omega⟩) (by first | assumption | omega | (dsimp only; first | assumption | omega) | exact Hid.mk (by first | assumption | omega) | exact Hid.mk ⟨fun _ => by first | assumption | omega, fun _ => by first | assumption | omega⟩) (by first | assumption | omega | (dsimp only; first | assumption | omega) | exact Hid.mk (by first | assumption | omega) | exact Hid.mk ⟨fun _ => by first | assumption | omega, fun _ => by first | assumption | omega⟩)) dL_law_1426 k913 k914 k0 k915 hd_L_keeps rfl ⟨by omega, by omega⟩ (Nat.le_of_ble_eq_true rfl) ⟨by (try dsimp only); omega, by (try dsimp only); omega⟩ hS (fun x h => h.elim (fun h => h.elim (fun ⟨j, hj, e⟩ => e ▸ hu.2 j hj) (fun h => Nat.le_trans hzH.2.1 h)) (fun e => e ▸ hoθ)) (fun H1 locs hpH1 hszH1 hkH1 hS => ?_)
      obtain ⟨hcw, z9, ho1⟩ := hpH1
      have hzH1 := hz0.at hAB hS
      have hjH1 := hj0.at hAB hS
      have hm1 := lw_cls hLX hw hzH1 hkH1
      refine lv_istore (lv' := [(5, .int (iI 0)), (4, .int (iI i)), (3, .ref o), (2, .ref (w 0)), (1, .ref (u 0)), (0, .ref b)]) hx hb dL_law_1429 hl (by decide) rfl (fun ls hl => ?_)
      refine lv_aload_n hx hb dL_law_1431 rfl (lv_at hl 3 rfl) ?_
      refine lv_aload_n hx hb dL_law_1432 rfl (lv_at hl 5 rfl) ?_
      refine lv_iload hx hb dL_law_1433 (lv_at hl 1 rfl) ?_
      refine q_con hx hb dL_law_1435 ?_
      refine q_add hx hb dL_law_1436 ?_
      refine r_xld hx hb hX hbl hbA hS (i := i + 1) (z := x1) (by omega) hL ex1 dL_law_1437 ?_
      refine lv_aload_n hx hb dL_law_1438 rfl (lv_at hl 5 rfl) ?_
      refine lv_iload hx hb dL_law_1439 (lv_at hl 1 rfl) ?_
      refine q_con hx hb dL_law_1441 ?_
      refine q_add hx hb dL_law_1442 ?_
      refine r_xld hx hb hX hbl hbA hS (i := i + 2) (z := x2) (by omega) hL ex2 dL_law_1443 ?_
      refine c_IP (As := [.int (iI x1), .int (iI x2)]) (rest := []) (b := w 0) (C := RX3) fx hl (mok_keeps θ l S0 _ w r q dt sv th bc rf kn hm1 hjH1 x1 x2 (by first | assumption | omega | (dsimp only; first | assumption | omega) | exact Hid.mk (by first | assumption | omega) | exact Hid.mk ⟨fun _ => by first | assumption | omega, fun _ => by first | assumption | omega⟩) (by first | assumption | omega | (dsimp only; first | assumption | omega) | exact Hid.mk (by first | assumption | omega) | exact Hid.mk ⟨fun _ => by first | assumption | omega, fun _ => by first | assumption | omega⟩) (by first | assumption | omega | (dsimp only; first | assumption | omega) | exact Hid.mk (by first | assumption | omega) | exact Hid.mk ⟨fun _ => by first | assumption | omega, fun _ => by first | assumption | omega⟩) (by first | assumption | omega | (dsimp only; first | assumption | omega) | exact Hid.mk (by first | assumption | omega) | exact Hid.mk ⟨fun _ => by first | assumption | omega, fun _ => by first | assumption | omega⟩)) (ob_recv hK hm1.2.2.1.1 rfl) dL_law_1444 k1476 k1477 k1478 k6 k1479 hd_X3_keeps rfl ⟨by omega, by omega⟩ (Nat.le_of_ble_eq_true rfl) ⟨by (try dsimp only); omega, by (try dsimp only); omega⟩ hS (wa_b hm1.2.1 hzH1.2.1) (fun z3 H2 locs hpH2 hszH2 hkH2 hS => ?_)
      obtain ⟨r1, q1, hm2, nr, nq⟩ := hpH2
      have hzH2 := hz0.at hAB hS
      have hL2 := lw_mod hLX hzH2 hu hcw ho1 hfr hfq hm2 nr nq hkH2
      refine lv_istore (lv' := [(6, .int (iI z3)), (5, .int (iI 0)), (4, .int (iI i)), (3, .ref o), (2, .ref (w 0)), (1, .ref (u 0)), (0, .ref b)]) hx hb dL_law_1447 hl (by decide) rfl (fun ls hl => ?_)
      refine lv_goto (tgt := 2331) hx hb dL_law_1449 (by decide) ?_
      exact kk _ _ _ _ _ ⟨_, _, _, _, _, _, _, _, _, _, hL2⟩ hS (by omega) (by omega) (lv_sub hl [2, 3, 4, 5, 6] rfl)
    · refine lv_aload_n hx hb dL_law_1412 rfl (lv_at hl 3 rfl) ?_
      refine lv_aload_n hx hb dL_law_1413 rfl (lv_at hl 4 rfl) ?_
      refine lv_iload hx hb dL_law_1414 (lv_at hl 0 rfl) ?_
      refine q_con hx hb dL_law_1416 ?_
      refine q_add hx hb dL_law_1417 ?_
      refine r_xld hx hb hX hbl hbA hS (i := i + 1) (z := x1) (by omega) hL ex1 dL_law_1418 ?_
      refine lv_aload_n hx hb dL_law_1419 rfl (lv_at hl 4 rfl) ?_
      refine lv_iload hx hb dL_law_1420 (lv_at hl 0 rfl) ?_
      refine q_con hx hb dL_law_1422 ?_
      refine q_add hx hb dL_law_1423 ?_
      refine r_xld hx hb hX hbl hbA hS (i := i + 2) (z := x2) (by omega) hL ex2 dL_law_1424 ?_
      refine lv_aload_n hx hb dL_law_1425 rfl (lv_at hl 1 rfl) ?_
      refine c_SWr (As := [.ref (u 0), .int (iI x1), .int (iI x2), .ref o]) (rest := []) (r := .int (iI 2)) fx hl (wn2_keeps θ l hl0 S0 _ u dt (fun j => sv j 0) (fun j => sv j 1) (fun j => sv j 2) bc rf kn hcr hjH hn o nv sv9 ho hLX.1 x1 x2 (by first | assumption | omega | (dsimp only; first | assumption | omega) | exact Hid.mk (by first | assumption | omega) | exact Hid.mk ⟨fun _ => by first | assumption | omega, fun _ => by first | assumption | omega⟩) (by first | assumption | omega | (dsimp only; first | assumption | omega) | exact Hid.mk (by first | assumption | omega) | exact Hid.mk ⟨fun _ => by first | assumption | omega, fun _ => by first | assumption | omega⟩) (by first | assumption | omega | (dsimp only; first | assumption | omega) | exact Hid.mk (by first | assumption | omega) | exact Hid.mk ⟨fun _ => by first | assumption | omega, fun _ => by first | assumption | omega⟩) (by first | assumption | omega | (dsimp only; first | assumption | omega) | exact Hid.mk (by first | assumption | omega) | exact Hid.mk ⟨fun _ => by first | assumption | omega, fun _ => by first | assumption | omega⟩)) dL_law_1426 k913 k914 k0 k915 hd_L_keeps rfl ⟨by omega, by omega⟩ (Nat.le_of_ble_eq_true rfl) ⟨by (try dsimp only); omega, by (try dsimp only); omega⟩ hS (fun x h => h.elim (fun h => h.elim (fun ⟨j, hj, e⟩ => e ▸ hu.2 j hj) (fun h => Nat.le_trans hzH.2.1 h)) (fun e => e ▸ hoθ)) (fun H4 locs hpH4 hszH4 hkH4 hS => ?_)
      obtain ⟨hcw, ho1⟩ := hpH4
      have hzH1 := hz0.at hAB hS
      have hjH1 := hj0.at hAB hS
      have hm1 := lw_cls hLX hw hzH1 hkH4
      refine lv_istore (lv' := [(5, .int (iI 2)), (4, .int (iI i)), (3, .ref o), (2, .ref (w 0)), (1, .ref (u 0)), (0, .ref b)]) hx hb dL_law_1429 hl (by decide) rfl (fun ls hl => ?_)
      refine lv_aload_n hx hb dL_law_1431 rfl (lv_at hl 3 rfl) ?_
      refine lv_aload_n hx hb dL_law_1432 rfl (lv_at hl 5 rfl) ?_
      refine lv_iload hx hb dL_law_1433 (lv_at hl 1 rfl) ?_
      refine q_con hx hb dL_law_1435 ?_
      refine q_add hx hb dL_law_1436 ?_
      refine r_xld hx hb hX hbl hbA hS (i := i + 1) (z := x1) (by omega) hL ex1 dL_law_1437 ?_
      refine lv_aload_n hx hb dL_law_1438 rfl (lv_at hl 5 rfl) ?_
      refine lv_iload hx hb dL_law_1439 (lv_at hl 1 rfl) ?_
      refine q_con hx hb dL_law_1441 ?_
      refine q_add hx hb dL_law_1442 ?_
      refine r_xld hx hb hX hbl hbA hS (i := i + 2) (z := x2) (by omega) hL ex2 dL_law_1443 ?_
      refine c_Vr (As := [.int (iI x1), .int (iI x2)]) (rest := []) (b := w 0) (C := RX3) (r := some (.int (iI 0))) (st1 := [.int (iI 0)]) fx hl (mno2_keeps θ l S0 _ w r q dt sv th bc rf kn hm1 hjH1 x1 x2 (by first | assumption | omega | (dsimp only; first | assumption | omega) | exact Hid.mk (by first | assumption | omega) | exact Hid.mk ⟨fun _ => by first | assumption | omega, fun _ => by first | assumption | omega⟩) (by first | assumption | omega | (dsimp only; first | assumption | omega) | exact Hid.mk (by first | assumption | omega) | exact Hid.mk ⟨fun _ => by first | assumption | omega, fun _ => by first | assumption | omega⟩) (by first | assumption | omega | (dsimp only; first | assumption | omega) | exact Hid.mk (by first | assumption | omega) | exact Hid.mk ⟨fun _ => by first | assumption | omega, fun _ => by first | assumption | omega⟩) (by first | assumption | omega | (dsimp only; first | assumption | omega) | exact Hid.mk (by first | assumption | omega) | exact Hid.mk ⟨fun _ => by first | assumption | omega, fun _ => by first | assumption | omega⟩)) (ob_recv hK hm1.2.2.1.1 rfl) dL_law_1444 k1476 k1477 k1478 k6 k1479 hd_X3_keeps rfl rfl ⟨by omega, by omega⟩ (Nat.le_of_ble_eq_true rfl) ⟨by (try dsimp only); omega, by (try dsimp only); omega⟩ hS (wa_b hm1.2.1 hzH1.2.1) (fun H5 locs hpH5 hszH5 hkH5 hS => ?_)
      obtain ⟨r1, q1, hm2, nr, nq⟩ := hpH5
      have hzH2 := hz0.at hAB hS
      have hL2 := lw_mod hLX hzH2 hu hcw ho1 hfr hfq hm2 nr nq hkH5
      refine lv_istore (lv' := [(6, .int (iI 0)), (5, .int (iI 2)), (4, .int (iI i)), (3, .ref o), (2, .ref (w 0)), (1, .ref (u 0)), (0, .ref b)]) hx hb dL_law_1447 hl (by decide) rfl (fun ls hl => ?_)
      refine lv_goto (tgt := 2331) hx hb dL_law_1449 (by decide) ?_
      exact kk _ _ _ _ _ ⟨_, _, _, _, _, _, _, _, _, _, hL2⟩ hS (by omega) (by omega) (lv_sub hl [2, 3, 4, 5, 6] rfl)
  · refine lv_aload_n hx hb dL_law_1412 rfl (lv_at hl 3 rfl) ?_
    refine lv_aload_n hx hb dL_law_1413 rfl (lv_at hl 4 rfl) ?_
    refine lv_iload hx hb dL_law_1414 (lv_at hl 0 rfl) ?_
    refine q_con hx hb dL_law_1416 ?_
    refine q_add hx hb dL_law_1417 ?_
    refine r_xld hx hb hX hbl hbA hS (i := i + 1) (z := x1) (by omega) hL ex1 dL_law_1418 ?_
    refine lv_aload_n hx hb dL_law_1419 rfl (lv_at hl 4 rfl) ?_
    refine lv_iload hx hb dL_law_1420 (lv_at hl 0 rfl) ?_
    refine q_con hx hb dL_law_1422 ?_
    refine q_add hx hb dL_law_1423 ?_
    refine r_xld hx hb hX hbl hbA hS (i := i + 2) (z := x2) (by omega) hL ex2 dL_law_1424 ?_
    refine lv_aload_n hx hb dL_law_1425 rfl (lv_at hl 1 rfl) ?_
    refine c_SWr (As := [.ref (u 0), .int (iI x1), .int (iI x2), .ref o]) (rest := []) (r := .int (iI 1)) fx hl (wn1_keeps θ l hl0 S0 _ u dt (fun j => sv j 0) (fun j => sv j 1) (fun j => sv j 2) bc rf kn hcr hjH hn o nv sv9 ho hLX.1 x1 x2 (by first | assumption | omega | (dsimp only; first | assumption | omega) | exact Hid.mk (by first | assumption | omega) | exact Hid.mk ⟨fun _ => by first | assumption | omega, fun _ => by first | assumption | omega⟩) (by first | assumption | omega | (dsimp only; first | assumption | omega) | exact Hid.mk (by first | assumption | omega) | exact Hid.mk ⟨fun _ => by first | assumption | omega, fun _ => by first | assumption | omega⟩) (by first | assumption | omega | (dsimp only; first | assumption | omega) | exact Hid.mk (by first | assumption | omega) | exact Hid.mk ⟨fun _ => by first | assumption | omega, fun _ => by first | assumption | omega⟩)) dL_law_1426 k913 k914 k0 k915 hd_L_keeps rfl ⟨by omega, by omega⟩ (Nat.le_of_ble_eq_true rfl) ⟨by (try dsimp only); omega, by (try dsimp only); omega⟩ hS (fun x h => h.elim (fun h => h.elim (fun ⟨j, hj, e⟩ => e ▸ hu.2 j hj) (fun h => Nat.le_trans hzH.2.1 h)) (fun e => e ▸ hoθ)) (fun H6 locs hpH6 hszH6 hkH6 hS => ?_)
    obtain ⟨hcw, ho1⟩ := hpH6
    have hzH1 := hz0.at hAB hS
    have hjH1 := hj0.at hAB hS
    have hm1 := lw_cls hLX hw hzH1 hkH6
    refine lv_istore (lv' := [(5, .int (iI 1)), (4, .int (iI i)), (3, .ref o), (2, .ref (w 0)), (1, .ref (u 0)), (0, .ref b)]) hx hb dL_law_1429 hl (by decide) rfl (fun ls hl => ?_)
    refine lv_aload_n hx hb dL_law_1431 rfl (lv_at hl 3 rfl) ?_
    refine lv_aload_n hx hb dL_law_1432 rfl (lv_at hl 5 rfl) ?_
    refine lv_iload hx hb dL_law_1433 (lv_at hl 1 rfl) ?_
    refine q_con hx hb dL_law_1435 ?_
    refine q_add hx hb dL_law_1436 ?_
    refine r_xld hx hb hX hbl hbA hS (i := i + 1) (z := x1) (by omega) hL ex1 dL_law_1437 ?_
    refine lv_aload_n hx hb dL_law_1438 rfl (lv_at hl 5 rfl) ?_
    refine lv_iload hx hb dL_law_1439 (lv_at hl 1 rfl) ?_
    refine q_con hx hb dL_law_1441 ?_
    refine q_add hx hb dL_law_1442 ?_
    refine r_xld hx hb hX hbl hbA hS (i := i + 2) (z := x2) (by omega) hL ex2 dL_law_1443 ?_
    refine c_Vr (As := [.int (iI x1), .int (iI x2)]) (rest := []) (b := w 0) (C := RX3) (r := some (.int (iI 0))) (st1 := [.int (iI 0)]) fx hl (mno1_keeps θ l S0 _ w r q dt sv th bc rf kn hm1 hjH1 x1 x2 (by first | assumption | omega | (dsimp only; first | assumption | omega) | exact Hid.mk (by first | assumption | omega) | exact Hid.mk ⟨fun _ => by first | assumption | omega, fun _ => by first | assumption | omega⟩) (by first | assumption | omega | (dsimp only; first | assumption | omega) | exact Hid.mk (by first | assumption | omega) | exact Hid.mk ⟨fun _ => by first | assumption | omega, fun _ => by first | assumption | omega⟩) (by first | assumption | omega | (dsimp only; first | assumption | omega) | exact Hid.mk (by first | assumption | omega) | exact Hid.mk ⟨fun _ => by first | assumption | omega, fun _ => by first | assumption | omega⟩)) (ob_recv hK hm1.2.2.1.1 rfl) dL_law_1444 k1476 k1477 k1478 k6 k1479 hd_X3_keeps rfl rfl ⟨by omega, by omega⟩ (Nat.le_of_ble_eq_true rfl) ⟨by (try dsimp only); omega, by (try dsimp only); omega⟩ hS (wa_b hm1.2.1 hzH1.2.1) (fun H7 locs hpH7 hszH7 hkH7 hS => ?_)
    obtain ⟨r1, q1, hm2, nr, nq⟩ := hpH7
    have hzH2 := hz0.at hAB hS
    have hL2 := lw_mod hLX hzH2 hu hcw ho1 hfr hfq hm2 nr nq hkH7
    refine lv_istore (lv' := [(6, .int (iI 0)), (5, .int (iI 1)), (4, .int (iI i)), (3, .ref o), (2, .ref (w 0)), (1, .ref (u 0)), (0, .ref b)]) hx hb dL_law_1447 hl (by decide) rfl (fun ls hl => ?_)
    refine lv_goto (tgt := 2331) hx hb dL_law_1449 (by decide) ?_
    exact kk _ _ _ _ _ ⟨_, _, _, _, _, _, _, _, _, _, hL2⟩ hS (by omega) (by omega) (lv_sub hl [2, 3, 4, 5, 6] rfl)

set_option maxHeartbeats 4000000 in
set_option maxRecDepth 100000 in
theorem lc_month {p : Program} {l : Launch} {e : Env} {R : Room} {s : State} {m : MethodId} {args : Array Value} {below : List Frame} {meth : Method} {c : Code} {Q : State → Prop} {θ : TH} {S0 : State} (fx : FX p m c cL_law 7 s args yL_law.cls S0) (hl0 : l.stackTraces = false) (hz0 : SZ θ S0 s.heap) (hj0 : SJ θ S0 s.heap) (hn : NX S0) {u w : Nat → Nat} {o b L : Nat} {xs : Nat → Int32} (hLX : LX u w o) (hoθ : θ.2.2.2 ≤ o) (hX : va_X b L xs s s.heap) (hbl : b < s.heap.size) (hbA : ¬ AJ θ b) (hL : L ≤ 2560) (hRF : 1000 ≤ R.frames ∧ 1000 ≤ R.locals) {H : Heap} {locs : List Loc} {cells slots : Nat} {ls : Array Slot} {i : Int} (hi : 0 ≤ i ∧ i + 5 ≤ (L : Int)) (hw : LWE θ S0 u w o H) (hS : va_S (AJ θ) s.heap H locs) (hRc : cells + 400 ≤ R.cells ∧ slots + 7000 ≤ R.slots) (hl : lv_has ls 7 [(4, .int (iI i)), (3, .ref o), (2, .ref (w 0)), (1, .ref (u 0)), (0, .ref b)]) (kk : LK p l e R s m args below meth c Q θ S0 u w o b i cells slots 2331) : W p l e R s m args below meth c H locs cells slots Q (F0 m 1452 ls []) := by
  obtain ⟨hx, hb, hml, hown, hts⟩ := id fx.1
  have hAB : ∀ x : Nat, AJ θ x → θ.2.2.2 ≤ x := fun _ h => h
  obtain ⟨r, q, dt, sv, th, bc, rf, kn, nv, sv9, hw⟩ := hw
  obtain ⟨hcr, hmr, ho, hfr, hfq⟩ := id hw
  have hzH := hz0.at hAB hS
  have hjH := hj0.at hAB hS
  have hK := sz_K fx.2 hz0
  have hu := hcr.2.1
  obtain ⟨x1, ex1⟩ : ∃ z : Int, z = (xs (i + 1).toNat).toInt := ⟨_, rfl⟩
  have bx1 := x32_b ex1
  by_cases hc1 : 0 ≤ x1 ∧ x1 < 6
  · refine lv_aload_n hx hb dL_law_1452 rfl (lv_at hl 3 rfl) ?_
    refine lv_aload_n hx hb dL_law_1453 rfl (lv_at hl 4 rfl) ?_
    refine lv_iload hx hb dL_law_1454 (lv_at hl 0 rfl) ?_
    refine q_con hx hb dL_law_1456 ?_
    refine q_add hx hb dL_law_1457 ?_
    refine r_xld hx hb hX hbl hbA hS (i := i + 1) (z := x1) (by omega) hL ex1 dL_law_1458 ?_
    refine lv_aload_n hx hb dL_law_1459 rfl (lv_at hl 1 rfl) ?_
    refine c_SWr (As := [.ref (u 0), .int (iI x1), .ref o]) (rest := []) (r := .int (iI 0)) fx hl (wr_month θ l hl0 S0 _ u dt (fun j => sv j 0) (fun j => sv j 1) (fun j => sv j 2) bc rf kn hcr hjH hn o nv sv9 ho hLX.1 x1 (by first | assumption | omega | (dsimp only; first | assumption | omega) | exact Hid.mk (by first | assumption | omega) | exact Hid.mk ⟨fun _ => by first | assumption | omega, fun _ => by first | assumption | omega⟩) (by first | assumption | omega | (dsimp only; first | assumption | omega) | exact Hid.mk (by first | assumption | omega) | exact Hid.mk ⟨fun _ => by first | assumption | omega, fun _ => by first | assumption | omega⟩)) dL_law_1460 k920 k921 k0 k922 hd_L_month rfl ⟨by omega, by omega⟩ (Nat.le_of_ble_eq_true rfl) ⟨by (try dsimp only); omega, by (try dsimp only); omega⟩ hS (fun x h => h.elim (fun h => h.elim (fun ⟨j, hj, e⟩ => e ▸ hu.2 j hj) (fun h => Nat.le_trans hzH.2.1 h)) (fun e => e ▸ hoθ)) (fun H1 locs hpH1 hszH1 hkH1 hS => ?_)
    obtain ⟨hcw, ho1⟩ := hpH1
    have hzH1 := hz0.at hAB hS
    have hjH1 := hj0.at hAB hS
    have hm1 := lw_cls hLX hw hzH1 hkH1
    refine lv_istore (lv' := [(5, .int (iI 0)), (4, .int (iI i)), (3, .ref o), (2, .ref (w 0)), (1, .ref (u 0)), (0, .ref b)]) hx hb dL_law_1463 hl (by decide) rfl (fun ls hl => ?_)
    refine lv_aload_n hx hb dL_law_1465 rfl (lv_at hl 3 rfl) ?_
    refine lv_aload_n hx hb dL_law_1466 rfl (lv_at hl 5 rfl) ?_
    refine lv_iload hx hb dL_law_1467 (lv_at hl 1 rfl) ?_
    refine q_con hx hb dL_law_1469 ?_
    refine q_add hx hb dL_law_1470 ?_
    refine r_xld hx hb hX hbl hbA hS (i := i + 1) (z := x1) (by omega) hL ex1 dL_law_1471 ?_
    refine c_Vr (As := [.int (iI x1)]) (rest := []) (b := w 0) (C := RX3) (r := some (.int (iI (mI (dt x1.toNat))))) (st1 := [.int (iI (mI (dt x1.toNat)))]) fx hl (mok_month θ l S0 _ w r q dt sv th bc rf kn hm1 x1 (by first | assumption | omega | (dsimp only; first | assumption | omega) | exact Hid.mk (by first | assumption | omega) | exact Hid.mk ⟨fun _ => by first | assumption | omega, fun _ => by first | assumption | omega⟩) (by first | assumption | omega | (dsimp only; first | assumption | omega) | exact Hid.mk (by first | assumption | omega) | exact Hid.mk ⟨fun _ => by first | assumption | omega, fun _ => by first | assumption | omega⟩)) (ob_recv hK hm1.2.2.1.1 rfl) dL_law_1472 k1480 k1481 k1482 k6 k1483 hd_X3_month rfl rfl ⟨by omega, by omega⟩ (Nat.le_of_ble_eq_true rfl) ⟨by (try dsimp only); omega, by (try dsimp only); omega⟩ hS (wa_b hm1.2.1 hzH1.2.1) (fun H2 locs hpH2 hszH2 hkH2 hS => ?_)
    obtain ⟨r1, q1, hm2, nr, nq⟩ := hpH2
    have hzH2 := hz0.at hAB hS
    have hL2 := lw_mod hLX hzH2 hu hcw ho1 hfr hfq hm2 nr nq hkH2
    refine lv_istore (lv' := [(6, .int (iI (mI (dt x1.toNat)))), (5, .int (iI 0)), (4, .int (iI i)), (3, .ref o), (2, .ref (w 0)), (1, .ref (u 0)), (0, .ref b)]) hx hb dL_law_1475 hl (by decide) rfl (fun ls hl => ?_)
    refine lv_goto (tgt := 2331) hx hb dL_law_1477 (by decide) ?_
    exact kk _ _ _ _ _ ⟨_, _, _, _, _, _, _, _, _, _, hL2⟩ hS (by omega) (by omega) (lv_sub hl [2, 3, 4, 5, 6] rfl)
  · refine lv_aload_n hx hb dL_law_1452 rfl (lv_at hl 3 rfl) ?_
    refine lv_aload_n hx hb dL_law_1453 rfl (lv_at hl 4 rfl) ?_
    refine lv_iload hx hb dL_law_1454 (lv_at hl 0 rfl) ?_
    refine q_con hx hb dL_law_1456 ?_
    refine q_add hx hb dL_law_1457 ?_
    refine r_xld hx hb hX hbl hbA hS (i := i + 1) (z := x1) (by omega) hL ex1 dL_law_1458 ?_
    refine lv_aload_n hx hb dL_law_1459 rfl (lv_at hl 1 rfl) ?_
    refine c_SWr (As := [.ref (u 0), .int (iI x1), .ref o]) (rest := []) (r := .int (iI 1)) fx hl (wn1_month θ l hl0 S0 _ u dt (fun j => sv j 0) (fun j => sv j 1) (fun j => sv j 2) bc rf kn hcr hjH hn o nv sv9 ho hLX.1 x1 (by first | assumption | omega | (dsimp only; first | assumption | omega) | exact Hid.mk (by first | assumption | omega) | exact Hid.mk ⟨fun _ => by first | assumption | omega, fun _ => by first | assumption | omega⟩) (by first | assumption | omega | (dsimp only; first | assumption | omega) | exact Hid.mk (by first | assumption | omega) | exact Hid.mk ⟨fun _ => by first | assumption | omega, fun _ => by first | assumption | omega⟩)) dL_law_1460 k920 k921 k0 k922 hd_L_month rfl ⟨by omega, by omega⟩ (Nat.le_of_ble_eq_true rfl) ⟨by (try dsimp only); omega, by (try dsimp only); omega⟩ hS (fun x h => h.elim (fun h => h.elim (fun ⟨j, hj, e⟩ => e ▸ hu.2 j hj) (fun h => Nat.le_trans hzH.2.1 h)) (fun e => e ▸ hoθ)) (fun H3 locs hpH3 hszH3 hkH3 hS => ?_)
    obtain ⟨hcw, ho1⟩ := hpH3
    have hzH1 := hz0.at hAB hS
    have hjH1 := hj0.at hAB hS
    have hm1 := lw_cls hLX hw hzH1 hkH3
    refine lv_istore (lv' := [(5, .int (iI 1)), (4, .int (iI i)), (3, .ref o), (2, .ref (w 0)), (1, .ref (u 0)), (0, .ref b)]) hx hb dL_law_1463 hl (by decide) rfl (fun ls hl => ?_)
    refine lv_aload_n hx hb dL_law_1465 rfl (lv_at hl 3 rfl) ?_
    refine lv_aload_n hx hb dL_law_1466 rfl (lv_at hl 5 rfl) ?_
    refine lv_iload hx hb dL_law_1467 (lv_at hl 1 rfl) ?_
    refine q_con hx hb dL_law_1469 ?_
    refine q_add hx hb dL_law_1470 ?_
    refine r_xld hx hb hX hbl hbA hS (i := i + 1) (z := x1) (by omega) hL ex1 dL_law_1471 ?_
    refine c_Vr (As := [.int (iI x1)]) (rest := []) (b := w 0) (C := RX3) (r := some (.int (iI 0))) (st1 := [.int (iI 0)]) fx hl (mno1_month θ l S0 _ w r q dt sv th bc rf kn hm1 x1 (by first | assumption | omega | (dsimp only; first | assumption | omega) | exact Hid.mk (by first | assumption | omega) | exact Hid.mk ⟨fun _ => by first | assumption | omega, fun _ => by first | assumption | omega⟩) (by first | assumption | omega | (dsimp only; first | assumption | omega) | exact Hid.mk (by first | assumption | omega) | exact Hid.mk ⟨fun _ => by first | assumption | omega, fun _ => by first | assumption | omega⟩)) (ob_recv hK hm1.2.2.1.1 rfl) dL_law_1472 k1480 k1481 k1482 k6 k1483 hd_X3_month rfl rfl ⟨by omega, by omega⟩ (Nat.le_of_ble_eq_true rfl) ⟨by (try dsimp only); omega, by (try dsimp only); omega⟩ hS (wa_b hm1.2.1 hzH1.2.1) (fun H4 locs hpH4 hszH4 hkH4 hS => ?_)
    obtain ⟨r1, q1, hm2, nr, nq⟩ := hpH4
    have hzH2 := hz0.at hAB hS
    have hL2 := lw_mod hLX hzH2 hu hcw ho1 hfr hfq hm2 nr nq hkH4
    refine lv_istore (lv' := [(6, .int (iI 0)), (5, .int (iI 1)), (4, .int (iI i)), (3, .ref o), (2, .ref (w 0)), (1, .ref (u 0)), (0, .ref b)]) hx hb dL_law_1475 hl (by decide) rfl (fun ls hl => ?_)
    refine lv_goto (tgt := 2331) hx hb dL_law_1477 (by decide) ?_
    exact kk _ _ _ _ _ ⟨_, _, _, _, _, _, _, _, _, _, hL2⟩ hS (by omega) (by omega) (lv_sub hl [2, 3, 4, 5, 6] rfl)

set_option maxHeartbeats 4000000 in
set_option maxRecDepth 100000 in
theorem lc_ofMonthNumber {p : Program} {l : Launch} {e : Env} {R : Room} {s : State} {m : MethodId} {args : Array Value} {below : List Frame} {meth : Method} {c : Code} {Q : State → Prop} {θ : TH} {S0 : State} (fx : FX p m c cL_law 7 s args yL_law.cls S0) (hl0 : l.stackTraces = false) (hz0 : SZ θ S0 s.heap) (hj0 : SJ θ S0 s.heap) (hn : NX S0) {u w : Nat → Nat} {o b L : Nat} {xs : Nat → Int32} (hLX : LX u w o) (hoθ : θ.2.2.2 ≤ o) (hX : va_X b L xs s s.heap) (hbl : b < s.heap.size) (hbA : ¬ AJ θ b) (hL : L ≤ 2560) (hRF : 1000 ≤ R.frames ∧ 1000 ≤ R.locals) {H : Heap} {locs : List Loc} {cells slots : Nat} {ls : Array Slot} {i : Int} (hi : 0 ≤ i ∧ i + 5 ≤ (L : Int)) (hw : LWE θ S0 u w o H) (hS : va_S (AJ θ) s.heap H locs) (hRc : cells + 400 ≤ R.cells ∧ slots + 7000 ≤ R.slots) (hl : lv_has ls 7 [(4, .int (iI i)), (3, .ref o), (2, .ref (w 0)), (1, .ref (u 0)), (0, .ref b)]) (kk : LK p l e R s m args below meth c Q θ S0 u w o b i cells slots 2331) : W p l e R s m args below meth c H locs cells slots Q (F0 m 1480 ls []) := by
  obtain ⟨hx, hb, hml, hown, hts⟩ := id fx.1
  have hAB : ∀ x : Nat, AJ θ x → θ.2.2.2 ≤ x := fun _ h => h
  obtain ⟨r, q, dt, sv, th, bc, rf, kn, nv, sv9, hw⟩ := hw
  obtain ⟨hcr, hmr, ho, hfr, hfq⟩ := id hw
  have hzH := hz0.at hAB hS
  have hjH := hj0.at hAB hS
  have hK := sz_K fx.2 hz0
  have hu := hcr.2.1
  obtain ⟨x1, ex1⟩ : ∃ z : Int, z = (xs (i + 1).toNat).toInt := ⟨_, rfl⟩
  have bx1 := x32_b ex1
  obtain ⟨x2, ex2⟩ : ∃ z : Int, z = (xs (i + 2).toNat).toInt := ⟨_, rfl⟩
  have bx2 := x32_b ex2
  by_cases hc1 : -119988 ≤ x1 ∧ x1 ≤ 119999
  · by_cases hc2 : 0 ≤ x2 ∧ x2 ≤ 3
    · refine lv_aload_n hx hb dL_law_1480 rfl (lv_at hl 3 rfl) ?_
      refine lv_aload_n hx hb dL_law_1481 rfl (lv_at hl 4 rfl) ?_
      refine lv_iload hx hb dL_law_1482 (lv_at hl 0 rfl) ?_
      refine q_con hx hb dL_law_1484 ?_
      refine q_add hx hb dL_law_1485 ?_
      refine r_xld hx hb hX hbl hbA hS (i := i + 1) (z := x1) (by omega) hL ex1 dL_law_1486 ?_
      refine lv_aload_n hx hb dL_law_1487 rfl (lv_at hl 4 rfl) ?_
      refine lv_iload hx hb dL_law_1488 (lv_at hl 0 rfl) ?_
      refine q_con hx hb dL_law_1490 ?_
      refine q_add hx hb dL_law_1491 ?_
      refine r_xld hx hb hX hbl hbA hS (i := i + 2) (z := x2) (by omega) hL ex2 dL_law_1492 ?_
      refine lv_aload_n hx hb dL_law_1493 rfl (lv_at hl 1 rfl) ?_
      refine c_SWr (As := [.ref (u 0), .int (iI x1), .int (iI x2), .ref o]) (rest := []) (r := .int (iI 0)) fx hl (wr_ofMonthNumber θ l hl0 S0 _ u dt (fun j => sv j 0) (fun j => sv j 1) (fun j => sv j 2) bc rf kn hcr hjH hn o nv sv9 ho hLX.1 x1 x2 (by first | assumption | omega | (dsimp only; first | assumption | omega) | exact Hid.mk (by first | assumption | omega) | exact Hid.mk ⟨fun _ => by first | assumption | omega, fun _ => by first | assumption | omega⟩) (by first | assumption | omega | (dsimp only; first | assumption | omega) | exact Hid.mk (by first | assumption | omega) | exact Hid.mk ⟨fun _ => by first | assumption | omega, fun _ => by first | assumption | omega⟩) (by first | assumption | omega | (dsimp only; first | assumption | omega) | exact Hid.mk (by first | assumption | omega) | exact Hid.mk ⟨fun _ => by first | assumption | omega, fun _ => by first | assumption | omega⟩) (by first | assumption | omega | (dsimp only; first | assumption | omega) | exact Hid.mk (by first | assumption | omega) | exact Hid.mk ⟨fun _ => by first | assumption | omega, fun _ => by first | assumption | omega⟩)) dL_law_1494 k924 k925 k0 k926 hd_L_ofMonthNumber rfl ⟨by omega, by omega⟩ (Nat.le_of_ble_eq_true rfl) ⟨by (try dsimp only); omega, by (try dsimp only); omega⟩ hS (fun x h => h.elim (fun h => h.elim (fun ⟨j, hj, e⟩ => e ▸ hu.2 j hj) (fun h => Nat.le_trans hzH.2.1 h)) (fun e => e ▸ hoθ)) (fun H1 locs hpH1 hszH1 hkH1 hS => ?_)
      obtain ⟨hcw, ho1⟩ := hpH1
      have hzH1 := hz0.at hAB hS
      have hjH1 := hj0.at hAB hS
      have hm1 := lw_cls hLX hw hzH1 hkH1
      refine lv_istore (lv' := [(5, .int (iI 0)), (4, .int (iI i)), (3, .ref o), (2, .ref (w 0)), (1, .ref (u 0)), (0, .ref b)]) hx hb dL_law_1497 hl (by decide) rfl (fun ls hl => ?_)
      refine lv_aload_n hx hb dL_law_1499 rfl (lv_at hl 3 rfl) ?_
      refine lv_aload_n hx hb dL_law_1500 rfl (lv_at hl 5 rfl) ?_
      refine lv_iload hx hb dL_law_1501 (lv_at hl 1 rfl) ?_
      refine q_con hx hb dL_law_1503 ?_
      refine q_add hx hb dL_law_1504 ?_
      refine r_xld hx hb hX hbl hbA hS (i := i + 1) (z := x1) (by omega) hL ex1 dL_law_1505 ?_
      refine lv_aload_n hx hb dL_law_1506 rfl (lv_at hl 5 rfl) ?_
      refine lv_iload hx hb dL_law_1507 (lv_at hl 1 rfl) ?_
      refine q_con hx hb dL_law_1509 ?_
      refine q_add hx hb dL_law_1510 ?_
      refine r_xld hx hb hX hbl hbA hS (i := i + 2) (z := x2) (by omega) hL ex2 dL_law_1511 ?_
      refine c_Vr (As := [.int (iI x1), .int (iI x2)]) (rest := []) (b := w 0) (C := RX3) (r := some (.int (iI (if x2 = 0 then x1 / 12 else if x2 = 1 then x1 % 12 + 1 else if x2 = 2 then fI (x1 + 1) - fI x1 else fI x1)))) (st1 := [.int (iI (if x2 = 0 then x1 / 12 else if x2 = 1 then x1 % 12 + 1 else if x2 = 2 then fI (x1 + 1) - fI x1 else fI x1))]) fx hl (mok_ofMonthNumber θ l S0 _ w r q dt sv th bc rf kn hm1 x1 x2 (by first | assumption | omega | (dsimp only; first | assumption | omega) | exact Hid.mk (by first | assumption | omega) | exact Hid.mk ⟨fun _ => by first | assumption | omega, fun _ => by first | assumption | omega⟩) (by first | assumption | omega | (dsimp only; first | assumption | omega) | exact Hid.mk (by first | assumption | omega) | exact Hid.mk ⟨fun _ => by first | assumption | omega, fun _ => by first | assumption | omega⟩) (by first | assumption | omega | (dsimp only; first | assumption | omega) | exact Hid.mk (by first | assumption | omega) | exact Hid.mk ⟨fun _ => by first | assumption | omega, fun _ => by first | assumption | omega⟩) (by first | assumption | omega | (dsimp only; first | assumption | omega) | exact Hid.mk (by first | assumption | omega) | exact Hid.mk ⟨fun _ => by first | assumption | omega, fun _ => by first | assumption | omega⟩)) (ob_recv hK hm1.2.2.1.1 rfl) dL_law_1512 k1484 k1485 k1486 k6 k1487 hd_X3_ofMonthNumber rfl rfl ⟨by omega, by omega⟩ (Nat.le_of_ble_eq_true rfl) ⟨by (try dsimp only); omega, by (try dsimp only); omega⟩ hS (wa_b hm1.2.1 hzH1.2.1) (fun H2 locs hpH2 hszH2 hkH2 hS => ?_)
      obtain ⟨r1, q1, hm2, nr, nq⟩ := hpH2
      have hzH2 := hz0.at hAB hS
      have hL2 := lw_mod hLX hzH2 hu hcw ho1 hfr hfq hm2 nr nq hkH2
      refine q_nm (fun z3 ez3 => ?_)
      refine lv_istore (lv' := [(6, .int (iI z3)), (5, .int (iI 0)), (4, .int (iI i)), (3, .ref o), (2, .ref (w 0)), (1, .ref (u 0)), (0, .ref b)]) hx hb dL_law_1515 hl (by decide) rfl (fun ls hl => ?_)
      refine lv_goto (tgt := 2331) hx hb dL_law_1517 (by decide) ?_
      exact kk _ _ _ _ _ ⟨_, _, _, _, _, _, _, _, _, _, hL2⟩ hS (by omega) (by omega) (lv_sub hl [2, 3, 4, 5, 6] rfl)
    · refine lv_aload_n hx hb dL_law_1480 rfl (lv_at hl 3 rfl) ?_
      refine lv_aload_n hx hb dL_law_1481 rfl (lv_at hl 4 rfl) ?_
      refine lv_iload hx hb dL_law_1482 (lv_at hl 0 rfl) ?_
      refine q_con hx hb dL_law_1484 ?_
      refine q_add hx hb dL_law_1485 ?_
      refine r_xld hx hb hX hbl hbA hS (i := i + 1) (z := x1) (by omega) hL ex1 dL_law_1486 ?_
      refine lv_aload_n hx hb dL_law_1487 rfl (lv_at hl 4 rfl) ?_
      refine lv_iload hx hb dL_law_1488 (lv_at hl 0 rfl) ?_
      refine q_con hx hb dL_law_1490 ?_
      refine q_add hx hb dL_law_1491 ?_
      refine r_xld hx hb hX hbl hbA hS (i := i + 2) (z := x2) (by omega) hL ex2 dL_law_1492 ?_
      refine lv_aload_n hx hb dL_law_1493 rfl (lv_at hl 1 rfl) ?_
      refine c_SWr (As := [.ref (u 0), .int (iI x1), .int (iI x2), .ref o]) (rest := []) (r := .int (iI 1)) fx hl (wn2_ofMonthNumber θ l hl0 S0 _ u dt (fun j => sv j 0) (fun j => sv j 1) (fun j => sv j 2) bc rf kn hcr hjH hn o nv sv9 ho hLX.1 x1 x2 (by first | assumption | omega | (dsimp only; first | assumption | omega) | exact Hid.mk (by first | assumption | omega) | exact Hid.mk ⟨fun _ => by first | assumption | omega, fun _ => by first | assumption | omega⟩) (by first | assumption | omega | (dsimp only; first | assumption | omega) | exact Hid.mk (by first | assumption | omega) | exact Hid.mk ⟨fun _ => by first | assumption | omega, fun _ => by first | assumption | omega⟩) (by first | assumption | omega | (dsimp only; first | assumption | omega) | exact Hid.mk (by first | assumption | omega) | exact Hid.mk ⟨fun _ => by first | assumption | omega, fun _ => by first | assumption | omega⟩) (by first | assumption | omega | (dsimp only; first | assumption | omega) | exact Hid.mk (by first | assumption | omega) | exact Hid.mk ⟨fun _ => by first | assumption | omega, fun _ => by first | assumption | omega⟩)) dL_law_1494 k924 k925 k0 k926 hd_L_ofMonthNumber rfl ⟨by omega, by omega⟩ (Nat.le_of_ble_eq_true rfl) ⟨by (try dsimp only); omega, by (try dsimp only); omega⟩ hS (fun x h => h.elim (fun h => h.elim (fun ⟨j, hj, e⟩ => e ▸ hu.2 j hj) (fun h => Nat.le_trans hzH.2.1 h)) (fun e => e ▸ hoθ)) (fun H4 locs hpH4 hszH4 hkH4 hS => ?_)
      obtain ⟨hcw, ho1⟩ := hpH4
      have hzH1 := hz0.at hAB hS
      have hjH1 := hj0.at hAB hS
      have hm1 := lw_cls hLX hw hzH1 hkH4
      refine lv_istore (lv' := [(5, .int (iI 1)), (4, .int (iI i)), (3, .ref o), (2, .ref (w 0)), (1, .ref (u 0)), (0, .ref b)]) hx hb dL_law_1497 hl (by decide) rfl (fun ls hl => ?_)
      refine lv_aload_n hx hb dL_law_1499 rfl (lv_at hl 3 rfl) ?_
      refine lv_aload_n hx hb dL_law_1500 rfl (lv_at hl 5 rfl) ?_
      refine lv_iload hx hb dL_law_1501 (lv_at hl 1 rfl) ?_
      refine q_con hx hb dL_law_1503 ?_
      refine q_add hx hb dL_law_1504 ?_
      refine r_xld hx hb hX hbl hbA hS (i := i + 1) (z := x1) (by omega) hL ex1 dL_law_1505 ?_
      refine lv_aload_n hx hb dL_law_1506 rfl (lv_at hl 5 rfl) ?_
      refine lv_iload hx hb dL_law_1507 (lv_at hl 1 rfl) ?_
      refine q_con hx hb dL_law_1509 ?_
      refine q_add hx hb dL_law_1510 ?_
      refine r_xld hx hb hX hbl hbA hS (i := i + 2) (z := x2) (by omega) hL ex2 dL_law_1511 ?_
      refine c_Vr (As := [.int (iI x1), .int (iI x2)]) (rest := []) (b := w 0) (C := RX3) (r := some (.int (iI 0))) (st1 := [.int (iI 0)]) fx hl (mno2_ofMonthNumber θ l S0 _ w r q dt sv th bc rf kn hm1 x1 x2 (by first | assumption | omega | (dsimp only; first | assumption | omega) | exact Hid.mk (by first | assumption | omega) | exact Hid.mk ⟨fun _ => by first | assumption | omega, fun _ => by first | assumption | omega⟩) (by first | assumption | omega | (dsimp only; first | assumption | omega) | exact Hid.mk (by first | assumption | omega) | exact Hid.mk ⟨fun _ => by first | assumption | omega, fun _ => by first | assumption | omega⟩) (by first | assumption | omega | (dsimp only; first | assumption | omega) | exact Hid.mk (by first | assumption | omega) | exact Hid.mk ⟨fun _ => by first | assumption | omega, fun _ => by first | assumption | omega⟩) (by first | assumption | omega | (dsimp only; first | assumption | omega) | exact Hid.mk (by first | assumption | omega) | exact Hid.mk ⟨fun _ => by first | assumption | omega, fun _ => by first | assumption | omega⟩)) (ob_recv hK hm1.2.2.1.1 rfl) dL_law_1512 k1484 k1485 k1486 k6 k1487 hd_X3_ofMonthNumber rfl rfl ⟨by omega, by omega⟩ (Nat.le_of_ble_eq_true rfl) ⟨by (try dsimp only); omega, by (try dsimp only); omega⟩ hS (wa_b hm1.2.1 hzH1.2.1) (fun H5 locs hpH5 hszH5 hkH5 hS => ?_)
      obtain ⟨r1, q1, hm2, nr, nq⟩ := hpH5
      have hzH2 := hz0.at hAB hS
      have hL2 := lw_mod hLX hzH2 hu hcw ho1 hfr hfq hm2 nr nq hkH5
      refine lv_istore (lv' := [(6, .int (iI 0)), (5, .int (iI 1)), (4, .int (iI i)), (3, .ref o), (2, .ref (w 0)), (1, .ref (u 0)), (0, .ref b)]) hx hb dL_law_1515 hl (by decide) rfl (fun ls hl => ?_)
      refine lv_goto (tgt := 2331) hx hb dL_law_1517 (by decide) ?_
      exact kk _ _ _ _ _ ⟨_, _, _, _, _, _, _, _, _, _, hL2⟩ hS (by omega) (by omega) (lv_sub hl [2, 3, 4, 5, 6] rfl)
  · refine lv_aload_n hx hb dL_law_1480 rfl (lv_at hl 3 rfl) ?_
    refine lv_aload_n hx hb dL_law_1481 rfl (lv_at hl 4 rfl) ?_
    refine lv_iload hx hb dL_law_1482 (lv_at hl 0 rfl) ?_
    refine q_con hx hb dL_law_1484 ?_
    refine q_add hx hb dL_law_1485 ?_
    refine r_xld hx hb hX hbl hbA hS (i := i + 1) (z := x1) (by omega) hL ex1 dL_law_1486 ?_
    refine lv_aload_n hx hb dL_law_1487 rfl (lv_at hl 4 rfl) ?_
    refine lv_iload hx hb dL_law_1488 (lv_at hl 0 rfl) ?_
    refine q_con hx hb dL_law_1490 ?_
    refine q_add hx hb dL_law_1491 ?_
    refine r_xld hx hb hX hbl hbA hS (i := i + 2) (z := x2) (by omega) hL ex2 dL_law_1492 ?_
    refine lv_aload_n hx hb dL_law_1493 rfl (lv_at hl 1 rfl) ?_
    refine c_SWr (As := [.ref (u 0), .int (iI x1), .int (iI x2), .ref o]) (rest := []) (r := .int (iI 1)) fx hl (wn1_ofMonthNumber θ l hl0 S0 _ u dt (fun j => sv j 0) (fun j => sv j 1) (fun j => sv j 2) bc rf kn hcr hjH hn o nv sv9 ho hLX.1 x1 x2 (by first | assumption | omega | (dsimp only; first | assumption | omega) | exact Hid.mk (by first | assumption | omega) | exact Hid.mk ⟨fun _ => by first | assumption | omega, fun _ => by first | assumption | omega⟩) (by first | assumption | omega | (dsimp only; first | assumption | omega) | exact Hid.mk (by first | assumption | omega) | exact Hid.mk ⟨fun _ => by first | assumption | omega, fun _ => by first | assumption | omega⟩) (by first | assumption | omega | (dsimp only; first | assumption | omega) | exact Hid.mk (by first | assumption | omega) | exact Hid.mk ⟨fun _ => by first | assumption | omega, fun _ => by first | assumption | omega⟩)) dL_law_1494 k924 k925 k0 k926 hd_L_ofMonthNumber rfl ⟨by omega, by omega⟩ (Nat.le_of_ble_eq_true rfl) ⟨by (try dsimp only); omega, by (try dsimp only); omega⟩ hS (fun x h => h.elim (fun h => h.elim (fun ⟨j, hj, e⟩ => e ▸ hu.2 j hj) (fun h => Nat.le_trans hzH.2.1 h)) (fun e => e ▸ hoθ)) (fun H6 locs hpH6 hszH6 hkH6 hS => ?_)
    obtain ⟨hcw, ho1⟩ := hpH6
    have hzH1 := hz0.at hAB hS
    have hjH1 := hj0.at hAB hS
    have hm1 := lw_cls hLX hw hzH1 hkH6
    refine lv_istore (lv' := [(5, .int (iI 1)), (4, .int (iI i)), (3, .ref o), (2, .ref (w 0)), (1, .ref (u 0)), (0, .ref b)]) hx hb dL_law_1497 hl (by decide) rfl (fun ls hl => ?_)
    refine lv_aload_n hx hb dL_law_1499 rfl (lv_at hl 3 rfl) ?_
    refine lv_aload_n hx hb dL_law_1500 rfl (lv_at hl 5 rfl) ?_
    refine lv_iload hx hb dL_law_1501 (lv_at hl 1 rfl) ?_
    refine q_con hx hb dL_law_1503 ?_
    refine q_add hx hb dL_law_1504 ?_
    refine r_xld hx hb hX hbl hbA hS (i := i + 1) (z := x1) (by omega) hL ex1 dL_law_1505 ?_
    refine lv_aload_n hx hb dL_law_1506 rfl (lv_at hl 5 rfl) ?_
    refine lv_iload hx hb dL_law_1507 (lv_at hl 1 rfl) ?_
    refine q_con hx hb dL_law_1509 ?_
    refine q_add hx hb dL_law_1510 ?_
    refine r_xld hx hb hX hbl hbA hS (i := i + 2) (z := x2) (by omega) hL ex2 dL_law_1511 ?_
    refine c_Vr (As := [.int (iI x1), .int (iI x2)]) (rest := []) (b := w 0) (C := RX3) (r := some (.int (iI 0))) (st1 := [.int (iI 0)]) fx hl (mno1_ofMonthNumber θ l S0 _ w r q dt sv th bc rf kn hm1 x1 x2 (by first | assumption | omega | (dsimp only; first | assumption | omega) | exact Hid.mk (by first | assumption | omega) | exact Hid.mk ⟨fun _ => by first | assumption | omega, fun _ => by first | assumption | omega⟩) (by first | assumption | omega | (dsimp only; first | assumption | omega) | exact Hid.mk (by first | assumption | omega) | exact Hid.mk ⟨fun _ => by first | assumption | omega, fun _ => by first | assumption | omega⟩) (by first | assumption | omega | (dsimp only; first | assumption | omega) | exact Hid.mk (by first | assumption | omega) | exact Hid.mk ⟨fun _ => by first | assumption | omega, fun _ => by first | assumption | omega⟩)) (ob_recv hK hm1.2.2.1.1 rfl) dL_law_1512 k1484 k1485 k1486 k6 k1487 hd_X3_ofMonthNumber rfl rfl ⟨by omega, by omega⟩ (Nat.le_of_ble_eq_true rfl) ⟨by (try dsimp only); omega, by (try dsimp only); omega⟩ hS (wa_b hm1.2.1 hzH1.2.1) (fun H7 locs hpH7 hszH7 hkH7 hS => ?_)
    obtain ⟨r1, q1, hm2, nr, nq⟩ := hpH7
    have hzH2 := hz0.at hAB hS
    have hL2 := lw_mod hLX hzH2 hu hcw ho1 hfr hfq hm2 nr nq hkH7
    refine lv_istore (lv' := [(6, .int (iI 0)), (5, .int (iI 1)), (4, .int (iI i)), (3, .ref o), (2, .ref (w 0)), (1, .ref (u 0)), (0, .ref b)]) hx hb dL_law_1515 hl (by decide) rfl (fun ls hl => ?_)
    refine lv_goto (tgt := 2331) hx hb dL_law_1517 (by decide) ?_
    exact kk _ _ _ _ _ ⟨_, _, _, _, _, _, _, _, _, _, hL2⟩ hS (by omega) (by omega) (lv_sub hl [2, 3, 4, 5, 6] rfl)

set_option maxHeartbeats 4000000 in
set_option maxRecDepth 100000 in
theorem lc_lengths {p : Program} {l : Launch} {e : Env} {R : Room} {s : State} {m : MethodId} {args : Array Value} {below : List Frame} {meth : Method} {c : Code} {Q : State → Prop} {θ : TH} {S0 : State} (fx : FX p m c cL_law 7 s args yL_law.cls S0) (hl0 : l.stackTraces = false) (hz0 : SZ θ S0 s.heap) (hj0 : SJ θ S0 s.heap) (hn : NX S0) {u w : Nat → Nat} {o b L : Nat} {xs : Nat → Int32} (hLX : LX u w o) (hoθ : θ.2.2.2 ≤ o) (hX : va_X b L xs s s.heap) (hbl : b < s.heap.size) (hbA : ¬ AJ θ b) (hL : L ≤ 2560) (hRF : 1000 ≤ R.frames ∧ 1000 ≤ R.locals) {H : Heap} {locs : List Loc} {cells slots : Nat} {ls : Array Slot} {i : Int} (hi : 0 ≤ i ∧ i + 5 ≤ (L : Int)) (hw : LWE θ S0 u w o H) (hS : va_S (AJ θ) s.heap H locs) (hRc : cells + 400 ≤ R.cells ∧ slots + 7000 ≤ R.slots) (hl : lv_has ls 7 [(4, .int (iI i)), (3, .ref o), (2, .ref (w 0)), (1, .ref (u 0)), (0, .ref b)]) (kk : LK p l e R s m args below meth c Q θ S0 u w o b i cells slots 2331) : W p l e R s m args below meth c H locs cells slots Q (F0 m 1520 ls []) := by
  obtain ⟨hx, hb, hml, hown, hts⟩ := id fx.1
  have hAB : ∀ x : Nat, AJ θ x → θ.2.2.2 ≤ x := fun _ h => h
  obtain ⟨r, q, dt, sv, th, bc, rf, kn, nv, sv9, hw⟩ := hw
  obtain ⟨hcr, hmr, ho, hfr, hfq⟩ := id hw
  have hzH := hz0.at hAB hS
  have hjH := hj0.at hAB hS
  have hK := sz_K fx.2 hz0
  have hu := hcr.2.1
  obtain ⟨x1, ex1⟩ : ∃ z : Int, z = (xs (i + 1).toNat).toInt := ⟨_, rfl⟩
  have bx1 := x32_b ex1
  obtain ⟨x2, ex2⟩ : ∃ z : Int, z = (xs (i + 2).toNat).toInt := ⟨_, rfl⟩
  have bx2 := x32_b ex2
  by_cases hc1 : -119988 ≤ x1 ∧ x1 ≤ 119999
  · by_cases hc2 : 0 ≤ x2 ∧ x2 ≤ 48
    · refine lv_aload_n hx hb dL_law_1520 rfl (lv_at hl 3 rfl) ?_
      refine lv_aload_n hx hb dL_law_1521 rfl (lv_at hl 4 rfl) ?_
      refine lv_iload hx hb dL_law_1522 (lv_at hl 0 rfl) ?_
      refine q_con hx hb dL_law_1524 ?_
      refine q_add hx hb dL_law_1525 ?_
      refine r_xld hx hb hX hbl hbA hS (i := i + 1) (z := x1) (by omega) hL ex1 dL_law_1526 ?_
      refine lv_aload_n hx hb dL_law_1527 rfl (lv_at hl 4 rfl) ?_
      refine lv_iload hx hb dL_law_1528 (lv_at hl 0 rfl) ?_
      refine q_con hx hb dL_law_1530 ?_
      refine q_add hx hb dL_law_1531 ?_
      refine r_xld hx hb hX hbl hbA hS (i := i + 2) (z := x2) (by omega) hL ex2 dL_law_1532 ?_
      refine lv_aload_n hx hb dL_law_1533 rfl (lv_at hl 1 rfl) ?_
      refine c_SWr (As := [.ref (u 0), .int (iI x1), .int (iI x2), .ref o]) (rest := []) (r := .int (iI 0)) fx hl (wr_lengths θ l hl0 S0 _ u dt (fun j => sv j 0) (fun j => sv j 1) (fun j => sv j 2) bc rf kn hcr hjH hn o nv sv9 ho hLX.1 x1 x2 (by first | assumption | omega | (dsimp only; first | assumption | omega) | exact Hid.mk (by first | assumption | omega) | exact Hid.mk ⟨fun _ => by first | assumption | omega, fun _ => by first | assumption | omega⟩) (by first | assumption | omega | (dsimp only; first | assumption | omega) | exact Hid.mk (by first | assumption | omega) | exact Hid.mk ⟨fun _ => by first | assumption | omega, fun _ => by first | assumption | omega⟩) (by first | assumption | omega | (dsimp only; first | assumption | omega) | exact Hid.mk (by first | assumption | omega) | exact Hid.mk ⟨fun _ => by first | assumption | omega, fun _ => by first | assumption | omega⟩) (by first | assumption | omega | (dsimp only; first | assumption | omega) | exact Hid.mk (by first | assumption | omega) | exact Hid.mk ⟨fun _ => by first | assumption | omega, fun _ => by first | assumption | omega⟩)) dL_law_1534 k931 k932 k0 k933 hd_L_lengths rfl ⟨by omega, by omega⟩ (Nat.le_of_ble_eq_true rfl) ⟨by (try dsimp only); omega, by (try dsimp only); omega⟩ hS (fun x h => h.elim (fun h => h.elim (fun ⟨j, hj, e⟩ => e ▸ hu.2 j hj) (fun h => Nat.le_trans hzH.2.1 h)) (fun e => e ▸ hoθ)) (fun H1 locs hpH1 hszH1 hkH1 hS => ?_)
      obtain ⟨hcw, ho1⟩ := hpH1
      have hzH1 := hz0.at hAB hS
      have hjH1 := hj0.at hAB hS
      have hm1 := lw_cls hLX hw hzH1 hkH1
      refine lv_istore (lv' := [(5, .int (iI 0)), (4, .int (iI i)), (3, .ref o), (2, .ref (w 0)), (1, .ref (u 0)), (0, .ref b)]) hx hb dL_law_1537 hl (by decide) rfl (fun ls hl => ?_)
      refine lv_aload_n hx hb dL_law_1539 rfl (lv_at hl 3 rfl) ?_
      refine lv_aload_n hx hb dL_law_1540 rfl (lv_at hl 5 rfl) ?_
      refine lv_iload hx hb dL_law_1541 (lv_at hl 1 rfl) ?_
      refine q_con hx hb dL_law_1543 ?_
      refine q_add hx hb dL_law_1544 ?_
      refine r_xld hx hb hX hbl hbA hS (i := i + 1) (z := x1) (by omega) hL ex1 dL_law_1545 ?_
      refine lv_aload_n hx hb dL_law_1546 rfl (lv_at hl 5 rfl) ?_
      refine lv_iload hx hb dL_law_1547 (lv_at hl 1 rfl) ?_
      refine q_con hx hb dL_law_1549 ?_
      refine q_add hx hb dL_law_1550 ?_
      refine r_xld hx hb hX hbl hbA hS (i := i + 2) (z := x2) (by omega) hL ex2 dL_law_1551 ?_
      refine c_Vr (As := [.int (iI x1), .int (iI x2)]) (rest := []) (b := w 0) (C := RX3) (r := some (.int (iI (fI (x1 + x2) - fI x1)))) (st1 := [.int (iI (fI (x1 + x2) - fI x1))]) fx hl (mok_lengths θ l S0 _ w r q dt sv th bc rf kn hm1 x1 x2 (by first | assumption | omega | (dsimp only; first | assumption | omega) | exact Hid.mk (by first | assumption | omega) | exact Hid.mk ⟨fun _ => by first | assumption | omega, fun _ => by first | assumption | omega⟩) (by first | assumption | omega | (dsimp only; first | assumption | omega) | exact Hid.mk (by first | assumption | omega) | exact Hid.mk ⟨fun _ => by first | assumption | omega, fun _ => by first | assumption | omega⟩) (by first | assumption | omega | (dsimp only; first | assumption | omega) | exact Hid.mk (by first | assumption | omega) | exact Hid.mk ⟨fun _ => by first | assumption | omega, fun _ => by first | assumption | omega⟩) (by first | assumption | omega | (dsimp only; first | assumption | omega) | exact Hid.mk (by first | assumption | omega) | exact Hid.mk ⟨fun _ => by first | assumption | omega, fun _ => by first | assumption | omega⟩)) (ob_recv hK hm1.2.2.1.1 rfl) dL_law_1552 k1491 k1492 k1493 k6 k1494 hd_X3_lengths rfl rfl ⟨by omega, by omega⟩ (Nat.le_of_ble_eq_true rfl) ⟨by (try dsimp only); omega, by (try dsimp only); omega⟩ hS (wa_b hm1.2.1 hzH1.2.1) (fun H2 locs hpH2 hszH2 hkH2 hS => ?_)
      obtain ⟨r1, q1, hm2, nr, nq⟩ := hpH2
      have hzH2 := hz0.at hAB hS
      have hL2 := lw_mod hLX hzH2 hu hcw ho1 hfr hfq hm2 nr nq hkH2
      refine q_nm (fun z3 ez3 => ?_)
      refine lv_istore (lv' := [(6, .int (iI z3)), (5, .int (iI 0)), (4, .int (iI i)), (3, .ref o), (2, .ref (w 0)), (1, .ref (u 0)), (0, .ref b)]) hx hb dL_law_1555 hl (by decide) rfl (fun ls hl => ?_)
      refine lv_goto (tgt := 2331) hx hb dL_law_1557 (by decide) ?_
      exact kk _ _ _ _ _ ⟨_, _, _, _, _, _, _, _, _, _, hL2⟩ hS (by omega) (by omega) (lv_sub hl [2, 3, 4, 5, 6] rfl)
    · refine lv_aload_n hx hb dL_law_1520 rfl (lv_at hl 3 rfl) ?_
      refine lv_aload_n hx hb dL_law_1521 rfl (lv_at hl 4 rfl) ?_
      refine lv_iload hx hb dL_law_1522 (lv_at hl 0 rfl) ?_
      refine q_con hx hb dL_law_1524 ?_
      refine q_add hx hb dL_law_1525 ?_
      refine r_xld hx hb hX hbl hbA hS (i := i + 1) (z := x1) (by omega) hL ex1 dL_law_1526 ?_
      refine lv_aload_n hx hb dL_law_1527 rfl (lv_at hl 4 rfl) ?_
      refine lv_iload hx hb dL_law_1528 (lv_at hl 0 rfl) ?_
      refine q_con hx hb dL_law_1530 ?_
      refine q_add hx hb dL_law_1531 ?_
      refine r_xld hx hb hX hbl hbA hS (i := i + 2) (z := x2) (by omega) hL ex2 dL_law_1532 ?_
      refine lv_aload_n hx hb dL_law_1533 rfl (lv_at hl 1 rfl) ?_
      refine c_SWr (As := [.ref (u 0), .int (iI x1), .int (iI x2), .ref o]) (rest := []) (r := .int (iI 1)) fx hl (wn2_lengths θ l hl0 S0 _ u dt (fun j => sv j 0) (fun j => sv j 1) (fun j => sv j 2) bc rf kn hcr hjH hn o nv sv9 ho hLX.1 x1 x2 (by first | assumption | omega | (dsimp only; first | assumption | omega) | exact Hid.mk (by first | assumption | omega) | exact Hid.mk ⟨fun _ => by first | assumption | omega, fun _ => by first | assumption | omega⟩) (by first | assumption | omega | (dsimp only; first | assumption | omega) | exact Hid.mk (by first | assumption | omega) | exact Hid.mk ⟨fun _ => by first | assumption | omega, fun _ => by first | assumption | omega⟩) (by first | assumption | omega | (dsimp only; first | assumption | omega) | exact Hid.mk (by first | assumption | omega) | exact Hid.mk ⟨fun _ => by first | assumption | omega, fun _ => by first | assumption | omega⟩) (by first | assumption | omega | (dsimp only; first | assumption | omega) | exact Hid.mk (by first | assumption | omega) | exact Hid.mk ⟨fun _ => by first | assumption | omega, fun _ => by first | assumption | omega⟩)) dL_law_1534 k931 k932 k0 k933 hd_L_lengths rfl ⟨by omega, by omega⟩ (Nat.le_of_ble_eq_true rfl) ⟨by (try dsimp only); omega, by (try dsimp only); omega⟩ hS (fun x h => h.elim (fun h => h.elim (fun ⟨j, hj, e⟩ => e ▸ hu.2 j hj) (fun h => Nat.le_trans hzH.2.1 h)) (fun e => e ▸ hoθ)) (fun H4 locs hpH4 hszH4 hkH4 hS => ?_)
      obtain ⟨hcw, ho1⟩ := hpH4
      have hzH1 := hz0.at hAB hS
      have hjH1 := hj0.at hAB hS
      have hm1 := lw_cls hLX hw hzH1 hkH4
      refine lv_istore (lv' := [(5, .int (iI 1)), (4, .int (iI i)), (3, .ref o), (2, .ref (w 0)), (1, .ref (u 0)), (0, .ref b)]) hx hb dL_law_1537 hl (by decide) rfl (fun ls hl => ?_)
      refine lv_aload_n hx hb dL_law_1539 rfl (lv_at hl 3 rfl) ?_
      refine lv_aload_n hx hb dL_law_1540 rfl (lv_at hl 5 rfl) ?_
      refine lv_iload hx hb dL_law_1541 (lv_at hl 1 rfl) ?_
      refine q_con hx hb dL_law_1543 ?_
      refine q_add hx hb dL_law_1544 ?_
      refine r_xld hx hb hX hbl hbA hS (i := i + 1) (z := x1) (by omega) hL ex1 dL_law_1545 ?_
      refine lv_aload_n hx hb dL_law_1546 rfl (lv_at hl 5 rfl) ?_
      refine lv_iload hx hb dL_law_1547 (lv_at hl 1 rfl) ?_
      refine q_con hx hb dL_law_1549 ?_
      refine q_add hx hb dL_law_1550 ?_
      refine r_xld hx hb hX hbl hbA hS (i := i + 2) (z := x2) (by omega) hL ex2 dL_law_1551 ?_
      refine c_Vr (As := [.int (iI x1), .int (iI x2)]) (rest := []) (b := w 0) (C := RX3) (r := some (.int (iI 0))) (st1 := [.int (iI 0)]) fx hl (mno2_lengths θ l S0 _ w r q dt sv th bc rf kn hm1 x1 x2 (by first | assumption | omega | (dsimp only; first | assumption | omega) | exact Hid.mk (by first | assumption | omega) | exact Hid.mk ⟨fun _ => by first | assumption | omega, fun _ => by first | assumption | omega⟩) (by first | assumption | omega | (dsimp only; first | assumption | omega) | exact Hid.mk (by first | assumption | omega) | exact Hid.mk ⟨fun _ => by first | assumption | omega, fun _ => by first | assumption | omega⟩) (by first | assumption | omega | (dsimp only; first | assumption | omega) | exact Hid.mk (by first | assumption | omega) | exact Hid.mk ⟨fun _ => by first | assumption | omega, fun _ => by first | assumption | omega⟩) (by first | assumption | omega | (dsimp only; first | assumption | omega) | exact Hid.mk (by first | assumption | omega) | exact Hid.mk ⟨fun _ => by first | assumption | omega, fun _ => by first | assumption | omega⟩)) (ob_recv hK hm1.2.2.1.1 rfl) dL_law_1552 k1491 k1492 k1493 k6 k1494 hd_X3_lengths rfl rfl ⟨by omega, by omega⟩ (Nat.le_of_ble_eq_true rfl) ⟨by (try dsimp only); omega, by (try dsimp only); omega⟩ hS (wa_b hm1.2.1 hzH1.2.1) (fun H5 locs hpH5 hszH5 hkH5 hS => ?_)
      obtain ⟨r1, q1, hm2, nr, nq⟩ := hpH5
      have hzH2 := hz0.at hAB hS
      have hL2 := lw_mod hLX hzH2 hu hcw ho1 hfr hfq hm2 nr nq hkH5
      refine lv_istore (lv' := [(6, .int (iI 0)), (5, .int (iI 1)), (4, .int (iI i)), (3, .ref o), (2, .ref (w 0)), (1, .ref (u 0)), (0, .ref b)]) hx hb dL_law_1555 hl (by decide) rfl (fun ls hl => ?_)
      refine lv_goto (tgt := 2331) hx hb dL_law_1557 (by decide) ?_
      exact kk _ _ _ _ _ ⟨_, _, _, _, _, _, _, _, _, _, hL2⟩ hS (by omega) (by omega) (lv_sub hl [2, 3, 4, 5, 6] rfl)
  · refine lv_aload_n hx hb dL_law_1520 rfl (lv_at hl 3 rfl) ?_
    refine lv_aload_n hx hb dL_law_1521 rfl (lv_at hl 4 rfl) ?_
    refine lv_iload hx hb dL_law_1522 (lv_at hl 0 rfl) ?_
    refine q_con hx hb dL_law_1524 ?_
    refine q_add hx hb dL_law_1525 ?_
    refine r_xld hx hb hX hbl hbA hS (i := i + 1) (z := x1) (by omega) hL ex1 dL_law_1526 ?_
    refine lv_aload_n hx hb dL_law_1527 rfl (lv_at hl 4 rfl) ?_
    refine lv_iload hx hb dL_law_1528 (lv_at hl 0 rfl) ?_
    refine q_con hx hb dL_law_1530 ?_
    refine q_add hx hb dL_law_1531 ?_
    refine r_xld hx hb hX hbl hbA hS (i := i + 2) (z := x2) (by omega) hL ex2 dL_law_1532 ?_
    refine lv_aload_n hx hb dL_law_1533 rfl (lv_at hl 1 rfl) ?_
    refine c_SWr (As := [.ref (u 0), .int (iI x1), .int (iI x2), .ref o]) (rest := []) (r := .int (iI 1)) fx hl (wn1_lengths θ l hl0 S0 _ u dt (fun j => sv j 0) (fun j => sv j 1) (fun j => sv j 2) bc rf kn hcr hjH hn o nv sv9 ho hLX.1 x1 x2 (by first | assumption | omega | (dsimp only; first | assumption | omega) | exact Hid.mk (by first | assumption | omega) | exact Hid.mk ⟨fun _ => by first | assumption | omega, fun _ => by first | assumption | omega⟩) (by first | assumption | omega | (dsimp only; first | assumption | omega) | exact Hid.mk (by first | assumption | omega) | exact Hid.mk ⟨fun _ => by first | assumption | omega, fun _ => by first | assumption | omega⟩) (by first | assumption | omega | (dsimp only; first | assumption | omega) | exact Hid.mk (by first | assumption | omega) | exact Hid.mk ⟨fun _ => by first | assumption | omega, fun _ => by first | assumption | omega⟩)) dL_law_1534 k931 k932 k0 k933 hd_L_lengths rfl ⟨by omega, by omega⟩ (Nat.le_of_ble_eq_true rfl) ⟨by (try dsimp only); omega, by (try dsimp only); omega⟩ hS (fun x h => h.elim (fun h => h.elim (fun ⟨j, hj, e⟩ => e ▸ hu.2 j hj) (fun h => Nat.le_trans hzH.2.1 h)) (fun e => e ▸ hoθ)) (fun H6 locs hpH6 hszH6 hkH6 hS => ?_)
    obtain ⟨hcw, ho1⟩ := hpH6
    have hzH1 := hz0.at hAB hS
    have hjH1 := hj0.at hAB hS
    have hm1 := lw_cls hLX hw hzH1 hkH6
    refine lv_istore (lv' := [(5, .int (iI 1)), (4, .int (iI i)), (3, .ref o), (2, .ref (w 0)), (1, .ref (u 0)), (0, .ref b)]) hx hb dL_law_1537 hl (by decide) rfl (fun ls hl => ?_)
    refine lv_aload_n hx hb dL_law_1539 rfl (lv_at hl 3 rfl) ?_
    refine lv_aload_n hx hb dL_law_1540 rfl (lv_at hl 5 rfl) ?_
    refine lv_iload hx hb dL_law_1541 (lv_at hl 1 rfl) ?_
    refine q_con hx hb dL_law_1543 ?_
    refine q_add hx hb dL_law_1544 ?_
    refine r_xld hx hb hX hbl hbA hS (i := i + 1) (z := x1) (by omega) hL ex1 dL_law_1545 ?_
    refine lv_aload_n hx hb dL_law_1546 rfl (lv_at hl 5 rfl) ?_
    refine lv_iload hx hb dL_law_1547 (lv_at hl 1 rfl) ?_
    refine q_con hx hb dL_law_1549 ?_
    refine q_add hx hb dL_law_1550 ?_
    refine r_xld hx hb hX hbl hbA hS (i := i + 2) (z := x2) (by omega) hL ex2 dL_law_1551 ?_
    refine c_Vr (As := [.int (iI x1), .int (iI x2)]) (rest := []) (b := w 0) (C := RX3) (r := some (.int (iI 0))) (st1 := [.int (iI 0)]) fx hl (mno1_lengths θ l S0 _ w r q dt sv th bc rf kn hm1 x1 x2 (by first | assumption | omega | (dsimp only; first | assumption | omega) | exact Hid.mk (by first | assumption | omega) | exact Hid.mk ⟨fun _ => by first | assumption | omega, fun _ => by first | assumption | omega⟩) (by first | assumption | omega | (dsimp only; first | assumption | omega) | exact Hid.mk (by first | assumption | omega) | exact Hid.mk ⟨fun _ => by first | assumption | omega, fun _ => by first | assumption | omega⟩) (by first | assumption | omega | (dsimp only; first | assumption | omega) | exact Hid.mk (by first | assumption | omega) | exact Hid.mk ⟨fun _ => by first | assumption | omega, fun _ => by first | assumption | omega⟩)) (ob_recv hK hm1.2.2.1.1 rfl) dL_law_1552 k1491 k1492 k1493 k6 k1494 hd_X3_lengths rfl rfl ⟨by omega, by omega⟩ (Nat.le_of_ble_eq_true rfl) ⟨by (try dsimp only); omega, by (try dsimp only); omega⟩ hS (wa_b hm1.2.1 hzH1.2.1) (fun H7 locs hpH7 hszH7 hkH7 hS => ?_)
    obtain ⟨r1, q1, hm2, nr, nq⟩ := hpH7
    have hzH2 := hz0.at hAB hS
    have hL2 := lw_mod hLX hzH2 hu hcw ho1 hfr hfq hm2 nr nq hkH7
    refine lv_istore (lv' := [(6, .int (iI 0)), (5, .int (iI 1)), (4, .int (iI i)), (3, .ref o), (2, .ref (w 0)), (1, .ref (u 0)), (0, .ref b)]) hx hb dL_law_1555 hl (by decide) rfl (fun ls hl => ?_)
    refine lv_goto (tgt := 2331) hx hb dL_law_1557 (by decide) ?_
    exact kk _ _ _ _ _ ⟨_, _, _, _, _, _, _, _, _, _, hL2⟩ hS (by omega) (by omega) (lv_sub hl [2, 3, 4, 5, 6] rfl)

set_option maxHeartbeats 4000000 in
set_option maxRecDepth 100000 in
theorem lc_weekday {p : Program} {l : Launch} {e : Env} {R : Room} {s : State} {m : MethodId} {args : Array Value} {below : List Frame} {meth : Method} {c : Code} {Q : State → Prop} {θ : TH} {S0 : State} (fx : FX p m c cL_law 7 s args yL_law.cls S0) (hl0 : l.stackTraces = false) (hz0 : SZ θ S0 s.heap) (hj0 : SJ θ S0 s.heap) (hn : NX S0) {u w : Nat → Nat} {o b L : Nat} {xs : Nat → Int32} (hLX : LX u w o) (hoθ : θ.2.2.2 ≤ o) (hX : va_X b L xs s s.heap) (hbl : b < s.heap.size) (hbA : ¬ AJ θ b) (hL : L ≤ 2560) (hRF : 1000 ≤ R.frames ∧ 1000 ≤ R.locals) {H : Heap} {locs : List Loc} {cells slots : Nat} {ls : Array Slot} {i : Int} (hi : 0 ≤ i ∧ i + 5 ≤ (L : Int)) (hw : LWE θ S0 u w o H) (hS : va_S (AJ θ) s.heap H locs) (hRc : cells + 400 ≤ R.cells ∧ slots + 7000 ≤ R.slots) (hl : lv_has ls 7 [(4, .int (iI i)), (3, .ref o), (2, .ref (w 0)), (1, .ref (u 0)), (0, .ref b)]) (kk : LK p l e R s m args below meth c Q θ S0 u w o b i cells slots 2331) : W p l e R s m args below meth c H locs cells slots Q (F0 m 1560 ls []) := by
  obtain ⟨hx, hb, hml, hown, hts⟩ := id fx.1
  have hAB : ∀ x : Nat, AJ θ x → θ.2.2.2 ≤ x := fun _ h => h
  obtain ⟨r, q, dt, sv, th, bc, rf, kn, nv, sv9, hw⟩ := hw
  obtain ⟨hcr, hmr, ho, hfr, hfq⟩ := id hw
  have hzH := hz0.at hAB hS
  have hjH := hj0.at hAB hS
  have hK := sz_K fx.2 hz0
  have hu := hcr.2.1
  obtain ⟨x1, ex1⟩ : ∃ z : Int, z = (xs (i + 1).toNat).toInt := ⟨_, rfl⟩
  have bx1 := x32_b ex1
  by_cases hc1 : 0 ≤ x1 ∧ x1 < 6
  · refine lv_aload_n hx hb dL_law_1560 rfl (lv_at hl 3 rfl) ?_
    refine lv_aload_n hx hb dL_law_1561 rfl (lv_at hl 4 rfl) ?_
    refine lv_iload hx hb dL_law_1562 (lv_at hl 0 rfl) ?_
    refine q_con hx hb dL_law_1564 ?_
    refine q_add hx hb dL_law_1565 ?_
    refine r_xld hx hb hX hbl hbA hS (i := i + 1) (z := x1) (by omega) hL ex1 dL_law_1566 ?_
    refine lv_aload_n hx hb dL_law_1567 rfl (lv_at hl 1 rfl) ?_
    refine c_SWr (As := [.ref (u 0), .int (iI x1), .ref o]) (rest := []) (r := .int (iI 0)) fx hl (wr_weekday θ l hl0 S0 _ u dt (fun j => sv j 0) (fun j => sv j 1) (fun j => sv j 2) bc rf kn hcr hjH hn o nv sv9 ho hLX.1 x1 (by first | assumption | omega | (dsimp only; first | assumption | omega) | exact Hid.mk (by first | assumption | omega) | exact Hid.mk ⟨fun _ => by first | assumption | omega, fun _ => by first | assumption | omega⟩) (by first | assumption | omega | (dsimp only; first | assumption | omega) | exact Hid.mk (by first | assumption | omega) | exact Hid.mk ⟨fun _ => by first | assumption | omega, fun _ => by first | assumption | omega⟩)) dL_law_1568 k938 k939 k0 k940 hd_L_weekday rfl ⟨by omega, by omega⟩ (Nat.le_of_ble_eq_true rfl) ⟨by (try dsimp only); omega, by (try dsimp only); omega⟩ hS (fun x h => h.elim (fun h => h.elim (fun ⟨j, hj, e⟩ => e ▸ hu.2 j hj) (fun h => Nat.le_trans hzH.2.1 h)) (fun e => e ▸ hoθ)) (fun H1 locs hpH1 hszH1 hkH1 hS => ?_)
    obtain ⟨hcw, ho1⟩ := hpH1
    have hzH1 := hz0.at hAB hS
    have hjH1 := hj0.at hAB hS
    have hm1 := lw_cls hLX hw hzH1 hkH1
    refine lv_istore (lv' := [(5, .int (iI 0)), (4, .int (iI i)), (3, .ref o), (2, .ref (w 0)), (1, .ref (u 0)), (0, .ref b)]) hx hb dL_law_1571 hl (by decide) rfl (fun ls hl => ?_)
    refine lv_aload_n hx hb dL_law_1573 rfl (lv_at hl 3 rfl) ?_
    refine lv_aload_n hx hb dL_law_1574 rfl (lv_at hl 5 rfl) ?_
    refine lv_iload hx hb dL_law_1575 (lv_at hl 1 rfl) ?_
    refine q_con hx hb dL_law_1577 ?_
    refine q_add hx hb dL_law_1578 ?_
    refine r_xld hx hb hX hbl hbA hS (i := i + 1) (z := x1) (by omega) hL ex1 dL_law_1579 ?_
    refine c_Vr (As := [.int (iI x1)]) (rest := []) (b := w 0) (C := RX3) (r := some (.int (iI (wI (dt x1.toNat))))) (st1 := [.int (iI (wI (dt x1.toNat)))]) fx hl (mok_weekday θ l S0 _ w r q dt sv th bc rf kn hm1 x1 (by first | assumption | omega | (dsimp only; first | assumption | omega) | exact Hid.mk (by first | assumption | omega) | exact Hid.mk ⟨fun _ => by first | assumption | omega, fun _ => by first | assumption | omega⟩) (by first | assumption | omega | (dsimp only; first | assumption | omega) | exact Hid.mk (by first | assumption | omega) | exact Hid.mk ⟨fun _ => by first | assumption | omega, fun _ => by first | assumption | omega⟩)) (ob_recv hK hm1.2.2.1.1 rfl) dL_law_1580 k1495 k1496 k1497 k6 k1498 hd_X3_weekday rfl rfl ⟨by omega, by omega⟩ (Nat.le_of_ble_eq_true rfl) ⟨by (try dsimp only); omega, by (try dsimp only); omega⟩ hS (wa_b hm1.2.1 hzH1.2.1) (fun H2 locs hpH2 hszH2 hkH2 hS => ?_)
    obtain ⟨r1, q1, hm2, nr, nq⟩ := hpH2
    have hzH2 := hz0.at hAB hS
    have hL2 := lw_mod hLX hzH2 hu hcw ho1 hfr hfq hm2 nr nq hkH2
    refine lv_istore (lv' := [(6, .int (iI (wI (dt x1.toNat)))), (5, .int (iI 0)), (4, .int (iI i)), (3, .ref o), (2, .ref (w 0)), (1, .ref (u 0)), (0, .ref b)]) hx hb dL_law_1583 hl (by decide) rfl (fun ls hl => ?_)
    refine lv_goto (tgt := 2331) hx hb dL_law_1585 (by decide) ?_
    exact kk _ _ _ _ _ ⟨_, _, _, _, _, _, _, _, _, _, hL2⟩ hS (by omega) (by omega) (lv_sub hl [2, 3, 4, 5, 6] rfl)
  · refine lv_aload_n hx hb dL_law_1560 rfl (lv_at hl 3 rfl) ?_
    refine lv_aload_n hx hb dL_law_1561 rfl (lv_at hl 4 rfl) ?_
    refine lv_iload hx hb dL_law_1562 (lv_at hl 0 rfl) ?_
    refine q_con hx hb dL_law_1564 ?_
    refine q_add hx hb dL_law_1565 ?_
    refine r_xld hx hb hX hbl hbA hS (i := i + 1) (z := x1) (by omega) hL ex1 dL_law_1566 ?_
    refine lv_aload_n hx hb dL_law_1567 rfl (lv_at hl 1 rfl) ?_
    refine c_SWr (As := [.ref (u 0), .int (iI x1), .ref o]) (rest := []) (r := .int (iI 1)) fx hl (wn1_weekday θ l hl0 S0 _ u dt (fun j => sv j 0) (fun j => sv j 1) (fun j => sv j 2) bc rf kn hcr hjH hn o nv sv9 ho hLX.1 x1 (by first | assumption | omega | (dsimp only; first | assumption | omega) | exact Hid.mk (by first | assumption | omega) | exact Hid.mk ⟨fun _ => by first | assumption | omega, fun _ => by first | assumption | omega⟩) (by first | assumption | omega | (dsimp only; first | assumption | omega) | exact Hid.mk (by first | assumption | omega) | exact Hid.mk ⟨fun _ => by first | assumption | omega, fun _ => by first | assumption | omega⟩)) dL_law_1568 k938 k939 k0 k940 hd_L_weekday rfl ⟨by omega, by omega⟩ (Nat.le_of_ble_eq_true rfl) ⟨by (try dsimp only); omega, by (try dsimp only); omega⟩ hS (fun x h => h.elim (fun h => h.elim (fun ⟨j, hj, e⟩ => e ▸ hu.2 j hj) (fun h => Nat.le_trans hzH.2.1 h)) (fun e => e ▸ hoθ)) (fun H3 locs hpH3 hszH3 hkH3 hS => ?_)
    obtain ⟨hcw, ho1⟩ := hpH3
    have hzH1 := hz0.at hAB hS
    have hjH1 := hj0.at hAB hS
    have hm1 := lw_cls hLX hw hzH1 hkH3
    refine lv_istore (lv' := [(5, .int (iI 1)), (4, .int (iI i)), (3, .ref o), (2, .ref (w 0)), (1, .ref (u 0)), (0, .ref b)]) hx hb dL_law_1571 hl (by decide) rfl (fun ls hl => ?_)
    refine lv_aload_n hx hb dL_law_1573 rfl (lv_at hl 3 rfl) ?_
    refine lv_aload_n hx hb dL_law_1574 rfl (lv_at hl 5 rfl) ?_
    refine lv_iload hx hb dL_law_1575 (lv_at hl 1 rfl) ?_
    refine q_con hx hb dL_law_1577 ?_
    refine q_add hx hb dL_law_1578 ?_
    refine r_xld hx hb hX hbl hbA hS (i := i + 1) (z := x1) (by omega) hL ex1 dL_law_1579 ?_
    refine c_Vr (As := [.int (iI x1)]) (rest := []) (b := w 0) (C := RX3) (r := some (.int (iI 0))) (st1 := [.int (iI 0)]) fx hl (mno1_weekday θ l S0 _ w r q dt sv th bc rf kn hm1 x1 (by first | assumption | omega | (dsimp only; first | assumption | omega) | exact Hid.mk (by first | assumption | omega) | exact Hid.mk ⟨fun _ => by first | assumption | omega, fun _ => by first | assumption | omega⟩) (by first | assumption | omega | (dsimp only; first | assumption | omega) | exact Hid.mk (by first | assumption | omega) | exact Hid.mk ⟨fun _ => by first | assumption | omega, fun _ => by first | assumption | omega⟩)) (ob_recv hK hm1.2.2.1.1 rfl) dL_law_1580 k1495 k1496 k1497 k6 k1498 hd_X3_weekday rfl rfl ⟨by omega, by omega⟩ (Nat.le_of_ble_eq_true rfl) ⟨by (try dsimp only); omega, by (try dsimp only); omega⟩ hS (wa_b hm1.2.1 hzH1.2.1) (fun H4 locs hpH4 hszH4 hkH4 hS => ?_)
    obtain ⟨r1, q1, hm2, nr, nq⟩ := hpH4
    have hzH2 := hz0.at hAB hS
    have hL2 := lw_mod hLX hzH2 hu hcw ho1 hfr hfq hm2 nr nq hkH4
    refine lv_istore (lv' := [(6, .int (iI 0)), (5, .int (iI 1)), (4, .int (iI i)), (3, .ref o), (2, .ref (w 0)), (1, .ref (u 0)), (0, .ref b)]) hx hb dL_law_1583 hl (by decide) rfl (fun ls hl => ?_)
    refine lv_goto (tgt := 2331) hx hb dL_law_1585 (by decide) ?_
    exact kk _ _ _ _ _ ⟨_, _, _, _, _, _, _, _, _, _, hL2⟩ hS (by omega) (by omega) (lv_sub hl [2, 3, 4, 5, 6] rfl)

set_option maxHeartbeats 4000000 in
set_option maxRecDepth 100000 in
theorem lc_nth {p : Program} {l : Launch} {e : Env} {R : Room} {s : State} {m : MethodId} {args : Array Value} {below : List Frame} {meth : Method} {c : Code} {Q : State → Prop} {θ : TH} {S0 : State} (fx : FX p m c cL_law 7 s args yL_law.cls S0) (hl0 : l.stackTraces = false) (hz0 : SZ θ S0 s.heap) (hj0 : SJ θ S0 s.heap) (hn : NX S0) {u w : Nat → Nat} {o b L : Nat} {xs : Nat → Int32} (hLX : LX u w o) (hoθ : θ.2.2.2 ≤ o) (hX : va_X b L xs s s.heap) (hbl : b < s.heap.size) (hbA : ¬ AJ θ b) (hL : L ≤ 2560) (hRF : 1000 ≤ R.frames ∧ 1000 ≤ R.locals) {H : Heap} {locs : List Loc} {cells slots : Nat} {ls : Array Slot} {i : Int} (hi : 0 ≤ i ∧ i + 5 ≤ (L : Int)) (hw : LWE θ S0 u w o H) (hS : va_S (AJ θ) s.heap H locs) (hRc : cells + 400 ≤ R.cells ∧ slots + 7000 ≤ R.slots) (hl : lv_has ls 7 [(4, .int (iI i)), (3, .ref o), (2, .ref (w 0)), (1, .ref (u 0)), (0, .ref b)]) (kk : LK p l e R s m args below meth c Q θ S0 u w o b i cells slots 2331) : W p l e R s m args below meth c H locs cells slots Q (F0 m 1588 ls []) := by
  obtain ⟨hx, hb, hml, hown, hts⟩ := id fx.1
  have hAB : ∀ x : Nat, AJ θ x → θ.2.2.2 ≤ x := fun _ h => h
  obtain ⟨r, q, dt, sv, th, bc, rf, kn, nv, sv9, hw⟩ := hw
  obtain ⟨hcr, hmr, ho, hfr, hfq⟩ := id hw
  have hzH := hz0.at hAB hS
  have hjH := hj0.at hAB hS
  have hK := sz_K fx.2 hz0
  have hu := hcr.2.1
  obtain ⟨x1, ex1⟩ : ∃ z : Int, z = (xs (i + 1).toNat).toInt := ⟨_, rfl⟩
  have bx1 := x32_b ex1
  obtain ⟨x2, ex2⟩ : ∃ z : Int, z = (xs (i + 2).toNat).toInt := ⟨_, rfl⟩
  have bx2 := x32_b ex2
  obtain ⟨x3, ex3⟩ : ∃ z : Int, z = (xs (i + 3).toNat).toInt := ⟨_, rfl⟩
  have bx3 := x32_b ex3
  by_cases hc1 : -119988 ≤ x1 ∧ x1 ≤ 119999
  · by_cases hc2 : 1 ≤ x2 ∧ x2 ≤ 7
    · by_cases hc3 : 1 ≤ x3 ∧ x3 ≤ 5
      · refine lv_aload_n hx hb dL_law_1588 rfl (lv_at hl 3 rfl) ?_
        refine lv_aload_n hx hb dL_law_1589 rfl (lv_at hl 4 rfl) ?_
        refine lv_iload hx hb dL_law_1590 (lv_at hl 0 rfl) ?_
        refine q_con hx hb dL_law_1592 ?_
        refine q_add hx hb dL_law_1593 ?_
        refine r_xld hx hb hX hbl hbA hS (i := i + 1) (z := x1) (by omega) hL ex1 dL_law_1594 ?_
        refine lv_aload_n hx hb dL_law_1595 rfl (lv_at hl 4 rfl) ?_
        refine lv_iload hx hb dL_law_1596 (lv_at hl 0 rfl) ?_
        refine q_con hx hb dL_law_1598 ?_
        refine q_add hx hb dL_law_1599 ?_
        refine r_xld hx hb hX hbl hbA hS (i := i + 2) (z := x2) (by omega) hL ex2 dL_law_1600 ?_
        refine lv_aload_n hx hb dL_law_1601 rfl (lv_at hl 4 rfl) ?_
        refine lv_iload hx hb dL_law_1602 (lv_at hl 0 rfl) ?_
        refine q_con hx hb dL_law_1604 ?_
        refine q_add hx hb dL_law_1605 ?_
        refine r_xld hx hb hX hbl hbA hS (i := i + 3) (z := x3) (by omega) hL ex3 dL_law_1606 ?_
        refine lv_aload_n hx hb dL_law_1607 rfl (lv_at hl 1 rfl) ?_
        refine c_SWr (As := [.ref (u 0), .int (iI x1), .int (iI x2), .int (iI x3), .ref o]) (rest := []) (r := .int (iI 0)) fx hl (wr_nth θ l hl0 S0 _ u dt (fun j => sv j 0) (fun j => sv j 1) (fun j => sv j 2) bc rf kn hcr hjH hn o nv sv9 ho hLX.1 x1 x2 x3 (by first | assumption | omega | (dsimp only; first | assumption | omega) | exact Hid.mk (by first | assumption | omega) | exact Hid.mk ⟨fun _ => by first | assumption | omega, fun _ => by first | assumption | omega⟩) (by first | assumption | omega | (dsimp only; first | assumption | omega) | exact Hid.mk (by first | assumption | omega) | exact Hid.mk ⟨fun _ => by first | assumption | omega, fun _ => by first | assumption | omega⟩) (by first | assumption | omega | (dsimp only; first | assumption | omega) | exact Hid.mk (by first | assumption | omega) | exact Hid.mk ⟨fun _ => by first | assumption | omega, fun _ => by first | assumption | omega⟩) (by first | assumption | omega | (dsimp only; first | assumption | omega) | exact Hid.mk (by first | assumption | omega) | exact Hid.mk ⟨fun _ => by first | assumption | omega, fun _ => by first | assumption | omega⟩) (by first | assumption | omega | (dsimp only; first | assumption | omega) | exact Hid.mk (by first | assumption | omega) | exact Hid.mk ⟨fun _ => by first | assumption | omega, fun _ => by first | assumption | omega⟩) (by first | assumption | omega | (dsimp only; first | assumption | omega) | exact Hid.mk (by first | assumption | omega) | exact Hid.mk ⟨fun _ => by first | assumption | omega, fun _ => by first | assumption | omega⟩)) dL_law_1608 k942 k943 k0 k944 hd_L_nth rfl ⟨by omega, by omega⟩ (Nat.le_of_ble_eq_true rfl) ⟨by (try dsimp only); omega, by (try dsimp only); omega⟩ hS (fun x h => h.elim (fun h => h.elim (fun ⟨j, hj, e⟩ => e ▸ hu.2 j hj) (fun h => Nat.le_trans hzH.2.1 h)) (fun e => e ▸ hoθ)) (fun H1 locs hpH1 hszH1 hkH1 hS => ?_)
        obtain ⟨hcw, z9, ho1⟩ := hpH1
        have hzH1 := hz0.at hAB hS
        have hjH1 := hj0.at hAB hS
        have hm1 := lw_cls hLX hw hzH1 hkH1
        refine lv_istore (lv' := [(5, .int (iI 0)), (4, .int (iI i)), (3, .ref o), (2, .ref (w 0)), (1, .ref (u 0)), (0, .ref b)]) hx hb dL_law_1611 hl (by decide) rfl (fun ls hl => ?_)
        refine lv_aload_n hx hb dL_law_1613 rfl (lv_at hl 3 rfl) ?_
        refine lv_aload_n hx hb dL_law_1614 rfl (lv_at hl 5 rfl) ?_
        refine lv_iload hx hb dL_law_1615 (lv_at hl 1 rfl) ?_
        refine q_con hx hb dL_law_1617 ?_
        refine q_add hx hb dL_law_1618 ?_
        refine r_xld hx hb hX hbl hbA hS (i := i + 1) (z := x1) (by omega) hL ex1 dL_law_1619 ?_
        refine lv_aload_n hx hb dL_law_1620 rfl (lv_at hl 5 rfl) ?_
        refine lv_iload hx hb dL_law_1621 (lv_at hl 1 rfl) ?_
        refine q_con hx hb dL_law_1623 ?_
        refine q_add hx hb dL_law_1624 ?_
        refine r_xld hx hb hX hbl hbA hS (i := i + 2) (z := x2) (by omega) hL ex2 dL_law_1625 ?_
        refine lv_aload_n hx hb dL_law_1626 rfl (lv_at hl 5 rfl) ?_
        refine lv_iload hx hb dL_law_1627 (lv_at hl 1 rfl) ?_
        refine q_con hx hb dL_law_1629 ?_
        refine q_add hx hb dL_law_1630 ?_
        refine r_xld hx hb hX hbl hbA hS (i := i + 3) (z := x3) (by omega) hL ex3 dL_law_1631 ?_
        refine c_IP (As := [.int (iI x1), .int (iI x2), .int (iI x3)]) (rest := []) (b := w 0) (C := RX3) fx hl (mok_nth θ l S0 _ w r q dt sv th bc rf kn hm1 x1 x2 x3 (by first | assumption | omega | (dsimp only; first | assumption | omega) | exact Hid.mk (by first | assumption | omega) | exact Hid.mk ⟨fun _ => by first | assumption | omega, fun _ => by first | assumption | omega⟩) (by first | assumption | omega | (dsimp only; first | assumption | omega) | exact Hid.mk (by first | assumption | omega) | exact Hid.mk ⟨fun _ => by first | assumption | omega, fun _ => by first | assumption | omega⟩) (by first | assumption | omega | (dsimp only; first | assumption | omega) | exact Hid.mk (by first | assumption | omega) | exact Hid.mk ⟨fun _ => by first | assumption | omega, fun _ => by first | assumption | omega⟩) (by first | assumption | omega | (dsimp only; first | assumption | omega) | exact Hid.mk (by first | assumption | omega) | exact Hid.mk ⟨fun _ => by first | assumption | omega, fun _ => by first | assumption | omega⟩) (by first | assumption | omega | (dsimp only; first | assumption | omega) | exact Hid.mk (by first | assumption | omega) | exact Hid.mk ⟨fun _ => by first | assumption | omega, fun _ => by first | assumption | omega⟩) (by first | assumption | omega | (dsimp only; first | assumption | omega) | exact Hid.mk (by first | assumption | omega) | exact Hid.mk ⟨fun _ => by first | assumption | omega, fun _ => by first | assumption | omega⟩)) (ob_recv hK hm1.2.2.1.1 rfl) dL_law_1632 k1499 k1500 k1501 k6 k1502 hd_X3_nth rfl ⟨by omega, by omega⟩ (Nat.le_of_ble_eq_true rfl) ⟨by (try dsimp only); omega, by (try dsimp only); omega⟩ hS (wa_b hm1.2.1 hzH1.2.1) (fun z3 H2 locs hpH2 hszH2 hkH2 hS => ?_)
        obtain ⟨r1, q1, hm2, nr, nq⟩ := hpH2
        have hzH2 := hz0.at hAB hS
        have hL2 := lw_mod hLX hzH2 hu hcw ho1 hfr hfq hm2 nr nq hkH2
        refine lv_istore (lv' := [(6, .int (iI z3)), (5, .int (iI 0)), (4, .int (iI i)), (3, .ref o), (2, .ref (w 0)), (1, .ref (u 0)), (0, .ref b)]) hx hb dL_law_1635 hl (by decide) rfl (fun ls hl => ?_)
        refine lv_goto (tgt := 2331) hx hb dL_law_1637 (by decide) ?_
        exact kk _ _ _ _ _ ⟨_, _, _, _, _, _, _, _, _, _, hL2⟩ hS (by omega) (by omega) (lv_sub hl [2, 3, 4, 5, 6] rfl)
      · refine lv_aload_n hx hb dL_law_1588 rfl (lv_at hl 3 rfl) ?_
        refine lv_aload_n hx hb dL_law_1589 rfl (lv_at hl 4 rfl) ?_
        refine lv_iload hx hb dL_law_1590 (lv_at hl 0 rfl) ?_
        refine q_con hx hb dL_law_1592 ?_
        refine q_add hx hb dL_law_1593 ?_
        refine r_xld hx hb hX hbl hbA hS (i := i + 1) (z := x1) (by omega) hL ex1 dL_law_1594 ?_
        refine lv_aload_n hx hb dL_law_1595 rfl (lv_at hl 4 rfl) ?_
        refine lv_iload hx hb dL_law_1596 (lv_at hl 0 rfl) ?_
        refine q_con hx hb dL_law_1598 ?_
        refine q_add hx hb dL_law_1599 ?_
        refine r_xld hx hb hX hbl hbA hS (i := i + 2) (z := x2) (by omega) hL ex2 dL_law_1600 ?_
        refine lv_aload_n hx hb dL_law_1601 rfl (lv_at hl 4 rfl) ?_
        refine lv_iload hx hb dL_law_1602 (lv_at hl 0 rfl) ?_
        refine q_con hx hb dL_law_1604 ?_
        refine q_add hx hb dL_law_1605 ?_
        refine r_xld hx hb hX hbl hbA hS (i := i + 3) (z := x3) (by omega) hL ex3 dL_law_1606 ?_
        refine lv_aload_n hx hb dL_law_1607 rfl (lv_at hl 1 rfl) ?_
        refine c_SWr (As := [.ref (u 0), .int (iI x1), .int (iI x2), .int (iI x3), .ref o]) (rest := []) (r := .int (iI 1)) fx hl (wn3_nth θ l hl0 S0 _ u dt (fun j => sv j 0) (fun j => sv j 1) (fun j => sv j 2) bc rf kn hcr hjH hn o nv sv9 ho hLX.1 x1 x2 x3 (by first | assumption | omega | (dsimp only; first | assumption | omega) | exact Hid.mk (by first | assumption | omega) | exact Hid.mk ⟨fun _ => by first | assumption | omega, fun _ => by first | assumption | omega⟩) (by first | assumption | omega | (dsimp only; first | assumption | omega) | exact Hid.mk (by first | assumption | omega) | exact Hid.mk ⟨fun _ => by first | assumption | omega, fun _ => by first | assumption | omega⟩) (by first | assumption | omega | (dsimp only; first | assumption | omega) | exact Hid.mk (by first | assumption | omega) | exact Hid.mk ⟨fun _ => by first | assumption | omega, fun _ => by first | assumption | omega⟩) (by first | assumption | omega | (dsimp only; first | assumption | omega) | exact Hid.mk (by first | assumption | omega) | exact Hid.mk ⟨fun _ => by first | assumption | omega, fun _ => by first | assumption | omega⟩) (by first | assumption | omega | (dsimp only; first | assumption | omega) | exact Hid.mk (by first | assumption | omega) | exact Hid.mk ⟨fun _ => by first | assumption | omega, fun _ => by first | assumption | omega⟩) (by first | assumption | omega | (dsimp only; first | assumption | omega) | exact Hid.mk (by first | assumption | omega) | exact Hid.mk ⟨fun _ => by first | assumption | omega, fun _ => by first | assumption | omega⟩)) dL_law_1608 k942 k943 k0 k944 hd_L_nth rfl ⟨by omega, by omega⟩ (Nat.le_of_ble_eq_true rfl) ⟨by (try dsimp only); omega, by (try dsimp only); omega⟩ hS (fun x h => h.elim (fun h => h.elim (fun ⟨j, hj, e⟩ => e ▸ hu.2 j hj) (fun h => Nat.le_trans hzH.2.1 h)) (fun e => e ▸ hoθ)) (fun H4 locs hpH4 hszH4 hkH4 hS => ?_)
        obtain ⟨hcw, ho1⟩ := hpH4
        have hzH1 := hz0.at hAB hS
        have hjH1 := hj0.at hAB hS
        have hm1 := lw_cls hLX hw hzH1 hkH4
        refine lv_istore (lv' := [(5, .int (iI 1)), (4, .int (iI i)), (3, .ref o), (2, .ref (w 0)), (1, .ref (u 0)), (0, .ref b)]) hx hb dL_law_1611 hl (by decide) rfl (fun ls hl => ?_)
        refine lv_aload_n hx hb dL_law_1613 rfl (lv_at hl 3 rfl) ?_
        refine lv_aload_n hx hb dL_law_1614 rfl (lv_at hl 5 rfl) ?_
        refine lv_iload hx hb dL_law_1615 (lv_at hl 1 rfl) ?_
        refine q_con hx hb dL_law_1617 ?_
        refine q_add hx hb dL_law_1618 ?_
        refine r_xld hx hb hX hbl hbA hS (i := i + 1) (z := x1) (by omega) hL ex1 dL_law_1619 ?_
        refine lv_aload_n hx hb dL_law_1620 rfl (lv_at hl 5 rfl) ?_
        refine lv_iload hx hb dL_law_1621 (lv_at hl 1 rfl) ?_
        refine q_con hx hb dL_law_1623 ?_
        refine q_add hx hb dL_law_1624 ?_
        refine r_xld hx hb hX hbl hbA hS (i := i + 2) (z := x2) (by omega) hL ex2 dL_law_1625 ?_
        refine lv_aload_n hx hb dL_law_1626 rfl (lv_at hl 5 rfl) ?_
        refine lv_iload hx hb dL_law_1627 (lv_at hl 1 rfl) ?_
        refine q_con hx hb dL_law_1629 ?_
        refine q_add hx hb dL_law_1630 ?_
        refine r_xld hx hb hX hbl hbA hS (i := i + 3) (z := x3) (by omega) hL ex3 dL_law_1631 ?_
        refine c_Vr (As := [.int (iI x1), .int (iI x2), .int (iI x3)]) (rest := []) (b := w 0) (C := RX3) (r := some (.int (iI 0))) (st1 := [.int (iI 0)]) fx hl (mno3_nth θ l S0 _ w r q dt sv th bc rf kn hm1 x1 x2 x3 (by first | assumption | omega | (dsimp only; first | assumption | omega) | exact Hid.mk (by first | assumption | omega) | exact Hid.mk ⟨fun _ => by first | assumption | omega, fun _ => by first | assumption | omega⟩) (by first | assumption | omega | (dsimp only; first | assumption | omega) | exact Hid.mk (by first | assumption | omega) | exact Hid.mk ⟨fun _ => by first | assumption | omega, fun _ => by first | assumption | omega⟩) (by first | assumption | omega | (dsimp only; first | assumption | omega) | exact Hid.mk (by first | assumption | omega) | exact Hid.mk ⟨fun _ => by first | assumption | omega, fun _ => by first | assumption | omega⟩) (by first | assumption | omega | (dsimp only; first | assumption | omega) | exact Hid.mk (by first | assumption | omega) | exact Hid.mk ⟨fun _ => by first | assumption | omega, fun _ => by first | assumption | omega⟩) (by first | assumption | omega | (dsimp only; first | assumption | omega) | exact Hid.mk (by first | assumption | omega) | exact Hid.mk ⟨fun _ => by first | assumption | omega, fun _ => by first | assumption | omega⟩) (by first | assumption | omega | (dsimp only; first | assumption | omega) | exact Hid.mk (by first | assumption | omega) | exact Hid.mk ⟨fun _ => by first | assumption | omega, fun _ => by first | assumption | omega⟩)) (ob_recv hK hm1.2.2.1.1 rfl) dL_law_1632 k1499 k1500 k1501 k6 k1502 hd_X3_nth rfl rfl ⟨by omega, by omega⟩ (Nat.le_of_ble_eq_true rfl) ⟨by (try dsimp only); omega, by (try dsimp only); omega⟩ hS (wa_b hm1.2.1 hzH1.2.1) (fun H5 locs hpH5 hszH5 hkH5 hS => ?_)
        obtain ⟨r1, q1, hm2, nr, nq⟩ := hpH5
        have hzH2 := hz0.at hAB hS
        have hL2 := lw_mod hLX hzH2 hu hcw ho1 hfr hfq hm2 nr nq hkH5
        refine lv_istore (lv' := [(6, .int (iI 0)), (5, .int (iI 1)), (4, .int (iI i)), (3, .ref o), (2, .ref (w 0)), (1, .ref (u 0)), (0, .ref b)]) hx hb dL_law_1635 hl (by decide) rfl (fun ls hl => ?_)
        refine lv_goto (tgt := 2331) hx hb dL_law_1637 (by decide) ?_
        exact kk _ _ _ _ _ ⟨_, _, _, _, _, _, _, _, _, _, hL2⟩ hS (by omega) (by omega) (lv_sub hl [2, 3, 4, 5, 6] rfl)
    · refine lv_aload_n hx hb dL_law_1588 rfl (lv_at hl 3 rfl) ?_
      refine lv_aload_n hx hb dL_law_1589 rfl (lv_at hl 4 rfl) ?_
      refine lv_iload hx hb dL_law_1590 (lv_at hl 0 rfl) ?_
      refine q_con hx hb dL_law_1592 ?_
      refine q_add hx hb dL_law_1593 ?_
      refine r_xld hx hb hX hbl hbA hS (i := i + 1) (z := x1) (by omega) hL ex1 dL_law_1594 ?_
      refine lv_aload_n hx hb dL_law_1595 rfl (lv_at hl 4 rfl) ?_
      refine lv_iload hx hb dL_law_1596 (lv_at hl 0 rfl) ?_
      refine q_con hx hb dL_law_1598 ?_
      refine q_add hx hb dL_law_1599 ?_
      refine r_xld hx hb hX hbl hbA hS (i := i + 2) (z := x2) (by omega) hL ex2 dL_law_1600 ?_
      refine lv_aload_n hx hb dL_law_1601 rfl (lv_at hl 4 rfl) ?_
      refine lv_iload hx hb dL_law_1602 (lv_at hl 0 rfl) ?_
      refine q_con hx hb dL_law_1604 ?_
      refine q_add hx hb dL_law_1605 ?_
      refine r_xld hx hb hX hbl hbA hS (i := i + 3) (z := x3) (by omega) hL ex3 dL_law_1606 ?_
      refine lv_aload_n hx hb dL_law_1607 rfl (lv_at hl 1 rfl) ?_
      refine c_SWr (As := [.ref (u 0), .int (iI x1), .int (iI x2), .int (iI x3), .ref o]) (rest := []) (r := .int (iI 1)) fx hl (wn2_nth θ l hl0 S0 _ u dt (fun j => sv j 0) (fun j => sv j 1) (fun j => sv j 2) bc rf kn hcr hjH hn o nv sv9 ho hLX.1 x1 x2 x3 (by first | assumption | omega | (dsimp only; first | assumption | omega) | exact Hid.mk (by first | assumption | omega) | exact Hid.mk ⟨fun _ => by first | assumption | omega, fun _ => by first | assumption | omega⟩) (by first | assumption | omega | (dsimp only; first | assumption | omega) | exact Hid.mk (by first | assumption | omega) | exact Hid.mk ⟨fun _ => by first | assumption | omega, fun _ => by first | assumption | omega⟩) (by first | assumption | omega | (dsimp only; first | assumption | omega) | exact Hid.mk (by first | assumption | omega) | exact Hid.mk ⟨fun _ => by first | assumption | omega, fun _ => by first | assumption | omega⟩) (by first | assumption | omega | (dsimp only; first | assumption | omega) | exact Hid.mk (by first | assumption | omega) | exact Hid.mk ⟨fun _ => by first | assumption | omega, fun _ => by first | assumption | omega⟩) (by first | assumption | omega | (dsimp only; first | assumption | omega) | exact Hid.mk (by first | assumption | omega) | exact Hid.mk ⟨fun _ => by first | assumption | omega, fun _ => by first | assumption | omega⟩)) dL_law_1608 k942 k943 k0 k944 hd_L_nth rfl ⟨by omega, by omega⟩ (Nat.le_of_ble_eq_true rfl) ⟨by (try dsimp only); omega, by (try dsimp only); omega⟩ hS (fun x h => h.elim (fun h => h.elim (fun ⟨j, hj, e⟩ => e ▸ hu.2 j hj) (fun h => Nat.le_trans hzH.2.1 h)) (fun e => e ▸ hoθ)) (fun H6 locs hpH6 hszH6 hkH6 hS => ?_)
      obtain ⟨hcw, ho1⟩ := hpH6
      have hzH1 := hz0.at hAB hS
      have hjH1 := hj0.at hAB hS
      have hm1 := lw_cls hLX hw hzH1 hkH6
      refine lv_istore (lv' := [(5, .int (iI 1)), (4, .int (iI i)), (3, .ref o), (2, .ref (w 0)), (1, .ref (u 0)), (0, .ref b)]) hx hb dL_law_1611 hl (by decide) rfl (fun ls hl => ?_)
      refine lv_aload_n hx hb dL_law_1613 rfl (lv_at hl 3 rfl) ?_
      refine lv_aload_n hx hb dL_law_1614 rfl (lv_at hl 5 rfl) ?_
      refine lv_iload hx hb dL_law_1615 (lv_at hl 1 rfl) ?_
      refine q_con hx hb dL_law_1617 ?_
      refine q_add hx hb dL_law_1618 ?_
      refine r_xld hx hb hX hbl hbA hS (i := i + 1) (z := x1) (by omega) hL ex1 dL_law_1619 ?_
      refine lv_aload_n hx hb dL_law_1620 rfl (lv_at hl 5 rfl) ?_
      refine lv_iload hx hb dL_law_1621 (lv_at hl 1 rfl) ?_
      refine q_con hx hb dL_law_1623 ?_
      refine q_add hx hb dL_law_1624 ?_
      refine r_xld hx hb hX hbl hbA hS (i := i + 2) (z := x2) (by omega) hL ex2 dL_law_1625 ?_
      refine lv_aload_n hx hb dL_law_1626 rfl (lv_at hl 5 rfl) ?_
      refine lv_iload hx hb dL_law_1627 (lv_at hl 1 rfl) ?_
      refine q_con hx hb dL_law_1629 ?_
      refine q_add hx hb dL_law_1630 ?_
      refine r_xld hx hb hX hbl hbA hS (i := i + 3) (z := x3) (by omega) hL ex3 dL_law_1631 ?_
      refine c_Vr (As := [.int (iI x1), .int (iI x2), .int (iI x3)]) (rest := []) (b := w 0) (C := RX3) (r := some (.int (iI 0))) (st1 := [.int (iI 0)]) fx hl (mno2_nth θ l S0 _ w r q dt sv th bc rf kn hm1 x1 x2 x3 (by first | assumption | omega | (dsimp only; first | assumption | omega) | exact Hid.mk (by first | assumption | omega) | exact Hid.mk ⟨fun _ => by first | assumption | omega, fun _ => by first | assumption | omega⟩) (by first | assumption | omega | (dsimp only; first | assumption | omega) | exact Hid.mk (by first | assumption | omega) | exact Hid.mk ⟨fun _ => by first | assumption | omega, fun _ => by first | assumption | omega⟩) (by first | assumption | omega | (dsimp only; first | assumption | omega) | exact Hid.mk (by first | assumption | omega) | exact Hid.mk ⟨fun _ => by first | assumption | omega, fun _ => by first | assumption | omega⟩) (by first | assumption | omega | (dsimp only; first | assumption | omega) | exact Hid.mk (by first | assumption | omega) | exact Hid.mk ⟨fun _ => by first | assumption | omega, fun _ => by first | assumption | omega⟩) (by first | assumption | omega | (dsimp only; first | assumption | omega) | exact Hid.mk (by first | assumption | omega) | exact Hid.mk ⟨fun _ => by first | assumption | omega, fun _ => by first | assumption | omega⟩)) (ob_recv hK hm1.2.2.1.1 rfl) dL_law_1632 k1499 k1500 k1501 k6 k1502 hd_X3_nth rfl rfl ⟨by omega, by omega⟩ (Nat.le_of_ble_eq_true rfl) ⟨by (try dsimp only); omega, by (try dsimp only); omega⟩ hS (wa_b hm1.2.1 hzH1.2.1) (fun H7 locs hpH7 hszH7 hkH7 hS => ?_)
      obtain ⟨r1, q1, hm2, nr, nq⟩ := hpH7
      have hzH2 := hz0.at hAB hS
      have hL2 := lw_mod hLX hzH2 hu hcw ho1 hfr hfq hm2 nr nq hkH7
      refine lv_istore (lv' := [(6, .int (iI 0)), (5, .int (iI 1)), (4, .int (iI i)), (3, .ref o), (2, .ref (w 0)), (1, .ref (u 0)), (0, .ref b)]) hx hb dL_law_1635 hl (by decide) rfl (fun ls hl => ?_)
      refine lv_goto (tgt := 2331) hx hb dL_law_1637 (by decide) ?_
      exact kk _ _ _ _ _ ⟨_, _, _, _, _, _, _, _, _, _, hL2⟩ hS (by omega) (by omega) (lv_sub hl [2, 3, 4, 5, 6] rfl)
  · refine lv_aload_n hx hb dL_law_1588 rfl (lv_at hl 3 rfl) ?_
    refine lv_aload_n hx hb dL_law_1589 rfl (lv_at hl 4 rfl) ?_
    refine lv_iload hx hb dL_law_1590 (lv_at hl 0 rfl) ?_
    refine q_con hx hb dL_law_1592 ?_
    refine q_add hx hb dL_law_1593 ?_
    refine r_xld hx hb hX hbl hbA hS (i := i + 1) (z := x1) (by omega) hL ex1 dL_law_1594 ?_
    refine lv_aload_n hx hb dL_law_1595 rfl (lv_at hl 4 rfl) ?_
    refine lv_iload hx hb dL_law_1596 (lv_at hl 0 rfl) ?_
    refine q_con hx hb dL_law_1598 ?_
    refine q_add hx hb dL_law_1599 ?_
    refine r_xld hx hb hX hbl hbA hS (i := i + 2) (z := x2) (by omega) hL ex2 dL_law_1600 ?_
    refine lv_aload_n hx hb dL_law_1601 rfl (lv_at hl 4 rfl) ?_
    refine lv_iload hx hb dL_law_1602 (lv_at hl 0 rfl) ?_
    refine q_con hx hb dL_law_1604 ?_
    refine q_add hx hb dL_law_1605 ?_
    refine r_xld hx hb hX hbl hbA hS (i := i + 3) (z := x3) (by omega) hL ex3 dL_law_1606 ?_
    refine lv_aload_n hx hb dL_law_1607 rfl (lv_at hl 1 rfl) ?_
    refine c_SWr (As := [.ref (u 0), .int (iI x1), .int (iI x2), .int (iI x3), .ref o]) (rest := []) (r := .int (iI 1)) fx hl (wn1_nth θ l hl0 S0 _ u dt (fun j => sv j 0) (fun j => sv j 1) (fun j => sv j 2) bc rf kn hcr hjH hn o nv sv9 ho hLX.1 x1 x2 x3 (by first | assumption | omega | (dsimp only; first | assumption | omega) | exact Hid.mk (by first | assumption | omega) | exact Hid.mk ⟨fun _ => by first | assumption | omega, fun _ => by first | assumption | omega⟩) (by first | assumption | omega | (dsimp only; first | assumption | omega) | exact Hid.mk (by first | assumption | omega) | exact Hid.mk ⟨fun _ => by first | assumption | omega, fun _ => by first | assumption | omega⟩) (by first | assumption | omega | (dsimp only; first | assumption | omega) | exact Hid.mk (by first | assumption | omega) | exact Hid.mk ⟨fun _ => by first | assumption | omega, fun _ => by first | assumption | omega⟩) (by first | assumption | omega | (dsimp only; first | assumption | omega) | exact Hid.mk (by first | assumption | omega) | exact Hid.mk ⟨fun _ => by first | assumption | omega, fun _ => by first | assumption | omega⟩)) dL_law_1608 k942 k943 k0 k944 hd_L_nth rfl ⟨by omega, by omega⟩ (Nat.le_of_ble_eq_true rfl) ⟨by (try dsimp only); omega, by (try dsimp only); omega⟩ hS (fun x h => h.elim (fun h => h.elim (fun ⟨j, hj, e⟩ => e ▸ hu.2 j hj) (fun h => Nat.le_trans hzH.2.1 h)) (fun e => e ▸ hoθ)) (fun H8 locs hpH8 hszH8 hkH8 hS => ?_)
    obtain ⟨hcw, ho1⟩ := hpH8
    have hzH1 := hz0.at hAB hS
    have hjH1 := hj0.at hAB hS
    have hm1 := lw_cls hLX hw hzH1 hkH8
    refine lv_istore (lv' := [(5, .int (iI 1)), (4, .int (iI i)), (3, .ref o), (2, .ref (w 0)), (1, .ref (u 0)), (0, .ref b)]) hx hb dL_law_1611 hl (by decide) rfl (fun ls hl => ?_)
    refine lv_aload_n hx hb dL_law_1613 rfl (lv_at hl 3 rfl) ?_
    refine lv_aload_n hx hb dL_law_1614 rfl (lv_at hl 5 rfl) ?_
    refine lv_iload hx hb dL_law_1615 (lv_at hl 1 rfl) ?_
    refine q_con hx hb dL_law_1617 ?_
    refine q_add hx hb dL_law_1618 ?_
    refine r_xld hx hb hX hbl hbA hS (i := i + 1) (z := x1) (by omega) hL ex1 dL_law_1619 ?_
    refine lv_aload_n hx hb dL_law_1620 rfl (lv_at hl 5 rfl) ?_
    refine lv_iload hx hb dL_law_1621 (lv_at hl 1 rfl) ?_
    refine q_con hx hb dL_law_1623 ?_
    refine q_add hx hb dL_law_1624 ?_
    refine r_xld hx hb hX hbl hbA hS (i := i + 2) (z := x2) (by omega) hL ex2 dL_law_1625 ?_
    refine lv_aload_n hx hb dL_law_1626 rfl (lv_at hl 5 rfl) ?_
    refine lv_iload hx hb dL_law_1627 (lv_at hl 1 rfl) ?_
    refine q_con hx hb dL_law_1629 ?_
    refine q_add hx hb dL_law_1630 ?_
    refine r_xld hx hb hX hbl hbA hS (i := i + 3) (z := x3) (by omega) hL ex3 dL_law_1631 ?_
    refine c_Vr (As := [.int (iI x1), .int (iI x2), .int (iI x3)]) (rest := []) (b := w 0) (C := RX3) (r := some (.int (iI 0))) (st1 := [.int (iI 0)]) fx hl (mno1_nth θ l S0 _ w r q dt sv th bc rf kn hm1 x1 x2 x3 (by first | assumption | omega | (dsimp only; first | assumption | omega) | exact Hid.mk (by first | assumption | omega) | exact Hid.mk ⟨fun _ => by first | assumption | omega, fun _ => by first | assumption | omega⟩) (by first | assumption | omega | (dsimp only; first | assumption | omega) | exact Hid.mk (by first | assumption | omega) | exact Hid.mk ⟨fun _ => by first | assumption | omega, fun _ => by first | assumption | omega⟩) (by first | assumption | omega | (dsimp only; first | assumption | omega) | exact Hid.mk (by first | assumption | omega) | exact Hid.mk ⟨fun _ => by first | assumption | omega, fun _ => by first | assumption | omega⟩) (by first | assumption | omega | (dsimp only; first | assumption | omega) | exact Hid.mk (by first | assumption | omega) | exact Hid.mk ⟨fun _ => by first | assumption | omega, fun _ => by first | assumption | omega⟩)) (ob_recv hK hm1.2.2.1.1 rfl) dL_law_1632 k1499 k1500 k1501 k6 k1502 hd_X3_nth rfl rfl ⟨by omega, by omega⟩ (Nat.le_of_ble_eq_true rfl) ⟨by (try dsimp only); omega, by (try dsimp only); omega⟩ hS (wa_b hm1.2.1 hzH1.2.1) (fun H9 locs hpH9 hszH9 hkH9 hS => ?_)
    obtain ⟨r1, q1, hm2, nr, nq⟩ := hpH9
    have hzH2 := hz0.at hAB hS
    have hL2 := lw_mod hLX hzH2 hu hcw ho1 hfr hfq hm2 nr nq hkH9
    refine lv_istore (lv' := [(6, .int (iI 0)), (5, .int (iI 1)), (4, .int (iI i)), (3, .ref o), (2, .ref (w 0)), (1, .ref (u 0)), (0, .ref b)]) hx hb dL_law_1635 hl (by decide) rfl (fun ls hl => ?_)
    refine lv_goto (tgt := 2331) hx hb dL_law_1637 (by decide) ?_
    exact kk _ _ _ _ _ ⟨_, _, _, _, _, _, _, _, _, _, hL2⟩ hS (by omega) (by omega) (lv_sub hl [2, 3, 4, 5, 6] rfl)

set_option maxHeartbeats 4000000 in
set_option maxRecDepth 100000 in
theorem lc_inYear {p : Program} {l : Launch} {e : Env} {R : Room} {s : State} {m : MethodId} {args : Array Value} {below : List Frame} {meth : Method} {c : Code} {Q : State → Prop} {θ : TH} {S0 : State} (fx : FX p m c cL_law 7 s args yL_law.cls S0) (hl0 : l.stackTraces = false) (hz0 : SZ θ S0 s.heap) (hj0 : SJ θ S0 s.heap) (hn : NX S0) {u w : Nat → Nat} {o b L : Nat} {xs : Nat → Int32} (hLX : LX u w o) (hoθ : θ.2.2.2 ≤ o) (hX : va_X b L xs s s.heap) (hbl : b < s.heap.size) (hbA : ¬ AJ θ b) (hL : L ≤ 2560) (hRF : 1000 ≤ R.frames ∧ 1000 ≤ R.locals) {H : Heap} {locs : List Loc} {cells slots : Nat} {ls : Array Slot} {i : Int} (hi : 0 ≤ i ∧ i + 5 ≤ (L : Int)) (hw : LWE θ S0 u w o H) (hS : va_S (AJ θ) s.heap H locs) (hRc : cells + 400 ≤ R.cells ∧ slots + 7000 ≤ R.slots) (hl : lv_has ls 7 [(4, .int (iI i)), (3, .ref o), (2, .ref (w 0)), (1, .ref (u 0)), (0, .ref b)]) (kk : LK p l e R s m args below meth c Q θ S0 u w o b i cells slots 2331) : W p l e R s m args below meth c H locs cells slots Q (F0 m 1640 ls []) := by
  obtain ⟨hx, hb, hml, hown, hts⟩ := id fx.1
  have hAB : ∀ x : Nat, AJ θ x → θ.2.2.2 ≤ x := fun _ h => h
  obtain ⟨r, q, dt, sv, th, bc, rf, kn, nv, sv9, hw⟩ := hw
  obtain ⟨hcr, hmr, ho, hfr, hfq⟩ := id hw
  have hzH := hz0.at hAB hS
  have hjH := hj0.at hAB hS
  have hK := sz_K fx.2 hz0
  have hu := hcr.2.1
  obtain ⟨x1, ex1⟩ : ∃ z : Int, z = (xs (i + 1).toNat).toInt := ⟨_, rfl⟩
  have bx1 := x32_b ex1
  obtain ⟨x2, ex2⟩ : ∃ z : Int, z = (xs (i + 2).toNat).toInt := ⟨_, rfl⟩
  have bx2 := x32_b ex2
  obtain ⟨x3, ex3⟩ : ∃ z : Int, z = (xs (i + 3).toNat).toInt := ⟨_, rfl⟩
  have bx3 := x32_b ex3
  by_cases hc1 : -9999 ≤ x1 ∧ x1 ≤ 9999
  · by_cases hc2 : 1 ≤ x2 ∧ x2 ≤ 31
    · by_cases hc3 : 1 ≤ x3 ∧ x3 ≤ 7
      · refine lv_aload_n hx hb dL_law_1640 rfl (lv_at hl 3 rfl) ?_
        refine lv_aload_n hx hb dL_law_1641 rfl (lv_at hl 4 rfl) ?_
        refine lv_iload hx hb dL_law_1642 (lv_at hl 0 rfl) ?_
        refine q_con hx hb dL_law_1644 ?_
        refine q_add hx hb dL_law_1645 ?_
        refine r_xld hx hb hX hbl hbA hS (i := i + 1) (z := x1) (by omega) hL ex1 dL_law_1646 ?_
        refine lv_aload_n hx hb dL_law_1647 rfl (lv_at hl 4 rfl) ?_
        refine lv_iload hx hb dL_law_1648 (lv_at hl 0 rfl) ?_
        refine q_con hx hb dL_law_1650 ?_
        refine q_add hx hb dL_law_1651 ?_
        refine r_xld hx hb hX hbl hbA hS (i := i + 2) (z := x2) (by omega) hL ex2 dL_law_1652 ?_
        refine lv_aload_n hx hb dL_law_1653 rfl (lv_at hl 4 rfl) ?_
        refine lv_iload hx hb dL_law_1654 (lv_at hl 0 rfl) ?_
        refine q_con hx hb dL_law_1656 ?_
        refine q_add hx hb dL_law_1657 ?_
        refine r_xld hx hb hX hbl hbA hS (i := i + 3) (z := x3) (by omega) hL ex3 dL_law_1658 ?_
        refine lv_aload_n hx hb dL_law_1659 rfl (lv_at hl 1 rfl) ?_
        refine c_SWr (As := [.ref (u 0), .int (iI x1), .int (iI x2), .int (iI x3), .ref o]) (rest := []) (r := .int (iI 0)) fx hl (wr_inYear θ l hl0 S0 _ u dt (fun j => sv j 0) (fun j => sv j 1) (fun j => sv j 2) bc rf kn hcr hjH hn o nv sv9 ho hLX.1 x1 x2 x3 (by first | assumption | omega | (dsimp only; first | assumption | omega) | exact Hid.mk (by first | assumption | omega) | exact Hid.mk ⟨fun _ => by first | assumption | omega, fun _ => by first | assumption | omega⟩) (by first | assumption | omega | (dsimp only; first | assumption | omega) | exact Hid.mk (by first | assumption | omega) | exact Hid.mk ⟨fun _ => by first | assumption | omega, fun _ => by first | assumption | omega⟩) (by first | assumption | omega | (dsimp only; first | assumption | omega) | exact Hid.mk (by first | assumption | omega) | exact Hid.mk ⟨fun _ => by first | assumption | omega, fun _ => by first | assumption | omega⟩) (by first | assumption | omega | (dsimp only; first | assumption | omega) | exact Hid.mk (by first | assumption | omega) | exact Hid.mk ⟨fun _ => by first | assumption | omega, fun _ => by first | assumption | omega⟩) (by first | assumption | omega | (dsimp only; first | assumption | omega) | exact Hid.mk (by first | assumption | omega) | exact Hid.mk ⟨fun _ => by first | assumption | omega, fun _ => by first | assumption | omega⟩) (by first | assumption | omega | (dsimp only; first | assumption | omega) | exact Hid.mk (by first | assumption | omega) | exact Hid.mk ⟨fun _ => by first | assumption | omega, fun _ => by first | assumption | omega⟩)) dL_law_1660 k950 k951 k0 k952 hd_L_inYear rfl ⟨by omega, by omega⟩ (Nat.le_of_ble_eq_true rfl) ⟨by (try dsimp only); omega, by (try dsimp only); omega⟩ hS (fun x h => h.elim (fun h => h.elim (fun ⟨j, hj, e⟩ => e ▸ hu.2 j hj) (fun h => Nat.le_trans hzH.2.1 h)) (fun e => e ▸ hoθ)) (fun H1 locs hpH1 hszH1 hkH1 hS => ?_)
        obtain ⟨hcw, z9, ho1⟩ := hpH1
        have hzH1 := hz0.at hAB hS
        have hjH1 := hj0.at hAB hS
        have hm1 := lw_cls hLX hw hzH1 hkH1
        refine lv_istore (lv' := [(5, .int (iI 0)), (4, .int (iI i)), (3, .ref o), (2, .ref (w 0)), (1, .ref (u 0)), (0, .ref b)]) hx hb dL_law_1663 hl (by decide) rfl (fun ls hl => ?_)
        refine lv_aload_n hx hb dL_law_1665 rfl (lv_at hl 3 rfl) ?_
        refine lv_aload_n hx hb dL_law_1666 rfl (lv_at hl 5 rfl) ?_
        refine lv_iload hx hb dL_law_1667 (lv_at hl 1 rfl) ?_
        refine q_con hx hb dL_law_1669 ?_
        refine q_add hx hb dL_law_1670 ?_
        refine r_xld hx hb hX hbl hbA hS (i := i + 1) (z := x1) (by omega) hL ex1 dL_law_1671 ?_
        refine lv_aload_n hx hb dL_law_1672 rfl (lv_at hl 5 rfl) ?_
        refine lv_iload hx hb dL_law_1673 (lv_at hl 1 rfl) ?_
        refine q_con hx hb dL_law_1675 ?_
        refine q_add hx hb dL_law_1676 ?_
        refine r_xld hx hb hX hbl hbA hS (i := i + 2) (z := x2) (by omega) hL ex2 dL_law_1677 ?_
        refine lv_aload_n hx hb dL_law_1678 rfl (lv_at hl 5 rfl) ?_
        refine lv_iload hx hb dL_law_1679 (lv_at hl 1 rfl) ?_
        refine q_con hx hb dL_law_1681 ?_
        refine q_add hx hb dL_law_1682 ?_
        refine r_xld hx hb hX hbl hbA hS (i := i + 3) (z := x3) (by omega) hL ex3 dL_law_1683 ?_
        refine c_IP (As := [.int (iI x1), .int (iI x2), .int (iI x3)]) (rest := []) (b := w 0) (C := RX3) fx hl (mok_inYear θ l S0 _ w r q dt sv th bc rf kn hm1 x1 x2 x3 (by first | assumption | omega | (dsimp only; first | assumption | omega) | exact Hid.mk (by first | assumption | omega) | exact Hid.mk ⟨fun _ => by first | assumption | omega, fun _ => by first | assumption | omega⟩) (by first | assumption | omega | (dsimp only; first | assumption | omega) | exact Hid.mk (by first | assumption | omega) | exact Hid.mk ⟨fun _ => by first | assumption | omega, fun _ => by first | assumption | omega⟩) (by first | assumption | omega | (dsimp only; first | assumption | omega) | exact Hid.mk (by first | assumption | omega) | exact Hid.mk ⟨fun _ => by first | assumption | omega, fun _ => by first | assumption | omega⟩) (by first | assumption | omega | (dsimp only; first | assumption | omega) | exact Hid.mk (by first | assumption | omega) | exact Hid.mk ⟨fun _ => by first | assumption | omega, fun _ => by first | assumption | omega⟩) (by first | assumption | omega | (dsimp only; first | assumption | omega) | exact Hid.mk (by first | assumption | omega) | exact Hid.mk ⟨fun _ => by first | assumption | omega, fun _ => by first | assumption | omega⟩) (by first | assumption | omega | (dsimp only; first | assumption | omega) | exact Hid.mk (by first | assumption | omega) | exact Hid.mk ⟨fun _ => by first | assumption | omega, fun _ => by first | assumption | omega⟩)) (ob_recv hK hm1.2.2.1.1 rfl) dL_law_1684 k1503 k1504 k1505 k6 k1506 hd_X3_inYear rfl ⟨by omega, by omega⟩ (Nat.le_of_ble_eq_true rfl) ⟨by (try dsimp only); omega, by (try dsimp only); omega⟩ hS (wa_b hm1.2.1 hzH1.2.1) (fun z3 H2 locs hpH2 hszH2 hkH2 hS => ?_)
        obtain ⟨r1, q1, hm2, nr, nq⟩ := hpH2
        have hzH2 := hz0.at hAB hS
        have hL2 := lw_mod hLX hzH2 hu hcw ho1 hfr hfq hm2 nr nq hkH2
        refine lv_istore (lv' := [(6, .int (iI z3)), (5, .int (iI 0)), (4, .int (iI i)), (3, .ref o), (2, .ref (w 0)), (1, .ref (u 0)), (0, .ref b)]) hx hb dL_law_1687 hl (by decide) rfl (fun ls hl => ?_)
        refine lv_goto (tgt := 2331) hx hb dL_law_1689 (by decide) ?_
        exact kk _ _ _ _ _ ⟨_, _, _, _, _, _, _, _, _, _, hL2⟩ hS (by omega) (by omega) (lv_sub hl [2, 3, 4, 5, 6] rfl)
      · refine lv_aload_n hx hb dL_law_1640 rfl (lv_at hl 3 rfl) ?_
        refine lv_aload_n hx hb dL_law_1641 rfl (lv_at hl 4 rfl) ?_
        refine lv_iload hx hb dL_law_1642 (lv_at hl 0 rfl) ?_
        refine q_con hx hb dL_law_1644 ?_
        refine q_add hx hb dL_law_1645 ?_
        refine r_xld hx hb hX hbl hbA hS (i := i + 1) (z := x1) (by omega) hL ex1 dL_law_1646 ?_
        refine lv_aload_n hx hb dL_law_1647 rfl (lv_at hl 4 rfl) ?_
        refine lv_iload hx hb dL_law_1648 (lv_at hl 0 rfl) ?_
        refine q_con hx hb dL_law_1650 ?_
        refine q_add hx hb dL_law_1651 ?_
        refine r_xld hx hb hX hbl hbA hS (i := i + 2) (z := x2) (by omega) hL ex2 dL_law_1652 ?_
        refine lv_aload_n hx hb dL_law_1653 rfl (lv_at hl 4 rfl) ?_
        refine lv_iload hx hb dL_law_1654 (lv_at hl 0 rfl) ?_
        refine q_con hx hb dL_law_1656 ?_
        refine q_add hx hb dL_law_1657 ?_
        refine r_xld hx hb hX hbl hbA hS (i := i + 3) (z := x3) (by omega) hL ex3 dL_law_1658 ?_
        refine lv_aload_n hx hb dL_law_1659 rfl (lv_at hl 1 rfl) ?_
        refine c_SWr (As := [.ref (u 0), .int (iI x1), .int (iI x2), .int (iI x3), .ref o]) (rest := []) (r := .int (iI 1)) fx hl (wn3_inYear θ l hl0 S0 _ u dt (fun j => sv j 0) (fun j => sv j 1) (fun j => sv j 2) bc rf kn hcr hjH hn o nv sv9 ho hLX.1 x1 x2 x3 (by first | assumption | omega | (dsimp only; first | assumption | omega) | exact Hid.mk (by first | assumption | omega) | exact Hid.mk ⟨fun _ => by first | assumption | omega, fun _ => by first | assumption | omega⟩) (by first | assumption | omega | (dsimp only; first | assumption | omega) | exact Hid.mk (by first | assumption | omega) | exact Hid.mk ⟨fun _ => by first | assumption | omega, fun _ => by first | assumption | omega⟩) (by first | assumption | omega | (dsimp only; first | assumption | omega) | exact Hid.mk (by first | assumption | omega) | exact Hid.mk ⟨fun _ => by first | assumption | omega, fun _ => by first | assumption | omega⟩) (by first | assumption | omega | (dsimp only; first | assumption | omega) | exact Hid.mk (by first | assumption | omega) | exact Hid.mk ⟨fun _ => by first | assumption | omega, fun _ => by first | assumption | omega⟩) (by first | assumption | omega | (dsimp only; first | assumption | omega) | exact Hid.mk (by first | assumption | omega) | exact Hid.mk ⟨fun _ => by first | assumption | omega, fun _ => by first | assumption | omega⟩) (by first | assumption | omega | (dsimp only; first | assumption | omega) | exact Hid.mk (by first | assumption | omega) | exact Hid.mk ⟨fun _ => by first | assumption | omega, fun _ => by first | assumption | omega⟩)) dL_law_1660 k950 k951 k0 k952 hd_L_inYear rfl ⟨by omega, by omega⟩ (Nat.le_of_ble_eq_true rfl) ⟨by (try dsimp only); omega, by (try dsimp only); omega⟩ hS (fun x h => h.elim (fun h => h.elim (fun ⟨j, hj, e⟩ => e ▸ hu.2 j hj) (fun h => Nat.le_trans hzH.2.1 h)) (fun e => e ▸ hoθ)) (fun H4 locs hpH4 hszH4 hkH4 hS => ?_)
        obtain ⟨hcw, ho1⟩ := hpH4
        have hzH1 := hz0.at hAB hS
        have hjH1 := hj0.at hAB hS
        have hm1 := lw_cls hLX hw hzH1 hkH4
        refine lv_istore (lv' := [(5, .int (iI 1)), (4, .int (iI i)), (3, .ref o), (2, .ref (w 0)), (1, .ref (u 0)), (0, .ref b)]) hx hb dL_law_1663 hl (by decide) rfl (fun ls hl => ?_)
        refine lv_aload_n hx hb dL_law_1665 rfl (lv_at hl 3 rfl) ?_
        refine lv_aload_n hx hb dL_law_1666 rfl (lv_at hl 5 rfl) ?_
        refine lv_iload hx hb dL_law_1667 (lv_at hl 1 rfl) ?_
        refine q_con hx hb dL_law_1669 ?_
        refine q_add hx hb dL_law_1670 ?_
        refine r_xld hx hb hX hbl hbA hS (i := i + 1) (z := x1) (by omega) hL ex1 dL_law_1671 ?_
        refine lv_aload_n hx hb dL_law_1672 rfl (lv_at hl 5 rfl) ?_
        refine lv_iload hx hb dL_law_1673 (lv_at hl 1 rfl) ?_
        refine q_con hx hb dL_law_1675 ?_
        refine q_add hx hb dL_law_1676 ?_
        refine r_xld hx hb hX hbl hbA hS (i := i + 2) (z := x2) (by omega) hL ex2 dL_law_1677 ?_
        refine lv_aload_n hx hb dL_law_1678 rfl (lv_at hl 5 rfl) ?_
        refine lv_iload hx hb dL_law_1679 (lv_at hl 1 rfl) ?_
        refine q_con hx hb dL_law_1681 ?_
        refine q_add hx hb dL_law_1682 ?_
        refine r_xld hx hb hX hbl hbA hS (i := i + 3) (z := x3) (by omega) hL ex3 dL_law_1683 ?_
        refine c_Vr (As := [.int (iI x1), .int (iI x2), .int (iI x3)]) (rest := []) (b := w 0) (C := RX3) (r := some (.int (iI 0))) (st1 := [.int (iI 0)]) fx hl (mno3_inYear θ l S0 _ w r q dt sv th bc rf kn hm1 x1 x2 x3 (by first | assumption | omega | (dsimp only; first | assumption | omega) | exact Hid.mk (by first | assumption | omega) | exact Hid.mk ⟨fun _ => by first | assumption | omega, fun _ => by first | assumption | omega⟩) (by first | assumption | omega | (dsimp only; first | assumption | omega) | exact Hid.mk (by first | assumption | omega) | exact Hid.mk ⟨fun _ => by first | assumption | omega, fun _ => by first | assumption | omega⟩) (by first | assumption | omega | (dsimp only; first | assumption | omega) | exact Hid.mk (by first | assumption | omega) | exact Hid.mk ⟨fun _ => by first | assumption | omega, fun _ => by first | assumption | omega⟩) (by first | assumption | omega | (dsimp only; first | assumption | omega) | exact Hid.mk (by first | assumption | omega) | exact Hid.mk ⟨fun _ => by first | assumption | omega, fun _ => by first | assumption | omega⟩) (by first | assumption | omega | (dsimp only; first | assumption | omega) | exact Hid.mk (by first | assumption | omega) | exact Hid.mk ⟨fun _ => by first | assumption | omega, fun _ => by first | assumption | omega⟩) (by first | assumption | omega | (dsimp only; first | assumption | omega) | exact Hid.mk (by first | assumption | omega) | exact Hid.mk ⟨fun _ => by first | assumption | omega, fun _ => by first | assumption | omega⟩)) (ob_recv hK hm1.2.2.1.1 rfl) dL_law_1684 k1503 k1504 k1505 k6 k1506 hd_X3_inYear rfl rfl ⟨by omega, by omega⟩ (Nat.le_of_ble_eq_true rfl) ⟨by (try dsimp only); omega, by (try dsimp only); omega⟩ hS (wa_b hm1.2.1 hzH1.2.1) (fun H5 locs hpH5 hszH5 hkH5 hS => ?_)
        obtain ⟨r1, q1, hm2, nr, nq⟩ := hpH5
        have hzH2 := hz0.at hAB hS
        have hL2 := lw_mod hLX hzH2 hu hcw ho1 hfr hfq hm2 nr nq hkH5
        refine lv_istore (lv' := [(6, .int (iI 0)), (5, .int (iI 1)), (4, .int (iI i)), (3, .ref o), (2, .ref (w 0)), (1, .ref (u 0)), (0, .ref b)]) hx hb dL_law_1687 hl (by decide) rfl (fun ls hl => ?_)
        refine lv_goto (tgt := 2331) hx hb dL_law_1689 (by decide) ?_
        exact kk _ _ _ _ _ ⟨_, _, _, _, _, _, _, _, _, _, hL2⟩ hS (by omega) (by omega) (lv_sub hl [2, 3, 4, 5, 6] rfl)
    · refine lv_aload_n hx hb dL_law_1640 rfl (lv_at hl 3 rfl) ?_
      refine lv_aload_n hx hb dL_law_1641 rfl (lv_at hl 4 rfl) ?_
      refine lv_iload hx hb dL_law_1642 (lv_at hl 0 rfl) ?_
      refine q_con hx hb dL_law_1644 ?_
      refine q_add hx hb dL_law_1645 ?_
      refine r_xld hx hb hX hbl hbA hS (i := i + 1) (z := x1) (by omega) hL ex1 dL_law_1646 ?_
      refine lv_aload_n hx hb dL_law_1647 rfl (lv_at hl 4 rfl) ?_
      refine lv_iload hx hb dL_law_1648 (lv_at hl 0 rfl) ?_
      refine q_con hx hb dL_law_1650 ?_
      refine q_add hx hb dL_law_1651 ?_
      refine r_xld hx hb hX hbl hbA hS (i := i + 2) (z := x2) (by omega) hL ex2 dL_law_1652 ?_
      refine lv_aload_n hx hb dL_law_1653 rfl (lv_at hl 4 rfl) ?_
      refine lv_iload hx hb dL_law_1654 (lv_at hl 0 rfl) ?_
      refine q_con hx hb dL_law_1656 ?_
      refine q_add hx hb dL_law_1657 ?_
      refine r_xld hx hb hX hbl hbA hS (i := i + 3) (z := x3) (by omega) hL ex3 dL_law_1658 ?_
      refine lv_aload_n hx hb dL_law_1659 rfl (lv_at hl 1 rfl) ?_
      refine c_SWr (As := [.ref (u 0), .int (iI x1), .int (iI x2), .int (iI x3), .ref o]) (rest := []) (r := .int (iI 1)) fx hl (wn2_inYear θ l hl0 S0 _ u dt (fun j => sv j 0) (fun j => sv j 1) (fun j => sv j 2) bc rf kn hcr hjH hn o nv sv9 ho hLX.1 x1 x2 x3 (by first | assumption | omega | (dsimp only; first | assumption | omega) | exact Hid.mk (by first | assumption | omega) | exact Hid.mk ⟨fun _ => by first | assumption | omega, fun _ => by first | assumption | omega⟩) (by first | assumption | omega | (dsimp only; first | assumption | omega) | exact Hid.mk (by first | assumption | omega) | exact Hid.mk ⟨fun _ => by first | assumption | omega, fun _ => by first | assumption | omega⟩) (by first | assumption | omega | (dsimp only; first | assumption | omega) | exact Hid.mk (by first | assumption | omega) | exact Hid.mk ⟨fun _ => by first | assumption | omega, fun _ => by first | assumption | omega⟩) (by first | assumption | omega | (dsimp only; first | assumption | omega) | exact Hid.mk (by first | assumption | omega) | exact Hid.mk ⟨fun _ => by first | assumption | omega, fun _ => by first | assumption | omega⟩) (by first | assumption | omega | (dsimp only; first | assumption | omega) | exact Hid.mk (by first | assumption | omega) | exact Hid.mk ⟨fun _ => by first | assumption | omega, fun _ => by first | assumption | omega⟩)) dL_law_1660 k950 k951 k0 k952 hd_L_inYear rfl ⟨by omega, by omega⟩ (Nat.le_of_ble_eq_true rfl) ⟨by (try dsimp only); omega, by (try dsimp only); omega⟩ hS (fun x h => h.elim (fun h => h.elim (fun ⟨j, hj, e⟩ => e ▸ hu.2 j hj) (fun h => Nat.le_trans hzH.2.1 h)) (fun e => e ▸ hoθ)) (fun H6 locs hpH6 hszH6 hkH6 hS => ?_)
      obtain ⟨hcw, ho1⟩ := hpH6
      have hzH1 := hz0.at hAB hS
      have hjH1 := hj0.at hAB hS
      have hm1 := lw_cls hLX hw hzH1 hkH6
      refine lv_istore (lv' := [(5, .int (iI 1)), (4, .int (iI i)), (3, .ref o), (2, .ref (w 0)), (1, .ref (u 0)), (0, .ref b)]) hx hb dL_law_1663 hl (by decide) rfl (fun ls hl => ?_)
      refine lv_aload_n hx hb dL_law_1665 rfl (lv_at hl 3 rfl) ?_
      refine lv_aload_n hx hb dL_law_1666 rfl (lv_at hl 5 rfl) ?_
      refine lv_iload hx hb dL_law_1667 (lv_at hl 1 rfl) ?_
      refine q_con hx hb dL_law_1669 ?_
      refine q_add hx hb dL_law_1670 ?_
      refine r_xld hx hb hX hbl hbA hS (i := i + 1) (z := x1) (by omega) hL ex1 dL_law_1671 ?_
      refine lv_aload_n hx hb dL_law_1672 rfl (lv_at hl 5 rfl) ?_
      refine lv_iload hx hb dL_law_1673 (lv_at hl 1 rfl) ?_
      refine q_con hx hb dL_law_1675 ?_
      refine q_add hx hb dL_law_1676 ?_
      refine r_xld hx hb hX hbl hbA hS (i := i + 2) (z := x2) (by omega) hL ex2 dL_law_1677 ?_
      refine lv_aload_n hx hb dL_law_1678 rfl (lv_at hl 5 rfl) ?_
      refine lv_iload hx hb dL_law_1679 (lv_at hl 1 rfl) ?_
      refine q_con hx hb dL_law_1681 ?_
      refine q_add hx hb dL_law_1682 ?_
      refine r_xld hx hb hX hbl hbA hS (i := i + 3) (z := x3) (by omega) hL ex3 dL_law_1683 ?_
      refine c_Vr (As := [.int (iI x1), .int (iI x2), .int (iI x3)]) (rest := []) (b := w 0) (C := RX3) (r := some (.int (iI 0))) (st1 := [.int (iI 0)]) fx hl (mno2_inYear θ l S0 _ w r q dt sv th bc rf kn hm1 x1 x2 x3 (by first | assumption | omega | (dsimp only; first | assumption | omega) | exact Hid.mk (by first | assumption | omega) | exact Hid.mk ⟨fun _ => by first | assumption | omega, fun _ => by first | assumption | omega⟩) (by first | assumption | omega | (dsimp only; first | assumption | omega) | exact Hid.mk (by first | assumption | omega) | exact Hid.mk ⟨fun _ => by first | assumption | omega, fun _ => by first | assumption | omega⟩) (by first | assumption | omega | (dsimp only; first | assumption | omega) | exact Hid.mk (by first | assumption | omega) | exact Hid.mk ⟨fun _ => by first | assumption | omega, fun _ => by first | assumption | omega⟩) (by first | assumption | omega | (dsimp only; first | assumption | omega) | exact Hid.mk (by first | assumption | omega) | exact Hid.mk ⟨fun _ => by first | assumption | omega, fun _ => by first | assumption | omega⟩) (by first | assumption | omega | (dsimp only; first | assumption | omega) | exact Hid.mk (by first | assumption | omega) | exact Hid.mk ⟨fun _ => by first | assumption | omega, fun _ => by first | assumption | omega⟩)) (ob_recv hK hm1.2.2.1.1 rfl) dL_law_1684 k1503 k1504 k1505 k6 k1506 hd_X3_inYear rfl rfl ⟨by omega, by omega⟩ (Nat.le_of_ble_eq_true rfl) ⟨by (try dsimp only); omega, by (try dsimp only); omega⟩ hS (wa_b hm1.2.1 hzH1.2.1) (fun H7 locs hpH7 hszH7 hkH7 hS => ?_)
      obtain ⟨r1, q1, hm2, nr, nq⟩ := hpH7
      have hzH2 := hz0.at hAB hS
      have hL2 := lw_mod hLX hzH2 hu hcw ho1 hfr hfq hm2 nr nq hkH7
      refine lv_istore (lv' := [(6, .int (iI 0)), (5, .int (iI 1)), (4, .int (iI i)), (3, .ref o), (2, .ref (w 0)), (1, .ref (u 0)), (0, .ref b)]) hx hb dL_law_1687 hl (by decide) rfl (fun ls hl => ?_)
      refine lv_goto (tgt := 2331) hx hb dL_law_1689 (by decide) ?_
      exact kk _ _ _ _ _ ⟨_, _, _, _, _, _, _, _, _, _, hL2⟩ hS (by omega) (by omega) (lv_sub hl [2, 3, 4, 5, 6] rfl)
  · refine lv_aload_n hx hb dL_law_1640 rfl (lv_at hl 3 rfl) ?_
    refine lv_aload_n hx hb dL_law_1641 rfl (lv_at hl 4 rfl) ?_
    refine lv_iload hx hb dL_law_1642 (lv_at hl 0 rfl) ?_
    refine q_con hx hb dL_law_1644 ?_
    refine q_add hx hb dL_law_1645 ?_
    refine r_xld hx hb hX hbl hbA hS (i := i + 1) (z := x1) (by omega) hL ex1 dL_law_1646 ?_
    refine lv_aload_n hx hb dL_law_1647 rfl (lv_at hl 4 rfl) ?_
    refine lv_iload hx hb dL_law_1648 (lv_at hl 0 rfl) ?_
    refine q_con hx hb dL_law_1650 ?_
    refine q_add hx hb dL_law_1651 ?_
    refine r_xld hx hb hX hbl hbA hS (i := i + 2) (z := x2) (by omega) hL ex2 dL_law_1652 ?_
    refine lv_aload_n hx hb dL_law_1653 rfl (lv_at hl 4 rfl) ?_
    refine lv_iload hx hb dL_law_1654 (lv_at hl 0 rfl) ?_
    refine q_con hx hb dL_law_1656 ?_
    refine q_add hx hb dL_law_1657 ?_
    refine r_xld hx hb hX hbl hbA hS (i := i + 3) (z := x3) (by omega) hL ex3 dL_law_1658 ?_
    refine lv_aload_n hx hb dL_law_1659 rfl (lv_at hl 1 rfl) ?_
    refine c_SWr (As := [.ref (u 0), .int (iI x1), .int (iI x2), .int (iI x3), .ref o]) (rest := []) (r := .int (iI 1)) fx hl (wn1_inYear θ l hl0 S0 _ u dt (fun j => sv j 0) (fun j => sv j 1) (fun j => sv j 2) bc rf kn hcr hjH hn o nv sv9 ho hLX.1 x1 x2 x3 (by first | assumption | omega | (dsimp only; first | assumption | omega) | exact Hid.mk (by first | assumption | omega) | exact Hid.mk ⟨fun _ => by first | assumption | omega, fun _ => by first | assumption | omega⟩) (by first | assumption | omega | (dsimp only; first | assumption | omega) | exact Hid.mk (by first | assumption | omega) | exact Hid.mk ⟨fun _ => by first | assumption | omega, fun _ => by first | assumption | omega⟩) (by first | assumption | omega | (dsimp only; first | assumption | omega) | exact Hid.mk (by first | assumption | omega) | exact Hid.mk ⟨fun _ => by first | assumption | omega, fun _ => by first | assumption | omega⟩) (by first | assumption | omega | (dsimp only; first | assumption | omega) | exact Hid.mk (by first | assumption | omega) | exact Hid.mk ⟨fun _ => by first | assumption | omega, fun _ => by first | assumption | omega⟩)) dL_law_1660 k950 k951 k0 k952 hd_L_inYear rfl ⟨by omega, by omega⟩ (Nat.le_of_ble_eq_true rfl) ⟨by (try dsimp only); omega, by (try dsimp only); omega⟩ hS (fun x h => h.elim (fun h => h.elim (fun ⟨j, hj, e⟩ => e ▸ hu.2 j hj) (fun h => Nat.le_trans hzH.2.1 h)) (fun e => e ▸ hoθ)) (fun H8 locs hpH8 hszH8 hkH8 hS => ?_)
    obtain ⟨hcw, ho1⟩ := hpH8
    have hzH1 := hz0.at hAB hS
    have hjH1 := hj0.at hAB hS
    have hm1 := lw_cls hLX hw hzH1 hkH8
    refine lv_istore (lv' := [(5, .int (iI 1)), (4, .int (iI i)), (3, .ref o), (2, .ref (w 0)), (1, .ref (u 0)), (0, .ref b)]) hx hb dL_law_1663 hl (by decide) rfl (fun ls hl => ?_)
    refine lv_aload_n hx hb dL_law_1665 rfl (lv_at hl 3 rfl) ?_
    refine lv_aload_n hx hb dL_law_1666 rfl (lv_at hl 5 rfl) ?_
    refine lv_iload hx hb dL_law_1667 (lv_at hl 1 rfl) ?_
    refine q_con hx hb dL_law_1669 ?_
    refine q_add hx hb dL_law_1670 ?_
    refine r_xld hx hb hX hbl hbA hS (i := i + 1) (z := x1) (by omega) hL ex1 dL_law_1671 ?_
    refine lv_aload_n hx hb dL_law_1672 rfl (lv_at hl 5 rfl) ?_
    refine lv_iload hx hb dL_law_1673 (lv_at hl 1 rfl) ?_
    refine q_con hx hb dL_law_1675 ?_
    refine q_add hx hb dL_law_1676 ?_
    refine r_xld hx hb hX hbl hbA hS (i := i + 2) (z := x2) (by omega) hL ex2 dL_law_1677 ?_
    refine lv_aload_n hx hb dL_law_1678 rfl (lv_at hl 5 rfl) ?_
    refine lv_iload hx hb dL_law_1679 (lv_at hl 1 rfl) ?_
    refine q_con hx hb dL_law_1681 ?_
    refine q_add hx hb dL_law_1682 ?_
    refine r_xld hx hb hX hbl hbA hS (i := i + 3) (z := x3) (by omega) hL ex3 dL_law_1683 ?_
    refine c_Vr (As := [.int (iI x1), .int (iI x2), .int (iI x3)]) (rest := []) (b := w 0) (C := RX3) (r := some (.int (iI 0))) (st1 := [.int (iI 0)]) fx hl (mno1_inYear θ l S0 _ w r q dt sv th bc rf kn hm1 x1 x2 x3 (by first | assumption | omega | (dsimp only; first | assumption | omega) | exact Hid.mk (by first | assumption | omega) | exact Hid.mk ⟨fun _ => by first | assumption | omega, fun _ => by first | assumption | omega⟩) (by first | assumption | omega | (dsimp only; first | assumption | omega) | exact Hid.mk (by first | assumption | omega) | exact Hid.mk ⟨fun _ => by first | assumption | omega, fun _ => by first | assumption | omega⟩) (by first | assumption | omega | (dsimp only; first | assumption | omega) | exact Hid.mk (by first | assumption | omega) | exact Hid.mk ⟨fun _ => by first | assumption | omega, fun _ => by first | assumption | omega⟩) (by first | assumption | omega | (dsimp only; first | assumption | omega) | exact Hid.mk (by first | assumption | omega) | exact Hid.mk ⟨fun _ => by first | assumption | omega, fun _ => by first | assumption | omega⟩)) (ob_recv hK hm1.2.2.1.1 rfl) dL_law_1684 k1503 k1504 k1505 k6 k1506 hd_X3_inYear rfl rfl ⟨by omega, by omega⟩ (Nat.le_of_ble_eq_true rfl) ⟨by (try dsimp only); omega, by (try dsimp only); omega⟩ hS (wa_b hm1.2.1 hzH1.2.1) (fun H9 locs hpH9 hszH9 hkH9 hS => ?_)
    obtain ⟨r1, q1, hm2, nr, nq⟩ := hpH9
    have hzH2 := hz0.at hAB hS
    have hL2 := lw_mod hLX hzH2 hu hcw ho1 hfr hfq hm2 nr nq hkH9
    refine lv_istore (lv' := [(6, .int (iI 0)), (5, .int (iI 1)), (4, .int (iI i)), (3, .ref o), (2, .ref (w 0)), (1, .ref (u 0)), (0, .ref b)]) hx hb dL_law_1687 hl (by decide) rfl (fun ls hl => ?_)
    refine lv_goto (tgt := 2331) hx hb dL_law_1689 (by decide) ?_
    exact kk _ _ _ _ _ ⟨_, _, _, _, _, _, _, _, _, _, hL2⟩ hS (by omega) (by omega) (lv_sub hl [2, 3, 4, 5, 6] rfl)

set_option maxHeartbeats 4000000 in
set_option maxRecDepth 100000 in
theorem lc_recurs {p : Program} {l : Launch} {e : Env} {R : Room} {s : State} {m : MethodId} {args : Array Value} {below : List Frame} {meth : Method} {c : Code} {Q : State → Prop} {θ : TH} {S0 : State} (fx : FX p m c cL_law 7 s args yL_law.cls S0) (hl0 : l.stackTraces = false) (hz0 : SZ θ S0 s.heap) (hj0 : SJ θ S0 s.heap) (hn : NX S0) {u w : Nat → Nat} {o b L : Nat} {xs : Nat → Int32} (hLX : LX u w o) (hoθ : θ.2.2.2 ≤ o) (hX : va_X b L xs s s.heap) (hbl : b < s.heap.size) (hbA : ¬ AJ θ b) (hL : L ≤ 2560) (hRF : 1000 ≤ R.frames ∧ 1000 ≤ R.locals) {H : Heap} {locs : List Loc} {cells slots : Nat} {ls : Array Slot} {i : Int} (hi : 0 ≤ i ∧ i + 5 ≤ (L : Int)) (hw : LWE θ S0 u w o H) (hS : va_S (AJ θ) s.heap H locs) (hRc : cells + 400 ≤ R.cells ∧ slots + 7000 ≤ R.slots) (hl : lv_has ls 7 [(4, .int (iI i)), (3, .ref o), (2, .ref (w 0)), (1, .ref (u 0)), (0, .ref b)]) (kk : LK p l e R s m args below meth c Q θ S0 u w o b i cells slots 2331) : W p l e R s m args below meth c H locs cells slots Q (F0 m 1692 ls []) := by
  obtain ⟨hx, hb, hml, hown, hts⟩ := id fx.1
  have hAB : ∀ x : Nat, AJ θ x → θ.2.2.2 ≤ x := fun _ h => h
  obtain ⟨r, q, dt, sv, th, bc, rf, kn, nv, sv9, hw⟩ := hw
  obtain ⟨hcr, hmr, ho, hfr, hfq⟩ := id hw
  have hzH := hz0.at hAB hS
  have hjH := hj0.at hAB hS
  have hK := sz_K fx.2 hz0
  have hu := hcr.2.1
  obtain ⟨x1, ex1⟩ : ∃ z : Int, z = (xs (i + 1).toNat).toInt := ⟨_, rfl⟩
  have bx1 := x32_b ex1
  obtain ⟨x2, ex2⟩ : ∃ z : Int, z = (xs (i + 2).toNat).toInt := ⟨_, rfl⟩
  have bx2 := x32_b ex2
  obtain ⟨x3, ex3⟩ : ∃ z : Int, z = (xs (i + 3).toNat).toInt := ⟨_, rfl⟩
  have bx3 := x32_b ex3
  by_cases hc1 : 0 ≤ x1 ∧ x1 < 6
  · by_cases hc2 : 1 ≤ x2 ∧ x2 ≤ 7
    · by_cases hc3 : 0 ≤ x3 ∧ x3 ≤ 48
      · refine lv_aload_n hx hb dL_law_1692 rfl (lv_at hl 3 rfl) ?_
        refine lv_aload_n hx hb dL_law_1693 rfl (lv_at hl 4 rfl) ?_
        refine lv_iload hx hb dL_law_1694 (lv_at hl 0 rfl) ?_
        refine q_con hx hb dL_law_1696 ?_
        refine q_add hx hb dL_law_1697 ?_
        refine r_xld hx hb hX hbl hbA hS (i := i + 1) (z := x1) (by omega) hL ex1 dL_law_1698 ?_
        refine lv_aload_n hx hb dL_law_1699 rfl (lv_at hl 4 rfl) ?_
        refine lv_iload hx hb dL_law_1700 (lv_at hl 0 rfl) ?_
        refine q_con hx hb dL_law_1702 ?_
        refine q_add hx hb dL_law_1703 ?_
        refine r_xld hx hb hX hbl hbA hS (i := i + 2) (z := x2) (by omega) hL ex2 dL_law_1704 ?_
        refine lv_aload_n hx hb dL_law_1705 rfl (lv_at hl 4 rfl) ?_
        refine lv_iload hx hb dL_law_1706 (lv_at hl 0 rfl) ?_
        refine q_con hx hb dL_law_1708 ?_
        refine q_add hx hb dL_law_1709 ?_
        refine r_xld hx hb hX hbl hbA hS (i := i + 3) (z := x3) (by omega) hL ex3 dL_law_1710 ?_
        refine lv_aload_n hx hb dL_law_1711 rfl (lv_at hl 1 rfl) ?_
        refine c_SWr (As := [.ref (u 0), .int (iI x1), .int (iI x2), .int (iI x3), .ref o]) (rest := []) (r := .int (iI 0)) fx hl (wr_recurs θ l hl0 S0 _ u dt (fun j => sv j 0) (fun j => sv j 1) (fun j => sv j 2) bc rf kn hcr hjH hn o nv sv9 ho hLX.1 x1 x2 x3 (by first | assumption | omega | (dsimp only; first | assumption | omega) | exact Hid.mk (by first | assumption | omega) | exact Hid.mk ⟨fun _ => by first | assumption | omega, fun _ => by first | assumption | omega⟩) (by first | assumption | omega | (dsimp only; first | assumption | omega) | exact Hid.mk (by first | assumption | omega) | exact Hid.mk ⟨fun _ => by first | assumption | omega, fun _ => by first | assumption | omega⟩) (by first | assumption | omega | (dsimp only; first | assumption | omega) | exact Hid.mk (by first | assumption | omega) | exact Hid.mk ⟨fun _ => by first | assumption | omega, fun _ => by first | assumption | omega⟩) (by first | assumption | omega | (dsimp only; first | assumption | omega) | exact Hid.mk (by first | assumption | omega) | exact Hid.mk ⟨fun _ => by first | assumption | omega, fun _ => by first | assumption | omega⟩) (by first | assumption | omega | (dsimp only; first | assumption | omega) | exact Hid.mk (by first | assumption | omega) | exact Hid.mk ⟨fun _ => by first | assumption | omega, fun _ => by first | assumption | omega⟩) (by first | assumption | omega | (dsimp only; first | assumption | omega) | exact Hid.mk (by first | assumption | omega) | exact Hid.mk ⟨fun _ => by first | assumption | omega, fun _ => by first | assumption | omega⟩)) dL_law_1712 k957 k958 k0 k959 hd_L_recurs rfl ⟨by omega, by omega⟩ (Nat.le_of_ble_eq_true rfl) ⟨by (try dsimp only); omega, by (try dsimp only); omega⟩ hS (fun x h => h.elim (fun h => h.elim (fun ⟨j, hj, e⟩ => e ▸ hu.2 j hj) (fun h => Nat.le_trans hzH.2.1 h)) (fun e => e ▸ hoθ)) (fun H1 locs hpH1 hszH1 hkH1 hS => ?_)
        obtain ⟨hcw, z9, ho1⟩ := hpH1
        have hzH1 := hz0.at hAB hS
        have hjH1 := hj0.at hAB hS
        have hm1 := lw_cls hLX hw hzH1 hkH1
        refine lv_istore (lv' := [(5, .int (iI 0)), (4, .int (iI i)), (3, .ref o), (2, .ref (w 0)), (1, .ref (u 0)), (0, .ref b)]) hx hb dL_law_1715 hl (by decide) rfl (fun ls hl => ?_)
        refine lv_aload_n hx hb dL_law_1717 rfl (lv_at hl 3 rfl) ?_
        refine lv_aload_n hx hb dL_law_1718 rfl (lv_at hl 5 rfl) ?_
        refine lv_iload hx hb dL_law_1719 (lv_at hl 1 rfl) ?_
        refine q_con hx hb dL_law_1721 ?_
        refine q_add hx hb dL_law_1722 ?_
        refine r_xld hx hb hX hbl hbA hS (i := i + 1) (z := x1) (by omega) hL ex1 dL_law_1723 ?_
        refine lv_aload_n hx hb dL_law_1724 rfl (lv_at hl 5 rfl) ?_
        refine lv_iload hx hb dL_law_1725 (lv_at hl 1 rfl) ?_
        refine q_con hx hb dL_law_1727 ?_
        refine q_add hx hb dL_law_1728 ?_
        refine r_xld hx hb hX hbl hbA hS (i := i + 2) (z := x2) (by omega) hL ex2 dL_law_1729 ?_
        refine lv_aload_n hx hb dL_law_1730 rfl (lv_at hl 5 rfl) ?_
        refine lv_iload hx hb dL_law_1731 (lv_at hl 1 rfl) ?_
        refine q_con hx hb dL_law_1733 ?_
        refine q_add hx hb dL_law_1734 ?_
        refine r_xld hx hb hX hbl hbA hS (i := i + 3) (z := x3) (by omega) hL ex3 dL_law_1735 ?_
        refine c_IP (As := [.int (iI x1), .int (iI x2), .int (iI x3)]) (rest := []) (b := w 0) (C := RX3) fx hl (mok_recurs θ l S0 _ w r q dt sv th bc rf kn hm1 x1 x2 x3 (by first | assumption | omega | (dsimp only; first | assumption | omega) | exact Hid.mk (by first | assumption | omega) | exact Hid.mk ⟨fun _ => by first | assumption | omega, fun _ => by first | assumption | omega⟩) (by first | assumption | omega | (dsimp only; first | assumption | omega) | exact Hid.mk (by first | assumption | omega) | exact Hid.mk ⟨fun _ => by first | assumption | omega, fun _ => by first | assumption | omega⟩) (by first | assumption | omega | (dsimp only; first | assumption | omega) | exact Hid.mk (by first | assumption | omega) | exact Hid.mk ⟨fun _ => by first | assumption | omega, fun _ => by first | assumption | omega⟩) (by first | assumption | omega | (dsimp only; first | assumption | omega) | exact Hid.mk (by first | assumption | omega) | exact Hid.mk ⟨fun _ => by first | assumption | omega, fun _ => by first | assumption | omega⟩) (by first | assumption | omega | (dsimp only; first | assumption | omega) | exact Hid.mk (by first | assumption | omega) | exact Hid.mk ⟨fun _ => by first | assumption | omega, fun _ => by first | assumption | omega⟩) (by first | assumption | omega | (dsimp only; first | assumption | omega) | exact Hid.mk (by first | assumption | omega) | exact Hid.mk ⟨fun _ => by first | assumption | omega, fun _ => by first | assumption | omega⟩)) (ob_recv hK hm1.2.2.1.1 rfl) dL_law_1736 k1507 k1508 k1509 k6 k1510 hd_X3_recurs rfl ⟨by omega, by omega⟩ (Nat.le_of_ble_eq_true rfl) ⟨by (try dsimp only); omega, by (try dsimp only); omega⟩ hS (wa_b hm1.2.1 hzH1.2.1) (fun z3 H2 locs hpH2 hszH2 hkH2 hS => ?_)
        obtain ⟨r1, q1, hm2, nr, nq⟩ := hpH2
        have hzH2 := hz0.at hAB hS
        have hL2 := lw_mod hLX hzH2 hu hcw ho1 hfr hfq hm2 nr nq hkH2
        refine lv_istore (lv' := [(6, .int (iI z3)), (5, .int (iI 0)), (4, .int (iI i)), (3, .ref o), (2, .ref (w 0)), (1, .ref (u 0)), (0, .ref b)]) hx hb dL_law_1739 hl (by decide) rfl (fun ls hl => ?_)
        refine lv_goto (tgt := 2331) hx hb dL_law_1741 (by decide) ?_
        exact kk _ _ _ _ _ ⟨_, _, _, _, _, _, _, _, _, _, hL2⟩ hS (by omega) (by omega) (lv_sub hl [2, 3, 4, 5, 6] rfl)
      · refine lv_aload_n hx hb dL_law_1692 rfl (lv_at hl 3 rfl) ?_
        refine lv_aload_n hx hb dL_law_1693 rfl (lv_at hl 4 rfl) ?_
        refine lv_iload hx hb dL_law_1694 (lv_at hl 0 rfl) ?_
        refine q_con hx hb dL_law_1696 ?_
        refine q_add hx hb dL_law_1697 ?_
        refine r_xld hx hb hX hbl hbA hS (i := i + 1) (z := x1) (by omega) hL ex1 dL_law_1698 ?_
        refine lv_aload_n hx hb dL_law_1699 rfl (lv_at hl 4 rfl) ?_
        refine lv_iload hx hb dL_law_1700 (lv_at hl 0 rfl) ?_
        refine q_con hx hb dL_law_1702 ?_
        refine q_add hx hb dL_law_1703 ?_
        refine r_xld hx hb hX hbl hbA hS (i := i + 2) (z := x2) (by omega) hL ex2 dL_law_1704 ?_
        refine lv_aload_n hx hb dL_law_1705 rfl (lv_at hl 4 rfl) ?_
        refine lv_iload hx hb dL_law_1706 (lv_at hl 0 rfl) ?_
        refine q_con hx hb dL_law_1708 ?_
        refine q_add hx hb dL_law_1709 ?_
        refine r_xld hx hb hX hbl hbA hS (i := i + 3) (z := x3) (by omega) hL ex3 dL_law_1710 ?_
        refine lv_aload_n hx hb dL_law_1711 rfl (lv_at hl 1 rfl) ?_
        refine c_SWr (As := [.ref (u 0), .int (iI x1), .int (iI x2), .int (iI x3), .ref o]) (rest := []) (r := .int (iI 2)) fx hl (wn3_recurs θ l hl0 S0 _ u dt (fun j => sv j 0) (fun j => sv j 1) (fun j => sv j 2) bc rf kn hcr hjH hn o nv sv9 ho hLX.1 x1 x2 x3 (by first | assumption | omega | (dsimp only; first | assumption | omega) | exact Hid.mk (by first | assumption | omega) | exact Hid.mk ⟨fun _ => by first | assumption | omega, fun _ => by first | assumption | omega⟩) (by first | assumption | omega | (dsimp only; first | assumption | omega) | exact Hid.mk (by first | assumption | omega) | exact Hid.mk ⟨fun _ => by first | assumption | omega, fun _ => by first | assumption | omega⟩) (by first | assumption | omega | (dsimp only; first | assumption | omega) | exact Hid.mk (by first | assumption | omega) | exact Hid.mk ⟨fun _ => by first | assumption | omega, fun _ => by first | assumption | omega⟩) (by first | assumption | omega | (dsimp only; first | assumption | omega) | exact Hid.mk (by first | assumption | omega) | exact Hid.mk ⟨fun _ => by first | assumption | omega, fun _ => by first | assumption | omega⟩) (by first | assumption | omega | (dsimp only; first | assumption | omega) | exact Hid.mk (by first | assumption | omega) | exact Hid.mk ⟨fun _ => by first | assumption | omega, fun _ => by first | assumption | omega⟩) (by first | assumption | omega | (dsimp only; first | assumption | omega) | exact Hid.mk (by first | assumption | omega) | exact Hid.mk ⟨fun _ => by first | assumption | omega, fun _ => by first | assumption | omega⟩)) dL_law_1712 k957 k958 k0 k959 hd_L_recurs rfl ⟨by omega, by omega⟩ (Nat.le_of_ble_eq_true rfl) ⟨by (try dsimp only); omega, by (try dsimp only); omega⟩ hS (fun x h => h.elim (fun h => h.elim (fun ⟨j, hj, e⟩ => e ▸ hu.2 j hj) (fun h => Nat.le_trans hzH.2.1 h)) (fun e => e ▸ hoθ)) (fun H4 locs hpH4 hszH4 hkH4 hS => ?_)
        obtain ⟨hcw, ho1⟩ := hpH4
        have hzH1 := hz0.at hAB hS
        have hjH1 := hj0.at hAB hS
        have hm1 := lw_cls hLX hw hzH1 hkH4
        refine lv_istore (lv' := [(5, .int (iI 2)), (4, .int (iI i)), (3, .ref o), (2, .ref (w 0)), (1, .ref (u 0)), (0, .ref b)]) hx hb dL_law_1715 hl (by decide) rfl (fun ls hl => ?_)
        refine lv_aload_n hx hb dL_law_1717 rfl (lv_at hl 3 rfl) ?_
        refine lv_aload_n hx hb dL_law_1718 rfl (lv_at hl 5 rfl) ?_
        refine lv_iload hx hb dL_law_1719 (lv_at hl 1 rfl) ?_
        refine q_con hx hb dL_law_1721 ?_
        refine q_add hx hb dL_law_1722 ?_
        refine r_xld hx hb hX hbl hbA hS (i := i + 1) (z := x1) (by omega) hL ex1 dL_law_1723 ?_
        refine lv_aload_n hx hb dL_law_1724 rfl (lv_at hl 5 rfl) ?_
        refine lv_iload hx hb dL_law_1725 (lv_at hl 1 rfl) ?_
        refine q_con hx hb dL_law_1727 ?_
        refine q_add hx hb dL_law_1728 ?_
        refine r_xld hx hb hX hbl hbA hS (i := i + 2) (z := x2) (by omega) hL ex2 dL_law_1729 ?_
        refine lv_aload_n hx hb dL_law_1730 rfl (lv_at hl 5 rfl) ?_
        refine lv_iload hx hb dL_law_1731 (lv_at hl 1 rfl) ?_
        refine q_con hx hb dL_law_1733 ?_
        refine q_add hx hb dL_law_1734 ?_
        refine r_xld hx hb hX hbl hbA hS (i := i + 3) (z := x3) (by omega) hL ex3 dL_law_1735 ?_
        refine c_Vr (As := [.int (iI x1), .int (iI x2), .int (iI x3)]) (rest := []) (b := w 0) (C := RX3) (r := some (.int (iI 0))) (st1 := [.int (iI 0)]) fx hl (mno3_recurs θ l S0 _ w r q dt sv th bc rf kn hm1 x1 x2 x3 (by first | assumption | omega | (dsimp only; first | assumption | omega) | exact Hid.mk (by first | assumption | omega) | exact Hid.mk ⟨fun _ => by first | assumption | omega, fun _ => by first | assumption | omega⟩) (by first | assumption | omega | (dsimp only; first | assumption | omega) | exact Hid.mk (by first | assumption | omega) | exact Hid.mk ⟨fun _ => by first | assumption | omega, fun _ => by first | assumption | omega⟩) (by first | assumption | omega | (dsimp only; first | assumption | omega) | exact Hid.mk (by first | assumption | omega) | exact Hid.mk ⟨fun _ => by first | assumption | omega, fun _ => by first | assumption | omega⟩) (by first | assumption | omega | (dsimp only; first | assumption | omega) | exact Hid.mk (by first | assumption | omega) | exact Hid.mk ⟨fun _ => by first | assumption | omega, fun _ => by first | assumption | omega⟩) (by first | assumption | omega | (dsimp only; first | assumption | omega) | exact Hid.mk (by first | assumption | omega) | exact Hid.mk ⟨fun _ => by first | assumption | omega, fun _ => by first | assumption | omega⟩) (by first | assumption | omega | (dsimp only; first | assumption | omega) | exact Hid.mk (by first | assumption | omega) | exact Hid.mk ⟨fun _ => by first | assumption | omega, fun _ => by first | assumption | omega⟩)) (ob_recv hK hm1.2.2.1.1 rfl) dL_law_1736 k1507 k1508 k1509 k6 k1510 hd_X3_recurs rfl rfl ⟨by omega, by omega⟩ (Nat.le_of_ble_eq_true rfl) ⟨by (try dsimp only); omega, by (try dsimp only); omega⟩ hS (wa_b hm1.2.1 hzH1.2.1) (fun H5 locs hpH5 hszH5 hkH5 hS => ?_)
        obtain ⟨r1, q1, hm2, nr, nq⟩ := hpH5
        have hzH2 := hz0.at hAB hS
        have hL2 := lw_mod hLX hzH2 hu hcw ho1 hfr hfq hm2 nr nq hkH5
        refine lv_istore (lv' := [(6, .int (iI 0)), (5, .int (iI 2)), (4, .int (iI i)), (3, .ref o), (2, .ref (w 0)), (1, .ref (u 0)), (0, .ref b)]) hx hb dL_law_1739 hl (by decide) rfl (fun ls hl => ?_)
        refine lv_goto (tgt := 2331) hx hb dL_law_1741 (by decide) ?_
        exact kk _ _ _ _ _ ⟨_, _, _, _, _, _, _, _, _, _, hL2⟩ hS (by omega) (by omega) (lv_sub hl [2, 3, 4, 5, 6] rfl)
    · refine lv_aload_n hx hb dL_law_1692 rfl (lv_at hl 3 rfl) ?_
      refine lv_aload_n hx hb dL_law_1693 rfl (lv_at hl 4 rfl) ?_
      refine lv_iload hx hb dL_law_1694 (lv_at hl 0 rfl) ?_
      refine q_con hx hb dL_law_1696 ?_
      refine q_add hx hb dL_law_1697 ?_
      refine r_xld hx hb hX hbl hbA hS (i := i + 1) (z := x1) (by omega) hL ex1 dL_law_1698 ?_
      refine lv_aload_n hx hb dL_law_1699 rfl (lv_at hl 4 rfl) ?_
      refine lv_iload hx hb dL_law_1700 (lv_at hl 0 rfl) ?_
      refine q_con hx hb dL_law_1702 ?_
      refine q_add hx hb dL_law_1703 ?_
      refine r_xld hx hb hX hbl hbA hS (i := i + 2) (z := x2) (by omega) hL ex2 dL_law_1704 ?_
      refine lv_aload_n hx hb dL_law_1705 rfl (lv_at hl 4 rfl) ?_
      refine lv_iload hx hb dL_law_1706 (lv_at hl 0 rfl) ?_
      refine q_con hx hb dL_law_1708 ?_
      refine q_add hx hb dL_law_1709 ?_
      refine r_xld hx hb hX hbl hbA hS (i := i + 3) (z := x3) (by omega) hL ex3 dL_law_1710 ?_
      refine lv_aload_n hx hb dL_law_1711 rfl (lv_at hl 1 rfl) ?_
      refine c_SWr (As := [.ref (u 0), .int (iI x1), .int (iI x2), .int (iI x3), .ref o]) (rest := []) (r := .int (iI 2)) fx hl (wn2_recurs θ l hl0 S0 _ u dt (fun j => sv j 0) (fun j => sv j 1) (fun j => sv j 2) bc rf kn hcr hjH hn o nv sv9 ho hLX.1 x1 x2 x3 (by first | assumption | omega | (dsimp only; first | assumption | omega) | exact Hid.mk (by first | assumption | omega) | exact Hid.mk ⟨fun _ => by first | assumption | omega, fun _ => by first | assumption | omega⟩) (by first | assumption | omega | (dsimp only; first | assumption | omega) | exact Hid.mk (by first | assumption | omega) | exact Hid.mk ⟨fun _ => by first | assumption | omega, fun _ => by first | assumption | omega⟩) (by first | assumption | omega | (dsimp only; first | assumption | omega) | exact Hid.mk (by first | assumption | omega) | exact Hid.mk ⟨fun _ => by first | assumption | omega, fun _ => by first | assumption | omega⟩) (by first | assumption | omega | (dsimp only; first | assumption | omega) | exact Hid.mk (by first | assumption | omega) | exact Hid.mk ⟨fun _ => by first | assumption | omega, fun _ => by first | assumption | omega⟩) (by first | assumption | omega | (dsimp only; first | assumption | omega) | exact Hid.mk (by first | assumption | omega) | exact Hid.mk ⟨fun _ => by first | assumption | omega, fun _ => by first | assumption | omega⟩)) dL_law_1712 k957 k958 k0 k959 hd_L_recurs rfl ⟨by omega, by omega⟩ (Nat.le_of_ble_eq_true rfl) ⟨by (try dsimp only); omega, by (try dsimp only); omega⟩ hS (fun x h => h.elim (fun h => h.elim (fun ⟨j, hj, e⟩ => e ▸ hu.2 j hj) (fun h => Nat.le_trans hzH.2.1 h)) (fun e => e ▸ hoθ)) (fun H6 locs hpH6 hszH6 hkH6 hS => ?_)
      obtain ⟨hcw, ho1⟩ := hpH6
      have hzH1 := hz0.at hAB hS
      have hjH1 := hj0.at hAB hS
      have hm1 := lw_cls hLX hw hzH1 hkH6
      refine lv_istore (lv' := [(5, .int (iI 2)), (4, .int (iI i)), (3, .ref o), (2, .ref (w 0)), (1, .ref (u 0)), (0, .ref b)]) hx hb dL_law_1715 hl (by decide) rfl (fun ls hl => ?_)
      refine lv_aload_n hx hb dL_law_1717 rfl (lv_at hl 3 rfl) ?_
      refine lv_aload_n hx hb dL_law_1718 rfl (lv_at hl 5 rfl) ?_
      refine lv_iload hx hb dL_law_1719 (lv_at hl 1 rfl) ?_
      refine q_con hx hb dL_law_1721 ?_
      refine q_add hx hb dL_law_1722 ?_
      refine r_xld hx hb hX hbl hbA hS (i := i + 1) (z := x1) (by omega) hL ex1 dL_law_1723 ?_
      refine lv_aload_n hx hb dL_law_1724 rfl (lv_at hl 5 rfl) ?_
      refine lv_iload hx hb dL_law_1725 (lv_at hl 1 rfl) ?_
      refine q_con hx hb dL_law_1727 ?_
      refine q_add hx hb dL_law_1728 ?_
      refine r_xld hx hb hX hbl hbA hS (i := i + 2) (z := x2) (by omega) hL ex2 dL_law_1729 ?_
      refine lv_aload_n hx hb dL_law_1730 rfl (lv_at hl 5 rfl) ?_
      refine lv_iload hx hb dL_law_1731 (lv_at hl 1 rfl) ?_
      refine q_con hx hb dL_law_1733 ?_
      refine q_add hx hb dL_law_1734 ?_
      refine r_xld hx hb hX hbl hbA hS (i := i + 3) (z := x3) (by omega) hL ex3 dL_law_1735 ?_
      refine c_Vr (As := [.int (iI x1), .int (iI x2), .int (iI x3)]) (rest := []) (b := w 0) (C := RX3) (r := some (.int (iI 0))) (st1 := [.int (iI 0)]) fx hl (mno2_recurs θ l S0 _ w r q dt sv th bc rf kn hm1 x1 x2 x3 (by first | assumption | omega | (dsimp only; first | assumption | omega) | exact Hid.mk (by first | assumption | omega) | exact Hid.mk ⟨fun _ => by first | assumption | omega, fun _ => by first | assumption | omega⟩) (by first | assumption | omega | (dsimp only; first | assumption | omega) | exact Hid.mk (by first | assumption | omega) | exact Hid.mk ⟨fun _ => by first | assumption | omega, fun _ => by first | assumption | omega⟩) (by first | assumption | omega | (dsimp only; first | assumption | omega) | exact Hid.mk (by first | assumption | omega) | exact Hid.mk ⟨fun _ => by first | assumption | omega, fun _ => by first | assumption | omega⟩) (by first | assumption | omega | (dsimp only; first | assumption | omega) | exact Hid.mk (by first | assumption | omega) | exact Hid.mk ⟨fun _ => by first | assumption | omega, fun _ => by first | assumption | omega⟩) (by first | assumption | omega | (dsimp only; first | assumption | omega) | exact Hid.mk (by first | assumption | omega) | exact Hid.mk ⟨fun _ => by first | assumption | omega, fun _ => by first | assumption | omega⟩)) (ob_recv hK hm1.2.2.1.1 rfl) dL_law_1736 k1507 k1508 k1509 k6 k1510 hd_X3_recurs rfl rfl ⟨by omega, by omega⟩ (Nat.le_of_ble_eq_true rfl) ⟨by (try dsimp only); omega, by (try dsimp only); omega⟩ hS (wa_b hm1.2.1 hzH1.2.1) (fun H7 locs hpH7 hszH7 hkH7 hS => ?_)
      obtain ⟨r1, q1, hm2, nr, nq⟩ := hpH7
      have hzH2 := hz0.at hAB hS
      have hL2 := lw_mod hLX hzH2 hu hcw ho1 hfr hfq hm2 nr nq hkH7
      refine lv_istore (lv' := [(6, .int (iI 0)), (5, .int (iI 2)), (4, .int (iI i)), (3, .ref o), (2, .ref (w 0)), (1, .ref (u 0)), (0, .ref b)]) hx hb dL_law_1739 hl (by decide) rfl (fun ls hl => ?_)
      refine lv_goto (tgt := 2331) hx hb dL_law_1741 (by decide) ?_
      exact kk _ _ _ _ _ ⟨_, _, _, _, _, _, _, _, _, _, hL2⟩ hS (by omega) (by omega) (lv_sub hl [2, 3, 4, 5, 6] rfl)
  · refine lv_aload_n hx hb dL_law_1692 rfl (lv_at hl 3 rfl) ?_
    refine lv_aload_n hx hb dL_law_1693 rfl (lv_at hl 4 rfl) ?_
    refine lv_iload hx hb dL_law_1694 (lv_at hl 0 rfl) ?_
    refine q_con hx hb dL_law_1696 ?_
    refine q_add hx hb dL_law_1697 ?_
    refine r_xld hx hb hX hbl hbA hS (i := i + 1) (z := x1) (by omega) hL ex1 dL_law_1698 ?_
    refine lv_aload_n hx hb dL_law_1699 rfl (lv_at hl 4 rfl) ?_
    refine lv_iload hx hb dL_law_1700 (lv_at hl 0 rfl) ?_
    refine q_con hx hb dL_law_1702 ?_
    refine q_add hx hb dL_law_1703 ?_
    refine r_xld hx hb hX hbl hbA hS (i := i + 2) (z := x2) (by omega) hL ex2 dL_law_1704 ?_
    refine lv_aload_n hx hb dL_law_1705 rfl (lv_at hl 4 rfl) ?_
    refine lv_iload hx hb dL_law_1706 (lv_at hl 0 rfl) ?_
    refine q_con hx hb dL_law_1708 ?_
    refine q_add hx hb dL_law_1709 ?_
    refine r_xld hx hb hX hbl hbA hS (i := i + 3) (z := x3) (by omega) hL ex3 dL_law_1710 ?_
    refine lv_aload_n hx hb dL_law_1711 rfl (lv_at hl 1 rfl) ?_
    refine c_SWr (As := [.ref (u 0), .int (iI x1), .int (iI x2), .int (iI x3), .ref o]) (rest := []) (r := .int (iI 1)) fx hl (wn1_recurs θ l hl0 S0 _ u dt (fun j => sv j 0) (fun j => sv j 1) (fun j => sv j 2) bc rf kn hcr hjH hn o nv sv9 ho hLX.1 x1 x2 x3 (by first | assumption | omega | (dsimp only; first | assumption | omega) | exact Hid.mk (by first | assumption | omega) | exact Hid.mk ⟨fun _ => by first | assumption | omega, fun _ => by first | assumption | omega⟩) (by first | assumption | omega | (dsimp only; first | assumption | omega) | exact Hid.mk (by first | assumption | omega) | exact Hid.mk ⟨fun _ => by first | assumption | omega, fun _ => by first | assumption | omega⟩) (by first | assumption | omega | (dsimp only; first | assumption | omega) | exact Hid.mk (by first | assumption | omega) | exact Hid.mk ⟨fun _ => by first | assumption | omega, fun _ => by first | assumption | omega⟩) (by first | assumption | omega | (dsimp only; first | assumption | omega) | exact Hid.mk (by first | assumption | omega) | exact Hid.mk ⟨fun _ => by first | assumption | omega, fun _ => by first | assumption | omega⟩)) dL_law_1712 k957 k958 k0 k959 hd_L_recurs rfl ⟨by omega, by omega⟩ (Nat.le_of_ble_eq_true rfl) ⟨by (try dsimp only); omega, by (try dsimp only); omega⟩ hS (fun x h => h.elim (fun h => h.elim (fun ⟨j, hj, e⟩ => e ▸ hu.2 j hj) (fun h => Nat.le_trans hzH.2.1 h)) (fun e => e ▸ hoθ)) (fun H8 locs hpH8 hszH8 hkH8 hS => ?_)
    obtain ⟨hcw, ho1⟩ := hpH8
    have hzH1 := hz0.at hAB hS
    have hjH1 := hj0.at hAB hS
    have hm1 := lw_cls hLX hw hzH1 hkH8
    refine lv_istore (lv' := [(5, .int (iI 1)), (4, .int (iI i)), (3, .ref o), (2, .ref (w 0)), (1, .ref (u 0)), (0, .ref b)]) hx hb dL_law_1715 hl (by decide) rfl (fun ls hl => ?_)
    refine lv_aload_n hx hb dL_law_1717 rfl (lv_at hl 3 rfl) ?_
    refine lv_aload_n hx hb dL_law_1718 rfl (lv_at hl 5 rfl) ?_
    refine lv_iload hx hb dL_law_1719 (lv_at hl 1 rfl) ?_
    refine q_con hx hb dL_law_1721 ?_
    refine q_add hx hb dL_law_1722 ?_
    refine r_xld hx hb hX hbl hbA hS (i := i + 1) (z := x1) (by omega) hL ex1 dL_law_1723 ?_
    refine lv_aload_n hx hb dL_law_1724 rfl (lv_at hl 5 rfl) ?_
    refine lv_iload hx hb dL_law_1725 (lv_at hl 1 rfl) ?_
    refine q_con hx hb dL_law_1727 ?_
    refine q_add hx hb dL_law_1728 ?_
    refine r_xld hx hb hX hbl hbA hS (i := i + 2) (z := x2) (by omega) hL ex2 dL_law_1729 ?_
    refine lv_aload_n hx hb dL_law_1730 rfl (lv_at hl 5 rfl) ?_
    refine lv_iload hx hb dL_law_1731 (lv_at hl 1 rfl) ?_
    refine q_con hx hb dL_law_1733 ?_
    refine q_add hx hb dL_law_1734 ?_
    refine r_xld hx hb hX hbl hbA hS (i := i + 3) (z := x3) (by omega) hL ex3 dL_law_1735 ?_
    refine c_Vr (As := [.int (iI x1), .int (iI x2), .int (iI x3)]) (rest := []) (b := w 0) (C := RX3) (r := some (.int (iI 0))) (st1 := [.int (iI 0)]) fx hl (mno1_recurs θ l S0 _ w r q dt sv th bc rf kn hm1 x1 x2 x3 (by first | assumption | omega | (dsimp only; first | assumption | omega) | exact Hid.mk (by first | assumption | omega) | exact Hid.mk ⟨fun _ => by first | assumption | omega, fun _ => by first | assumption | omega⟩) (by first | assumption | omega | (dsimp only; first | assumption | omega) | exact Hid.mk (by first | assumption | omega) | exact Hid.mk ⟨fun _ => by first | assumption | omega, fun _ => by first | assumption | omega⟩) (by first | assumption | omega | (dsimp only; first | assumption | omega) | exact Hid.mk (by first | assumption | omega) | exact Hid.mk ⟨fun _ => by first | assumption | omega, fun _ => by first | assumption | omega⟩) (by first | assumption | omega | (dsimp only; first | assumption | omega) | exact Hid.mk (by first | assumption | omega) | exact Hid.mk ⟨fun _ => by first | assumption | omega, fun _ => by first | assumption | omega⟩)) (ob_recv hK hm1.2.2.1.1 rfl) dL_law_1736 k1507 k1508 k1509 k6 k1510 hd_X3_recurs rfl rfl ⟨by omega, by omega⟩ (Nat.le_of_ble_eq_true rfl) ⟨by (try dsimp only); omega, by (try dsimp only); omega⟩ hS (wa_b hm1.2.1 hzH1.2.1) (fun H9 locs hpH9 hszH9 hkH9 hS => ?_)
    obtain ⟨r1, q1, hm2, nr, nq⟩ := hpH9
    have hzH2 := hz0.at hAB hS
    have hL2 := lw_mod hLX hzH2 hu hcw ho1 hfr hfq hm2 nr nq hkH9
    refine lv_istore (lv' := [(6, .int (iI 0)), (5, .int (iI 1)), (4, .int (iI i)), (3, .ref o), (2, .ref (w 0)), (1, .ref (u 0)), (0, .ref b)]) hx hb dL_law_1739 hl (by decide) rfl (fun ls hl => ?_)
    refine lv_goto (tgt := 2331) hx hb dL_law_1741 (by decide) ?_
    exact kk _ _ _ _ _ ⟨_, _, _, _, _, _, _, _, _, _, hL2⟩ hS (by omega) (by omega) (lv_sub hl [2, 3, 4, 5, 6] rfl)

set_option maxHeartbeats 4000000 in
set_option maxRecDepth 100000 in
theorem lc_age {p : Program} {l : Launch} {e : Env} {R : Room} {s : State} {m : MethodId} {args : Array Value} {below : List Frame} {meth : Method} {c : Code} {Q : State → Prop} {θ : TH} {S0 : State} (fx : FX p m c cL_law 7 s args yL_law.cls S0) (hl0 : l.stackTraces = false) (hz0 : SZ θ S0 s.heap) (hj0 : SJ θ S0 s.heap) (hn : NX S0) {u w : Nat → Nat} {o b L : Nat} {xs : Nat → Int32} (hLX : LX u w o) (hoθ : θ.2.2.2 ≤ o) (hX : va_X b L xs s s.heap) (hbl : b < s.heap.size) (hbA : ¬ AJ θ b) (hL : L ≤ 2560) (hRF : 1000 ≤ R.frames ∧ 1000 ≤ R.locals) {H : Heap} {locs : List Loc} {cells slots : Nat} {ls : Array Slot} {i : Int} (hi : 0 ≤ i ∧ i + 5 ≤ (L : Int)) (hw : LWE θ S0 u w o H) (hS : va_S (AJ θ) s.heap H locs) (hRc : cells + 400 ≤ R.cells ∧ slots + 7000 ≤ R.slots) (hl : lv_has ls 7 [(4, .int (iI i)), (3, .ref o), (2, .ref (w 0)), (1, .ref (u 0)), (0, .ref b)]) (kk : LK p l e R s m args below meth c Q θ S0 u w o b i cells slots 2331) : W p l e R s m args below meth c H locs cells slots Q (F0 m 1744 ls []) := by
  obtain ⟨hx, hb, hml, hown, hts⟩ := id fx.1
  have hAB : ∀ x : Nat, AJ θ x → θ.2.2.2 ≤ x := fun _ h => h
  obtain ⟨r, q, dt, sv, th, bc, rf, kn, nv, sv9, hw⟩ := hw
  obtain ⟨hcr, hmr, ho, hfr, hfq⟩ := id hw
  have hzH := hz0.at hAB hS
  have hjH := hj0.at hAB hS
  have hK := sz_K fx.2 hz0
  have hu := hcr.2.1
  obtain ⟨x1, ex1⟩ : ∃ z : Int, z = (xs (i + 1).toNat).toInt := ⟨_, rfl⟩
  have bx1 := x32_b ex1
  obtain ⟨x2, ex2⟩ : ∃ z : Int, z = (xs (i + 2).toNat).toInt := ⟨_, rfl⟩
  have bx2 := x32_b ex2
  by_cases hc1 : 0 ≤ x1 ∧ x1 < 6
  · by_cases hc2 : 0 ≤ x2 ∧ x2 < 6
    · by_cases hc3 : dt x1.toNat ≤ dt x2.toNat
      · refine lv_aload_n hx hb dL_law_1744 rfl (lv_at hl 3 rfl) ?_
        refine lv_aload_n hx hb dL_law_1745 rfl (lv_at hl 4 rfl) ?_
        refine lv_iload hx hb dL_law_1746 (lv_at hl 0 rfl) ?_
        refine q_con hx hb dL_law_1748 ?_
        refine q_add hx hb dL_law_1749 ?_
        refine r_xld hx hb hX hbl hbA hS (i := i + 1) (z := x1) (by omega) hL ex1 dL_law_1750 ?_
        refine lv_aload_n hx hb dL_law_1751 rfl (lv_at hl 4 rfl) ?_
        refine lv_iload hx hb dL_law_1752 (lv_at hl 0 rfl) ?_
        refine q_con hx hb dL_law_1754 ?_
        refine q_add hx hb dL_law_1755 ?_
        refine r_xld hx hb hX hbl hbA hS (i := i + 2) (z := x2) (by omega) hL ex2 dL_law_1756 ?_
        refine lv_aload_n hx hb dL_law_1757 rfl (lv_at hl 1 rfl) ?_
        refine c_SWr (As := [.ref (u 0), .int (iI x1), .int (iI x2), .ref o]) (rest := []) (r := .int (iI 0)) fx hl (wr_age θ l hl0 S0 _ u dt (fun j => sv j 0) (fun j => sv j 1) (fun j => sv j 2) bc rf kn hcr hjH hn o nv sv9 ho hLX.1 x1 x2 (by first | assumption | omega | (dsimp only; first | assumption | omega) | exact Hid.mk (by first | assumption | omega) | exact Hid.mk ⟨fun _ => by first | assumption | omega, fun _ => by first | assumption | omega⟩) (by first | assumption | omega | (dsimp only; first | assumption | omega) | exact Hid.mk (by first | assumption | omega) | exact Hid.mk ⟨fun _ => by first | assumption | omega, fun _ => by first | assumption | omega⟩) (by first | assumption | omega | (dsimp only; first | assumption | omega) | exact Hid.mk (by first | assumption | omega) | exact Hid.mk ⟨fun _ => by first | assumption | omega, fun _ => by first | assumption | omega⟩) (by first | assumption | omega | (dsimp only; first | assumption | omega) | exact Hid.mk (by first | assumption | omega) | exact Hid.mk ⟨fun _ => by first | assumption | omega, fun _ => by first | assumption | omega⟩) (by first | assumption | omega | (dsimp only; first | assumption | omega) | exact Hid.mk (by first | assumption | omega) | exact Hid.mk ⟨fun _ => by first | assumption | omega, fun _ => by first | assumption | omega⟩)) dL_law_1758 k964 k965 k0 k966 hd_L_age rfl ⟨by omega, by omega⟩ (Nat.le_of_ble_eq_true rfl) ⟨by (try dsimp only); omega, by (try dsimp only); omega⟩ hS (fun x h => h.elim (fun h => h.elim (fun ⟨j, hj, e⟩ => e ▸ hu.2 j hj) (fun h => Nat.le_trans hzH.2.1 h)) (fun e => e ▸ hoθ)) (fun H1 locs hpH1 hszH1 hkH1 hS => ?_)
        obtain ⟨hcw, ho1⟩ := hpH1
        have hzH1 := hz0.at hAB hS
        have hjH1 := hj0.at hAB hS
        have hm1 := lw_cls hLX hw hzH1 hkH1
        refine lv_istore (lv' := [(5, .int (iI 0)), (4, .int (iI i)), (3, .ref o), (2, .ref (w 0)), (1, .ref (u 0)), (0, .ref b)]) hx hb dL_law_1761 hl (by decide) rfl (fun ls hl => ?_)
        refine lv_aload_n hx hb dL_law_1763 rfl (lv_at hl 3 rfl) ?_
        refine lv_aload_n hx hb dL_law_1764 rfl (lv_at hl 5 rfl) ?_
        refine lv_iload hx hb dL_law_1765 (lv_at hl 1 rfl) ?_
        refine q_con hx hb dL_law_1767 ?_
        refine q_add hx hb dL_law_1768 ?_
        refine r_xld hx hb hX hbl hbA hS (i := i + 1) (z := x1) (by omega) hL ex1 dL_law_1769 ?_
        refine lv_aload_n hx hb dL_law_1770 rfl (lv_at hl 5 rfl) ?_
        refine lv_iload hx hb dL_law_1771 (lv_at hl 1 rfl) ?_
        refine q_con hx hb dL_law_1773 ?_
        refine q_add hx hb dL_law_1774 ?_
        refine r_xld hx hb hX hbl hbA hS (i := i + 2) (z := x2) (by omega) hL ex2 dL_law_1775 ?_
        refine c_Vr (As := [.int (iI x1), .int (iI x2)]) (rest := []) (b := w 0) (C := RX3) (r := some (.int (iI (muI (dt x1.toNat) (dt x2.toNat) / 12)))) (st1 := [.int (iI (muI (dt x1.toNat) (dt x2.toNat) / 12))]) fx hl (mok_age θ l S0 _ w r q dt sv th bc rf kn hm1 x1 x2 (by first | assumption | omega | (dsimp only; first | assumption | omega) | exact Hid.mk (by first | assumption | omega) | exact Hid.mk ⟨fun _ => by first | assumption | omega, fun _ => by first | assumption | omega⟩) (by first | assumption | omega | (dsimp only; first | assumption | omega) | exact Hid.mk (by first | assumption | omega) | exact Hid.mk ⟨fun _ => by first | assumption | omega, fun _ => by first | assumption | omega⟩) (by first | assumption | omega | (dsimp only; first | assumption | omega) | exact Hid.mk (by first | assumption | omega) | exact Hid.mk ⟨fun _ => by first | assumption | omega, fun _ => by first | assumption | omega⟩) (by first | assumption | omega | (dsimp only; first | assumption | omega) | exact Hid.mk (by first | assumption | omega) | exact Hid.mk ⟨fun _ => by first | assumption | omega, fun _ => by first | assumption | omega⟩) (by first | assumption | omega | (dsimp only; first | assumption | omega) | exact Hid.mk (by first | assumption | omega) | exact Hid.mk ⟨fun _ => by first | assumption | omega, fun _ => by first | assumption | omega⟩)) (ob_recv hK hm1.2.2.1.1 rfl) dL_law_1776 k1511 k1512 k1513 k6 k1514 hd_X3_age rfl rfl ⟨by omega, by omega⟩ (Nat.le_of_ble_eq_true rfl) ⟨by (try dsimp only); omega, by (try dsimp only); omega⟩ hS (wa_b hm1.2.1 hzH1.2.1) (fun H2 locs hpH2 hszH2 hkH2 hS => ?_)
        obtain ⟨r1, q1, hm2, nr, nq⟩ := hpH2
        have hzH2 := hz0.at hAB hS
        have hL2 := lw_mod hLX hzH2 hu hcw ho1 hfr hfq hm2 nr nq hkH2
        refine q_nm (fun z3 ez3 => ?_)
        refine lv_istore (lv' := [(6, .int (iI z3)), (5, .int (iI 0)), (4, .int (iI i)), (3, .ref o), (2, .ref (w 0)), (1, .ref (u 0)), (0, .ref b)]) hx hb dL_law_1779 hl (by decide) rfl (fun ls hl => ?_)
        refine lv_goto (tgt := 2331) hx hb dL_law_1781 (by decide) ?_
        exact kk _ _ _ _ _ ⟨_, _, _, _, _, _, _, _, _, _, hL2⟩ hS (by omega) (by omega) (lv_sub hl [2, 3, 4, 5, 6] rfl)
      · refine lv_aload_n hx hb dL_law_1744 rfl (lv_at hl 3 rfl) ?_
        refine lv_aload_n hx hb dL_law_1745 rfl (lv_at hl 4 rfl) ?_
        refine lv_iload hx hb dL_law_1746 (lv_at hl 0 rfl) ?_
        refine q_con hx hb dL_law_1748 ?_
        refine q_add hx hb dL_law_1749 ?_
        refine r_xld hx hb hX hbl hbA hS (i := i + 1) (z := x1) (by omega) hL ex1 dL_law_1750 ?_
        refine lv_aload_n hx hb dL_law_1751 rfl (lv_at hl 4 rfl) ?_
        refine lv_iload hx hb dL_law_1752 (lv_at hl 0 rfl) ?_
        refine q_con hx hb dL_law_1754 ?_
        refine q_add hx hb dL_law_1755 ?_
        refine r_xld hx hb hX hbl hbA hS (i := i + 2) (z := x2) (by omega) hL ex2 dL_law_1756 ?_
        refine lv_aload_n hx hb dL_law_1757 rfl (lv_at hl 1 rfl) ?_
        refine c_SWr (As := [.ref (u 0), .int (iI x1), .int (iI x2), .ref o]) (rest := []) (r := .int (iI 2)) fx hl (wn3_age θ l hl0 S0 _ u dt (fun j => sv j 0) (fun j => sv j 1) (fun j => sv j 2) bc rf kn hcr hjH hn o nv sv9 ho hLX.1 x1 x2 (by first | assumption | omega | (dsimp only; first | assumption | omega) | exact Hid.mk (by first | assumption | omega) | exact Hid.mk ⟨fun _ => by first | assumption | omega, fun _ => by first | assumption | omega⟩) (by first | assumption | omega | (dsimp only; first | assumption | omega) | exact Hid.mk (by first | assumption | omega) | exact Hid.mk ⟨fun _ => by first | assumption | omega, fun _ => by first | assumption | omega⟩) (by first | assumption | omega | (dsimp only; first | assumption | omega) | exact Hid.mk (by first | assumption | omega) | exact Hid.mk ⟨fun _ => by first | assumption | omega, fun _ => by first | assumption | omega⟩) (by first | assumption | omega | (dsimp only; first | assumption | omega) | exact Hid.mk (by first | assumption | omega) | exact Hid.mk ⟨fun _ => by first | assumption | omega, fun _ => by first | assumption | omega⟩) (by first | assumption | omega | (dsimp only; first | assumption | omega) | exact Hid.mk (by first | assumption | omega) | exact Hid.mk ⟨fun _ => by first | assumption | omega, fun _ => by first | assumption | omega⟩)) dL_law_1758 k964 k965 k0 k966 hd_L_age rfl ⟨by omega, by omega⟩ (Nat.le_of_ble_eq_true rfl) ⟨by (try dsimp only); omega, by (try dsimp only); omega⟩ hS (fun x h => h.elim (fun h => h.elim (fun ⟨j, hj, e⟩ => e ▸ hu.2 j hj) (fun h => Nat.le_trans hzH.2.1 h)) (fun e => e ▸ hoθ)) (fun H4 locs hpH4 hszH4 hkH4 hS => ?_)
        obtain ⟨hcw, ho1⟩ := hpH4
        have hzH1 := hz0.at hAB hS
        have hjH1 := hj0.at hAB hS
        have hm1 := lw_cls hLX hw hzH1 hkH4
        refine lv_istore (lv' := [(5, .int (iI 2)), (4, .int (iI i)), (3, .ref o), (2, .ref (w 0)), (1, .ref (u 0)), (0, .ref b)]) hx hb dL_law_1761 hl (by decide) rfl (fun ls hl => ?_)
        refine lv_aload_n hx hb dL_law_1763 rfl (lv_at hl 3 rfl) ?_
        refine lv_aload_n hx hb dL_law_1764 rfl (lv_at hl 5 rfl) ?_
        refine lv_iload hx hb dL_law_1765 (lv_at hl 1 rfl) ?_
        refine q_con hx hb dL_law_1767 ?_
        refine q_add hx hb dL_law_1768 ?_
        refine r_xld hx hb hX hbl hbA hS (i := i + 1) (z := x1) (by omega) hL ex1 dL_law_1769 ?_
        refine lv_aload_n hx hb dL_law_1770 rfl (lv_at hl 5 rfl) ?_
        refine lv_iload hx hb dL_law_1771 (lv_at hl 1 rfl) ?_
        refine q_con hx hb dL_law_1773 ?_
        refine q_add hx hb dL_law_1774 ?_
        refine r_xld hx hb hX hbl hbA hS (i := i + 2) (z := x2) (by omega) hL ex2 dL_law_1775 ?_
        refine c_Vr (As := [.int (iI x1), .int (iI x2)]) (rest := []) (b := w 0) (C := RX3) (r := some (.int (iI 0))) (st1 := [.int (iI 0)]) fx hl (mno3_age θ l S0 _ w r q dt sv th bc rf kn hm1 x1 x2 (by first | assumption | omega | (dsimp only; first | assumption | omega) | exact Hid.mk (by first | assumption | omega) | exact Hid.mk ⟨fun _ => by first | assumption | omega, fun _ => by first | assumption | omega⟩) (by first | assumption | omega | (dsimp only; first | assumption | omega) | exact Hid.mk (by first | assumption | omega) | exact Hid.mk ⟨fun _ => by first | assumption | omega, fun _ => by first | assumption | omega⟩) (by first | assumption | omega | (dsimp only; first | assumption | omega) | exact Hid.mk (by first | assumption | omega) | exact Hid.mk ⟨fun _ => by first | assumption | omega, fun _ => by first | assumption | omega⟩) (by first | assumption | omega | (dsimp only; first | assumption | omega) | exact Hid.mk (by first | assumption | omega) | exact Hid.mk ⟨fun _ => by first | assumption | omega, fun _ => by first | assumption | omega⟩) (by first | assumption | omega | (dsimp only; first | assumption | omega) | exact Hid.mk (by first | assumption | omega) | exact Hid.mk ⟨fun _ => by first | assumption | omega, fun _ => by first | assumption | omega⟩)) (ob_recv hK hm1.2.2.1.1 rfl) dL_law_1776 k1511 k1512 k1513 k6 k1514 hd_X3_age rfl rfl ⟨by omega, by omega⟩ (Nat.le_of_ble_eq_true rfl) ⟨by (try dsimp only); omega, by (try dsimp only); omega⟩ hS (wa_b hm1.2.1 hzH1.2.1) (fun H5 locs hpH5 hszH5 hkH5 hS => ?_)
        obtain ⟨r1, q1, hm2, nr, nq⟩ := hpH5
        have hzH2 := hz0.at hAB hS
        have hL2 := lw_mod hLX hzH2 hu hcw ho1 hfr hfq hm2 nr nq hkH5
        refine lv_istore (lv' := [(6, .int (iI 0)), (5, .int (iI 2)), (4, .int (iI i)), (3, .ref o), (2, .ref (w 0)), (1, .ref (u 0)), (0, .ref b)]) hx hb dL_law_1779 hl (by decide) rfl (fun ls hl => ?_)
        refine lv_goto (tgt := 2331) hx hb dL_law_1781 (by decide) ?_
        exact kk _ _ _ _ _ ⟨_, _, _, _, _, _, _, _, _, _, hL2⟩ hS (by omega) (by omega) (lv_sub hl [2, 3, 4, 5, 6] rfl)
    · refine lv_aload_n hx hb dL_law_1744 rfl (lv_at hl 3 rfl) ?_
      refine lv_aload_n hx hb dL_law_1745 rfl (lv_at hl 4 rfl) ?_
      refine lv_iload hx hb dL_law_1746 (lv_at hl 0 rfl) ?_
      refine q_con hx hb dL_law_1748 ?_
      refine q_add hx hb dL_law_1749 ?_
      refine r_xld hx hb hX hbl hbA hS (i := i + 1) (z := x1) (by omega) hL ex1 dL_law_1750 ?_
      refine lv_aload_n hx hb dL_law_1751 rfl (lv_at hl 4 rfl) ?_
      refine lv_iload hx hb dL_law_1752 (lv_at hl 0 rfl) ?_
      refine q_con hx hb dL_law_1754 ?_
      refine q_add hx hb dL_law_1755 ?_
      refine r_xld hx hb hX hbl hbA hS (i := i + 2) (z := x2) (by omega) hL ex2 dL_law_1756 ?_
      refine lv_aload_n hx hb dL_law_1757 rfl (lv_at hl 1 rfl) ?_
      refine c_SWr (As := [.ref (u 0), .int (iI x1), .int (iI x2), .ref o]) (rest := []) (r := .int (iI 1)) fx hl (wn2_age θ l hl0 S0 _ u dt (fun j => sv j 0) (fun j => sv j 1) (fun j => sv j 2) bc rf kn hcr hjH hn o nv sv9 ho hLX.1 x1 x2 (by first | assumption | omega | (dsimp only; first | assumption | omega) | exact Hid.mk (by first | assumption | omega) | exact Hid.mk ⟨fun _ => by first | assumption | omega, fun _ => by first | assumption | omega⟩) (by first | assumption | omega | (dsimp only; first | assumption | omega) | exact Hid.mk (by first | assumption | omega) | exact Hid.mk ⟨fun _ => by first | assumption | omega, fun _ => by first | assumption | omega⟩) (by first | assumption | omega | (dsimp only; first | assumption | omega) | exact Hid.mk (by first | assumption | omega) | exact Hid.mk ⟨fun _ => by first | assumption | omega, fun _ => by first | assumption | omega⟩) (by first | assumption | omega | (dsimp only; first | assumption | omega) | exact Hid.mk (by first | assumption | omega) | exact Hid.mk ⟨fun _ => by first | assumption | omega, fun _ => by first | assumption | omega⟩)) dL_law_1758 k964 k965 k0 k966 hd_L_age rfl ⟨by omega, by omega⟩ (Nat.le_of_ble_eq_true rfl) ⟨by (try dsimp only); omega, by (try dsimp only); omega⟩ hS (fun x h => h.elim (fun h => h.elim (fun ⟨j, hj, e⟩ => e ▸ hu.2 j hj) (fun h => Nat.le_trans hzH.2.1 h)) (fun e => e ▸ hoθ)) (fun H6 locs hpH6 hszH6 hkH6 hS => ?_)
      obtain ⟨hcw, ho1⟩ := hpH6
      have hzH1 := hz0.at hAB hS
      have hjH1 := hj0.at hAB hS
      have hm1 := lw_cls hLX hw hzH1 hkH6
      refine lv_istore (lv' := [(5, .int (iI 1)), (4, .int (iI i)), (3, .ref o), (2, .ref (w 0)), (1, .ref (u 0)), (0, .ref b)]) hx hb dL_law_1761 hl (by decide) rfl (fun ls hl => ?_)
      refine lv_aload_n hx hb dL_law_1763 rfl (lv_at hl 3 rfl) ?_
      refine lv_aload_n hx hb dL_law_1764 rfl (lv_at hl 5 rfl) ?_
      refine lv_iload hx hb dL_law_1765 (lv_at hl 1 rfl) ?_
      refine q_con hx hb dL_law_1767 ?_
      refine q_add hx hb dL_law_1768 ?_
      refine r_xld hx hb hX hbl hbA hS (i := i + 1) (z := x1) (by omega) hL ex1 dL_law_1769 ?_
      refine lv_aload_n hx hb dL_law_1770 rfl (lv_at hl 5 rfl) ?_
      refine lv_iload hx hb dL_law_1771 (lv_at hl 1 rfl) ?_
      refine q_con hx hb dL_law_1773 ?_
      refine q_add hx hb dL_law_1774 ?_
      refine r_xld hx hb hX hbl hbA hS (i := i + 2) (z := x2) (by omega) hL ex2 dL_law_1775 ?_
      refine c_Vr (As := [.int (iI x1), .int (iI x2)]) (rest := []) (b := w 0) (C := RX3) (r := some (.int (iI 0))) (st1 := [.int (iI 0)]) fx hl (mno2_age θ l S0 _ w r q dt sv th bc rf kn hm1 x1 x2 (by first | assumption | omega | (dsimp only; first | assumption | omega) | exact Hid.mk (by first | assumption | omega) | exact Hid.mk ⟨fun _ => by first | assumption | omega, fun _ => by first | assumption | omega⟩) (by first | assumption | omega | (dsimp only; first | assumption | omega) | exact Hid.mk (by first | assumption | omega) | exact Hid.mk ⟨fun _ => by first | assumption | omega, fun _ => by first | assumption | omega⟩) (by first | assumption | omega | (dsimp only; first | assumption | omega) | exact Hid.mk (by first | assumption | omega) | exact Hid.mk ⟨fun _ => by first | assumption | omega, fun _ => by first | assumption | omega⟩) (by first | assumption | omega | (dsimp only; first | assumption | omega) | exact Hid.mk (by first | assumption | omega) | exact Hid.mk ⟨fun _ => by first | assumption | omega, fun _ => by first | assumption | omega⟩)) (ob_recv hK hm1.2.2.1.1 rfl) dL_law_1776 k1511 k1512 k1513 k6 k1514 hd_X3_age rfl rfl ⟨by omega, by omega⟩ (Nat.le_of_ble_eq_true rfl) ⟨by (try dsimp only); omega, by (try dsimp only); omega⟩ hS (wa_b hm1.2.1 hzH1.2.1) (fun H7 locs hpH7 hszH7 hkH7 hS => ?_)
      obtain ⟨r1, q1, hm2, nr, nq⟩ := hpH7
      have hzH2 := hz0.at hAB hS
      have hL2 := lw_mod hLX hzH2 hu hcw ho1 hfr hfq hm2 nr nq hkH7
      refine lv_istore (lv' := [(6, .int (iI 0)), (5, .int (iI 1)), (4, .int (iI i)), (3, .ref o), (2, .ref (w 0)), (1, .ref (u 0)), (0, .ref b)]) hx hb dL_law_1779 hl (by decide) rfl (fun ls hl => ?_)
      refine lv_goto (tgt := 2331) hx hb dL_law_1781 (by decide) ?_
      exact kk _ _ _ _ _ ⟨_, _, _, _, _, _, _, _, _, _, hL2⟩ hS (by omega) (by omega) (lv_sub hl [2, 3, 4, 5, 6] rfl)
  · refine lv_aload_n hx hb dL_law_1744 rfl (lv_at hl 3 rfl) ?_
    refine lv_aload_n hx hb dL_law_1745 rfl (lv_at hl 4 rfl) ?_
    refine lv_iload hx hb dL_law_1746 (lv_at hl 0 rfl) ?_
    refine q_con hx hb dL_law_1748 ?_
    refine q_add hx hb dL_law_1749 ?_
    refine r_xld hx hb hX hbl hbA hS (i := i + 1) (z := x1) (by omega) hL ex1 dL_law_1750 ?_
    refine lv_aload_n hx hb dL_law_1751 rfl (lv_at hl 4 rfl) ?_
    refine lv_iload hx hb dL_law_1752 (lv_at hl 0 rfl) ?_
    refine q_con hx hb dL_law_1754 ?_
    refine q_add hx hb dL_law_1755 ?_
    refine r_xld hx hb hX hbl hbA hS (i := i + 2) (z := x2) (by omega) hL ex2 dL_law_1756 ?_
    refine lv_aload_n hx hb dL_law_1757 rfl (lv_at hl 1 rfl) ?_
    refine c_SWr (As := [.ref (u 0), .int (iI x1), .int (iI x2), .ref o]) (rest := []) (r := .int (iI 1)) fx hl (wn1_age θ l hl0 S0 _ u dt (fun j => sv j 0) (fun j => sv j 1) (fun j => sv j 2) bc rf kn hcr hjH hn o nv sv9 ho hLX.1 x1 x2 (by first | assumption | omega | (dsimp only; first | assumption | omega) | exact Hid.mk (by first | assumption | omega) | exact Hid.mk ⟨fun _ => by first | assumption | omega, fun _ => by first | assumption | omega⟩) (by first | assumption | omega | (dsimp only; first | assumption | omega) | exact Hid.mk (by first | assumption | omega) | exact Hid.mk ⟨fun _ => by first | assumption | omega, fun _ => by first | assumption | omega⟩) (by first | assumption | omega | (dsimp only; first | assumption | omega) | exact Hid.mk (by first | assumption | omega) | exact Hid.mk ⟨fun _ => by first | assumption | omega, fun _ => by first | assumption | omega⟩)) dL_law_1758 k964 k965 k0 k966 hd_L_age rfl ⟨by omega, by omega⟩ (Nat.le_of_ble_eq_true rfl) ⟨by (try dsimp only); omega, by (try dsimp only); omega⟩ hS (fun x h => h.elim (fun h => h.elim (fun ⟨j, hj, e⟩ => e ▸ hu.2 j hj) (fun h => Nat.le_trans hzH.2.1 h)) (fun e => e ▸ hoθ)) (fun H8 locs hpH8 hszH8 hkH8 hS => ?_)
    obtain ⟨hcw, ho1⟩ := hpH8
    have hzH1 := hz0.at hAB hS
    have hjH1 := hj0.at hAB hS
    have hm1 := lw_cls hLX hw hzH1 hkH8
    refine lv_istore (lv' := [(5, .int (iI 1)), (4, .int (iI i)), (3, .ref o), (2, .ref (w 0)), (1, .ref (u 0)), (0, .ref b)]) hx hb dL_law_1761 hl (by decide) rfl (fun ls hl => ?_)
    refine lv_aload_n hx hb dL_law_1763 rfl (lv_at hl 3 rfl) ?_
    refine lv_aload_n hx hb dL_law_1764 rfl (lv_at hl 5 rfl) ?_
    refine lv_iload hx hb dL_law_1765 (lv_at hl 1 rfl) ?_
    refine q_con hx hb dL_law_1767 ?_
    refine q_add hx hb dL_law_1768 ?_
    refine r_xld hx hb hX hbl hbA hS (i := i + 1) (z := x1) (by omega) hL ex1 dL_law_1769 ?_
    refine lv_aload_n hx hb dL_law_1770 rfl (lv_at hl 5 rfl) ?_
    refine lv_iload hx hb dL_law_1771 (lv_at hl 1 rfl) ?_
    refine q_con hx hb dL_law_1773 ?_
    refine q_add hx hb dL_law_1774 ?_
    refine r_xld hx hb hX hbl hbA hS (i := i + 2) (z := x2) (by omega) hL ex2 dL_law_1775 ?_
    refine c_Vr (As := [.int (iI x1), .int (iI x2)]) (rest := []) (b := w 0) (C := RX3) (r := some (.int (iI 0))) (st1 := [.int (iI 0)]) fx hl (mno1_age θ l S0 _ w r q dt sv th bc rf kn hm1 x1 x2 (by first | assumption | omega | (dsimp only; first | assumption | omega) | exact Hid.mk (by first | assumption | omega) | exact Hid.mk ⟨fun _ => by first | assumption | omega, fun _ => by first | assumption | omega⟩) (by first | assumption | omega | (dsimp only; first | assumption | omega) | exact Hid.mk (by first | assumption | omega) | exact Hid.mk ⟨fun _ => by first | assumption | omega, fun _ => by first | assumption | omega⟩) (by first | assumption | omega | (dsimp only; first | assumption | omega) | exact Hid.mk (by first | assumption | omega) | exact Hid.mk ⟨fun _ => by first | assumption | omega, fun _ => by first | assumption | omega⟩)) (ob_recv hK hm1.2.2.1.1 rfl) dL_law_1776 k1511 k1512 k1513 k6 k1514 hd_X3_age rfl rfl ⟨by omega, by omega⟩ (Nat.le_of_ble_eq_true rfl) ⟨by (try dsimp only); omega, by (try dsimp only); omega⟩ hS (wa_b hm1.2.1 hzH1.2.1) (fun H9 locs hpH9 hszH9 hkH9 hS => ?_)
    obtain ⟨r1, q1, hm2, nr, nq⟩ := hpH9
    have hzH2 := hz0.at hAB hS
    have hL2 := lw_mod hLX hzH2 hu hcw ho1 hfr hfq hm2 nr nq hkH9
    refine lv_istore (lv' := [(6, .int (iI 0)), (5, .int (iI 1)), (4, .int (iI i)), (3, .ref o), (2, .ref (w 0)), (1, .ref (u 0)), (0, .ref b)]) hx hb dL_law_1779 hl (by decide) rfl (fun ls hl => ?_)
    refine lv_goto (tgt := 2331) hx hb dL_law_1781 (by decide) ?_
    exact kk _ _ _ _ _ ⟨_, _, _, _, _, _, _, _, _, _, hL2⟩ hS (by omega) (by omega) (lv_sub hl [2, 3, 4, 5, 6] rfl)
