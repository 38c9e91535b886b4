set_option maxHeartbeats 4000000 in
set_option maxRecDepth 100000 in
theorem mok_span (θ : TH) (l : Launch) (S0 : State) (H : Heap) (w : Nat → Nat) (r q : Nat → Nat) (dt : Nat → Int) (sv : Nat → Nat → Int) (th dn rf kn : Int) (hw : MWR θ S0 w H r q dt sv th dn rf kn) (a x y z : Int) (h_0 : -2147483648 ≤ a ∧ a < 2147483648) (h_1 : -2147483648 ≤ x ∧ x < 2147483648) (h_2 : -2147483648 ≤ y ∧ y < 2147483648) (h_3 : -2147483648 ≤ z ∧ z < 2147483648) (h_4 : 0 ≤ a ∧ a < 3) (h_5 : -20000 ≤ x ∧ x ≤ 20000) (h_6 : -240000 ≤ y ∧ y ≤ 240000) (h_7 : -100000 ≤ z ∧ z ≤ 100000) : CT l yX3_span cX3_span 8 (some .int) 2 42 1 3 [.ref (w 0), .int (iI a), .int (iI x), .int (iI y), .int (iI z)] S0 H (fun v9 H1 => v9 = some (.int (iI (12 * x + y))) ∧ ∃ r1 q1 : Nat → Nat, MWR θ S0 w H1 r1 q1 dt (up sv a.toNat (tri x y z)) 0 (dn + 1) rf kn ∧ NW 6 H.size r r1 ∧ NW 3 H.size q q1) (fun _ _ => False) (WA w H.size) := by
  refine ct_of (by decide +kernel) (Nat.le_of_ble_eq_true rfl) ?_
  intro pg en s mi args below meth co ls fx hs hr hlk hxt hin hl
  subst hs
  obtain ⟨hx, hb, hml, hown, hts⟩ := id fx.1
  have hS : va_S (WA w s.heap.size) s.heap s.heap [] := va_S.rf
  obtain ⟨hz, hu, hm, hd, hsv⟩ := id hw
  have hAB : ∀ x : Nat, (WA w s.heap.size) x → θ.2.2.2 ≤ x := wa_b hu hz.2.1
  have hz0 := hz
  have hK := sz_K fx.2 hz
  have hlt0 := hm.lt
  have hu1 := hu.1
  have hAn : ∀ x : Nat, s.heap.size ≤ x → (WA w s.heap.size) x := fun _ h => Or.inr h
  refine q_con hx hb dX3_span_0 ?_
  refine r_newI (θ := θ) hx hb hts hK k71 hS (by omega) (by dsimp only; omega) (by dsimp only; omega) dX3_span_1 (fun H1 haH1 hszH1 hkH1 hS => ?_)
  have hzH1 := hz0.at hAB hS
  have hkkH1 := hkH1
  have hmH1 := hm.kept hkH1
  have hltmH1 := hm.lt
  refine lv_dup hx hb dX3_span_3 rfl ?_
  refine q_con hx hb dX3_span_4 ?_
  refine lv_iload_n hx hb dX3_span_5 rfl (lv_at hl 2 rfl) ?_
  refine r_iast (θ := θ) (a := s.heap.size) hx hb hK haH1 (hAn _ (by omega)) hS (i := 0) (x := x) (by omega) (by decide) dX3_span_6 (fun H2 locs haH2 hszH2 hkH2 hS => ?_)
  have hzH2 := hz0.at hAB hS
  have hkkH2 : ∀ x : Nat, x < (s.heap).size → H2[x]? = (s.heap)[x]? := fun x hx => (hkH2 x (by omega)).trans (hkkH1 x hx)
  have hmH2 := hm.kept hkkH2
  refine lv_dup hx hb dX3_span_7 rfl ?_
  refine q_con hx hb dX3_span_8 ?_
  refine lv_iload_n hx hb dX3_span_9 rfl (lv_at hl 3 rfl) ?_
  refine r_iast (θ := θ) (a := s.heap.size) hx hb hK haH2 (hAn _ (by omega)) hS (i := 1) (x := y) (by omega) (by decide) dX3_span_10 (fun H3 locs haH3 hszH3 hkH3 hS => ?_)
  have hzH3 := hz0.at hAB hS
  have hkkH3 : ∀ x : Nat, x < (s.heap).size → H3[x]? = (s.heap)[x]? := fun x hx => (hkH3 x (by omega)).trans (hkkH2 x hx)
  have hmH3 := hm.kept hkkH3
  refine lv_dup hx hb dX3_span_11 rfl ?_
  refine q_con hx hb dX3_span_12 ?_
  refine lv_iload hx hb dX3_span_13 (lv_at hl 4 rfl) ?_
  refine r_iast (θ := θ) (a := s.heap.size) hx hb hK haH3 (hAn _ (by omega)) hS (i := 2) (x := z) (by omega) (by decide) dX3_span_15 (fun H4 locs haH4 hszH4 hkH4 hS => ?_)
  have hzH4 := hz0.at hAB hS
  have hkkH4 : ∀ x : Nat, x < (s.heap).size → H4[x]? = (s.heap)[x]? := fun x hx => (hkH4 x (by omega)).trans (hkkH3 x hx)
  have hmH4 := hm.kept hkkH4
  refine lv_astore (lv' := [(5, .ref s.heap.size), (0, .ref (w 0)), (1, .int (iI a)), (2, .int (iI x)), (3, .int (iI y)), (4, .int (iI z))]) hx hb dX3_span_16 hl (by decide) rfl (fun ls hl => ?_)
  refine q_con hx hb dX3_span_18 ?_
  refine lv_istore (lv' := [(6, .int (iI 0)), (5, .ref s.heap.size), (0, .ref (w 0)), (1, .int (iI a)), (2, .int (iI x)), (3, .int (iI y)), (4, .int (iI z))]) hx hb dX3_span_19 hl (by decide) rfl (fun ls hl => ?_)
  refine q_con hx hb dX3_span_21 ?_
  refine lv_istore (lv' := [(7, .int (iI 0)), (6, .int (iI 0)), (5, .ref s.heap.size), (0, .ref (w 0)), (1, .int (iI a)), (2, .int (iI x)), (3, .int (iI y)), (4, .int (iI z))]) hx hb dX3_span_22 hl (by decide) rfl (fun ls hl => ?_)
  refine lv_iload hx hb dX3_span_24 (lv_at hl 0 rfl) ?_
  refine q_con hx hb dX3_span_26 ?_
  refine q_cge (tgt := 62) hx hb dX3_span_27 (by decide) (by omega) (by omega) (fun c5 => ?_) (fun c5 => ?_)
  · exact (show False by omega).elim
  · refine lv_iload hx hb dX3_span_30 (lv_at hl 1 rfl) ?_
    refine lv_aload hx hb dX3_span_32 (lv_at hl 2 rfl) ?_
    refine lv_iload hx hb dX3_span_34 (lv_at hl 0 rfl) ?_
    refine r_iald (θ := θ) hx hb hK haH4 (i := 0) (by omega) (by decide) dX3_span_36 ?_
    refine q_as (x) rfl ?_
    refine r_gets (θ := θ) hx hb fx.2 hz0.2.2.2.1.1 hAB hS hown (hts _ k1226) dX3_span_37 ?_
    refine lv_iload hx hb dX3_span_40 (lv_at hl 0 rfl) ?_
    refine r_ildz hx hb fx.2 hzH4.2.2.2.1.2.1 (i := 0) (by omega) (by decide) dX3_span_42 ?_
    refine q_as (20000) rfl ?_
    refine q_neg hx hb dX3_span_43 ?_
    refine r_gets (θ := θ) hx hb fx.2 hz0.2.2.2.1.1 hAB hS hown (hts _ k1226) dX3_span_44 ?_
    refine lv_iload hx hb dX3_span_47 (lv_at hl 0 rfl) ?_
    refine r_ildz hx hb fx.2 hzH4.2.2.2.1.2.1 (i := 0) (by omega) (by decide) dX3_span_49 ?_
    refine q_as (20000) rfl ?_
    obtain ⟨r6, hr6⟩ := bex (x < (-20000) ∨ 20000 < x)
    refine c_P (As := [.int (iI x), .int (iI (-20000)), .int (iI 20000)]) (rest := [.int (iI 0)]) fx hl (pm_X3_isOut l x (-20000) 20000 r6 hr6 (by omega) (by omega) (by omega)) dX3_span_50 k1116 k1117 k6 k1118 hd_X3_isOut rfl ⟨by decide, by decide⟩ (Nat.le_of_ble_eq_true rfl) ⟨by dsimp only; omega, by dsimp only; omega⟩ ?_
    have br6 : r6 = 0 ∨ r6 = 1 := hr6.elim (fun h => Or.inr h.1) (fun h => Or.inl h.1)
    refine q_ior hx hb dX3_span_53 (by decide) br6 (fun z7 bz7 hz7 => ?_)
    refine lv_istore (lv' := [(6, .int (iI z7)), (7, .int (iI 0)), (5, .ref s.heap.size), (0, .ref (w 0)), (1, .int (iI a)), (2, .int (iI x)), (3, .int (iI y)), (4, .int (iI z))]) hx hb dX3_span_54 hl (by decide) rfl (fun ls hl => ?_)
    refine lv_iinc (v := iI (1)) (lv' := [(7, .int (iI 1)), (6, .int (iI z7)), (5, .ref s.heap.size), (0, .ref (w 0)), (1, .int (iI a)), (2, .int (iI x)), (3, .int (iI y)), (4, .int (iI z))]) hx hb dX3_span_56 hl (k := 1) rfl rfl (by decide) rfl (fun ls hl => ?_)
    refine lv_goto (tgt := 24) hx hb dX3_span_59 (by decide) ?_
    refine lv_iload hx hb dX3_span_24 (lv_at hl 0 rfl) ?_
    refine q_con hx hb dX3_span_26 ?_
    refine q_cge (tgt := 62) hx hb dX3_span_27 (by decide) (by omega) (by omega) (fun c8 => ?_) (fun c8 => ?_)
    · exact (show False by omega).elim
    · refine lv_iload hx hb dX3_span_30 (lv_at hl 1 rfl) ?_
      refine lv_aload hx hb dX3_span_32 (lv_at hl 2 rfl) ?_
      refine lv_iload hx hb dX3_span_34 (lv_at hl 0 rfl) ?_
      refine r_iald (θ := θ) hx hb hK haH4 (i := 1) (by omega) (by decide) dX3_span_36 ?_
      refine q_as (y) rfl ?_
      refine r_gets (θ := θ) hx hb fx.2 hz0.2.2.2.1.1 hAB hS hown (hts _ k1226) dX3_span_37 ?_
      refine lv_iload hx hb dX3_span_40 (lv_at hl 0 rfl) ?_
      refine r_ildz hx hb fx.2 hzH4.2.2.2.1.2.1 (i := 1) (by omega) (by decide) dX3_span_42 ?_
      refine q_as (240000) rfl ?_
      refine q_neg hx hb dX3_span_43 ?_
      refine r_gets (θ := θ) hx hb fx.2 hz0.2.2.2.1.1 hAB hS hown (hts _ k1226) dX3_span_44 ?_
      refine lv_iload hx hb dX3_span_47 (lv_at hl 0 rfl) ?_
      refine r_ildz hx hb fx.2 hzH4.2.2.2.1.2.1 (i := 1) (by omega) (by decide) dX3_span_49 ?_
      refine q_as (240000) rfl ?_
      obtain ⟨r9, hr9⟩ := bex (y < (-240000) ∨ 240000 < y)
      refine c_P (As := [.int (iI y), .int (iI (-240000)), .int (iI 240000)]) (rest := [.int (iI z7)]) fx hl (pm_X3_isOut l y (-240000) 240000 r9 hr9 (by omega) (by omega) (by omega)) dX3_span_50 k1116 k1117 k6 k1118 hd_X3_isOut rfl ⟨by decide, by decide⟩ (Nat.le_of_ble_eq_true rfl) ⟨by dsimp only; omega, by dsimp only; omega⟩ ?_
      have br9 : r9 = 0 ∨ r9 = 1 := hr9.elim (fun h => Or.inr h.1) (fun h => Or.inl h.1)
      refine q_ior hx hb dX3_span_53 bz7 br9 (fun z10 bz10 hz10 => ?_)
      refine lv_istore (lv' := [(6, .int (iI z10)), (7, .int (iI 1)), (5, .ref s.heap.size), (0, .ref (w 0)), (1, .int (iI a)), (2, .int (iI x)), (3, .int (iI y)), (4, .int (iI z))]) hx hb dX3_span_54 hl (by decide) rfl (fun ls hl => ?_)
      refine lv_iinc (v := iI (2)) (lv' := [(7, .int (iI 2)), (6, .int (iI z10)), (5, .ref s.heap.size), (0, .ref (w 0)), (1, .int (iI a)), (2, .int (iI x)), (3, .int (iI y)), (4, .int (iI z))]) hx hb dX3_span_56 hl (k := 1) rfl rfl (by decide) rfl (fun ls hl => ?_)
      refine lv_goto (tgt := 24) hx hb dX3_span_59 (by decide) ?_
      refine lv_iload hx hb dX3_span_24 (lv_at hl 0 rfl) ?_
      refine q_con hx hb dX3_span_26 ?_
      refine q_cge (tgt := 62) hx hb dX3_span_27 (by decide) (by omega) (by omega) (fun c11 => ?_) (fun c11 => ?_)
      · exact (show False by omega).elim
      · refine lv_iload hx hb dX3_span_30 (lv_at hl 1 rfl) ?_
        refine lv_aload hx hb dX3_span_32 (lv_at hl 2 rfl) ?_
        refine lv_iload hx hb dX3_span_34 (lv_at hl 0 rfl) ?_
        refine r_iald (θ := θ) hx hb hK haH4 (i := 2) (by omega) (by decide) dX3_span_36 ?_
        refine q_as (z) rfl ?_
        refine r_gets (θ := θ) hx hb fx.2 hz0.2.2.2.1.1 hAB hS hown (hts _ k1226) dX3_span_37 ?_
        refine lv_iload hx hb dX3_span_40 (lv_at hl 0 rfl) ?_
        refine r_ildz hx hb fx.2 hzH4.2.2.2.1.2.1 (i := 2) (by omega) (by decide) dX3_span_42 ?_
        refine q_as (100000) rfl ?_
        refine q_neg hx hb dX3_span_43 ?_
        refine r_gets (θ := θ) hx hb fx.2 hz0.2.2.2.1.1 hAB hS hown (hts _ k1226) dX3_span_44 ?_
        refine lv_iload hx hb dX3_span_47 (lv_at hl 0 rfl) ?_
        refine r_ildz hx hb fx.2 hzH4.2.2.2.1.2.1 (i := 2) (by omega) (by decide) dX3_span_49 ?_
        refine q_as (100000) rfl ?_
        obtain ⟨r12, hr12⟩ := bex (z < (-100000) ∨ 100000 < z)
        refine c_P (As := [.int (iI z), .int (iI (-100000)), .int (iI 100000)]) (rest := [.int (iI z10)]) fx hl (pm_X3_isOut l z (-100000) 100000 r12 hr12 (by omega) (by omega) (by omega)) dX3_span_50 k1116 k1117 k6 k1118 hd_X3_isOut rfl ⟨by decide, by decide⟩ (Nat.le_of_ble_eq_true rfl) ⟨by dsimp only; omega, by dsimp only; omega⟩ ?_
        have br12 : r12 = 0 ∨ r12 = 1 := hr12.elim (fun h => Or.inr h.1) (fun h => Or.inl h.1)
        refine q_ior hx hb dX3_span_53 bz10 br12 (fun z13 bz13 hz13 => ?_)
        refine lv_istore (lv' := [(6, .int (iI z13)), (7, .int (iI 2)), (5, .ref s.heap.size), (0, .ref (w 0)), (1, .int (iI a)), (2, .int (iI x)), (3, .int (iI y)), (4, .int (iI z))]) hx hb dX3_span_54 hl (by decide) rfl (fun ls hl => ?_)
        refine lv_iinc (v := iI (3)) (lv' := [(7, .int (iI 3)), (6, .int (iI z13)), (5, .ref s.heap.size), (0, .ref (w 0)), (1, .int (iI a)), (2, .int (iI x)), (3, .int (iI y)), (4, .int (iI z))]) hx hb dX3_span_56 hl (k := 1) rfl rfl (by decide) rfl (fun ls hl => ?_)
        refine lv_goto (tgt := 24) hx hb dX3_span_59 (by decide) ?_
        refine lv_iload hx hb dX3_span_24 (lv_at hl 0 rfl) ?_
        refine q_con hx hb dX3_span_26 ?_
        refine q_cge (tgt := 62) hx hb dX3_span_27 (by decide) (by omega) (by omega) (fun c14 => ?_) (fun c14 => ?_)
        · refine lv_aload_n hx hb dX3_span_62 rfl (lv_at hl 3 rfl) ?_
          refine lv_iload_n hx hb dX3_span_63 rfl (lv_at hl 4 rfl) ?_
          obtain ⟨r15, hr15⟩ := bex (a < 0 ∨ 2 < a)
          refine c_P (As := [.int (iI a)]) (rest := [.ref (w 0)]) fx hl (pm_X3_isNoSpan l a r15 hr15 (by omega)) dX3_span_64 k1207 k1208 k6 k1209 hd_X3_isNoSpan rfl ⟨by decide, by decide⟩ (Nat.le_of_ble_eq_true rfl) ⟨by dsimp only; omega, by dsimp only; omega⟩ ?_
          have br15 : r15 = 0 ∨ r15 = 1 := hr15.elim (fun h => Or.inr h.1) (fun h => Or.inl h.1)
          refine lv_iload hx hb dX3_span_67 (lv_at hl 1 rfl) ?_
          refine q_con hx hb dX3_span_69 ?_
          obtain ⟨t16, f17, hq1t16, hq2t16⟩ := fails_ex r15 z13 0 (by omega) (by omega) (by omega)
          have hmw : MWR θ S0 w H4 r q dt sv th dn rf kn := ⟨hzH4, hu, hmH4, hd, hsv⟩
          refine c_M (w := w) (As := [.int (iI r15), .int (iI z13), .int (iI 0)]) (rest := []) (b := w 0) (C := RX3) fx hl (mw_fails θ l S0 _ w _ _ _ _ _ _ _ _ hmw r15 z13 0 t16 f17 (by omega) hq1t16 hq2t16) (ob_recv hK hmH4.1 rfl) dX3_span_70 k1119 k1121 ks10 k6 k1122 hd_X3_fails rfl ⟨by decide, by decide⟩ (Nat.le_of_ble_eq_true rfl) ⟨by dsimp only; omega, by dsimp only; omega⟩ hS (fun x hx => hx ▸ Or.inl (Or.inl rfl)) (fun H18 locs hmH18 hszH18 hk0H18 hS => ?_)
          have hkH18 : ∀ x : Nat, x < (H4).size → ¬ x = w 0 → H18[x]? = (H4)[x]? := hk0H18
          have haH4_H18 := haH4.kept (hkH18 _ haH4.lt (by omega))
          have hzH18 := hz0.at hAB hS
          have hltH18 := hmH18.lt
          refine q_ieq (tgt := 78) hx hb dX3_span_73 (by decide) (by omega) (fun c19 => ?_) (fun c19 => ?_)
          · refine lv_aload_n hx hb dX3_span_78 rfl (lv_at hl 3 rfl) ?_
            refine r_get (θ := θ) (C := RX3) (T := TX3) (N := 6) (ci := 9) hx hb hts gwX3 hown hK hmH18.1 rfl 5 (by decide) k1095 (fun _ h => h) (v := .ref (w 2)) rfl dX3_span_79 ?_
            refine lv_iload_n hx hb dX3_span_82 rfl (lv_at hl 4 rfl) ?_
            refine lv_aload hx hb dX3_span_83 (lv_at hl 2 rfl) ?_
            have tr20 := mk_row3 (x := x) (y := y) (z := z) haH4_H18 (by first | rfl | (subst_vars; rfl) | (simp only [up_s, up]; omega)) (by first | rfl | (subst_vars; rfl) | (simp only [up_s, up]; omega)) (by first | rfl | (subst_vars; rfl) | (simp only [up_s, up]; omega))
            refine r_aast (θ := θ) (a := (w 2)) hx hb fx.2 hz0 hmH18.2.2.1 tr20 (Or.inl (Or.inr (Or.inr rfl))) hS (i := a) (by omega) (by decide) dX3_span_85 (fun H21 locs haH21 hszH21 hkH21 hS => ?_)
            have hmH21 : MW θ w H21 r (up q a.toNat s.heap.size) dt (up sv a.toNat (tri x y z)) t16 dn rf kn := hmH18.span hu haH21 tr20 ⟨by omega, by omega, by omega⟩ hkH21
            have hzH21 := hz0.at hAB hS
            have tr20_H21 := tr20.kept (hkH21 _ (by omega))
            refine lv_aload_n hx hb dX3_span_86 rfl (lv_at hl 3 rfl) ?_
            refine lv_dup hx hb dX3_span_87 rfl ?_
            refine r_get (θ := θ) (C := RX3) (T := TX3) (N := 6) (ci := 9) hx hb hts gwX3 hown hK hmH21.1 rfl 1 (by decide) k1091 (fun _ h => h) (v := .int (iI dn)) rfl dX3_span_88 ?_
            refine q_con hx hb dX3_span_91 ?_
            refine q_add hx hb dX3_span_92 ?_
            refine r_put (θ := θ) (C := RX3) (T := TX3) (N := 6) (ci := 9) (v := .int (iI (dn + 1))) (ty := .int) hx hb hts gwX3 tyX3 tyX3_ok nmX3 hown hK hmH21.1 (Or.inl (Or.inl rfl)) hS rfl 1 (by decide) k1091 (fun _ h => h) rfl (by decide +kernel) rfl rfl (Nat.le_of_ble_eq_true rfl) dX3_span_93 (fun H22 locs hoH22 hszH22 hkH22 hS => ?_)
            have hmH22 : MW θ w H22 r (up q a.toNat s.heap.size) dt (up sv a.toNat (tri x y z)) t16 (dn + 1) rf kn := hmH21.obj hu hoH22 hkH22
            have hzH22 := hz0.at hAB hS
            have tr20_H22 := tr20_H21.kept (hkH22 _ (by omega))
            refine lv_aload_n hx hb dX3_span_96 rfl (lv_at hl 3 rfl) ?_
            refine lv_iload_n hx hb dX3_span_97 rfl (lv_at hl 4 rfl) ?_
            have hmw : MWR θ S0 w H22 r (up q a.toNat s.heap.size) dt (up sv a.toNat (tri x y z)) t16 (dn + 1) rf kn := ⟨hzH22, hu, hmH22, hd, (svr_up hsv ⟨by omega, by omega, by omega, by omega, by omega, by omega⟩)⟩
            refine c_HV (As := [.int (iI a)]) (rest := []) (b := w 0) (C := RX3) fx hl (mr_all θ l S0 _ w _ _ _ _ _ _ _ _ hmw a (by omega)) (ob_recv hK hmH22.1 rfl) dX3_span_98 k1214 k1216 ks14 k6 k1217 hd_X3_all rfl ⟨by decide, by decide⟩ (Nat.le_of_ble_eq_true rfl) ⟨by dsimp only; omega, by dsimp only; omega⟩ ?_
            refine q_nm (fun z23 ez23 => ?_)
            obtain rfl : t16 = 0 := by omega
            have hmw : MWR θ S0 w H22 r (up q a.toNat s.heap.size) dt (up sv a.toNat (tri x y z)) 0 (dn + 1) rf kn := ⟨hzH22, hu, hmH22, hd, (svr_up hsv ⟨by omega, by omega, by omega, by omega, by omega, by omega⟩)⟩
            exact e_i hx hb hr hlk hS dX3_span_101 (Nat.le_of_ble_eq_true rfl) (Nat.le_of_ble_eq_true rfl) ⟨ex_i (by subst_vars; first | omega | (simp only [up_s, tri_0, tri_1, tri_2, inI_self, inI_1, inI_31]; done) | (simp only [up_s, tri_0, tri_1, tri_2, inI_self, inI_1, inI_31]; omega) | (simp only [up_s, tri_0, tri_1, tri_2]; subst_vars; first | rfl | omega)), r, (up q a.toNat s.heap.size), by first | exact hmw | (subst_vars; exact hmw) | (simp only [inI_self, inI_1, inI_31] at hmw; subst_vars; exact hmw), by first | exact nw_rf | exact nw_up (by omega) | exact nw_up2 (by omega), by first | exact nw_rf | exact nw_up (by omega) | exact nw_up2 (by omega)⟩
          · exact (show False by omega).elim
        · exact (show False by omega).elim

set_option maxHeartbeats 4000000 in
set_option maxRecDepth 100000 in
theorem mno1_span (θ : TH) (l : Launch) (S0 : State) (H : Heap) (w : Nat → Nat) (r q : Nat → Nat) (dt : Nat → Int) (sv : Nat → Nat → Int) (th dn rf kn : Int) (hw : MWR θ S0 w H r q dt sv th dn rf kn) (a x y z : Int) (h_0 : -2147483648 ≤ a ∧ a < 2147483648) (h_1 : -2147483648 ≤ x ∧ x < 2147483648) (h_2 : -2147483648 ≤ y ∧ y < 2147483648) (h_3 : -2147483648 ≤ z ∧ z < 2147483648) (h_4 : ¬ (0 ≤ a ∧ a < 3)) : CT l yX3_span cX3_span 8 (some .int) 2 42 1 3 [.ref (w 0), .int (iI a), .int (iI x), .int (iI y), .int (iI z)] S0 H (fun v9 H1 => v9 = some (.int (iI 0)) ∧ ∃ r1 q1 : Nat → Nat, MWR θ S0 w H1 r1 q1 dt sv 1 dn rf kn ∧ NW 6 H.size r r1 ∧ NW 3 H.size q q1) (fun _ _ => False) (WA w H.size) := by
  refine ct_of (by decide +kernel) (Nat.le_of_ble_eq_true rfl) ?_
  intro pg en s mi args below meth co ls fx hs hr hlk hxt hin hl
  subst hs
  obtain ⟨hx, hb, hml, hown, hts⟩ := id fx.1
  have hS : va_S (WA w s.heap.size) s.heap s.heap [] := va_S.rf
  obtain ⟨hz, hu, hm, hd, hsv⟩ := id hw
  have hAB : ∀ x : Nat, (WA w s.heap.size) x → θ.2.2.2 ≤ x := wa_b hu hz.2.1
  have hz0 := hz
  have hK := sz_K fx.2 hz
  have hlt0 := hm.lt
  have hu1 := hu.1
  have hAn : ∀ x : Nat, s.heap.size ≤ x → (WA w s.heap.size) x := fun _ h => Or.inr h
  refine q_con hx hb dX3_span_0 ?_
  refine r_newI (θ := θ) hx hb hts hK k71 hS (by omega) (by dsimp only; omega) (by dsimp only; omega) dX3_span_1 (fun H1 haH1 hszH1 hkH1 hS => ?_)
  have hzH1 := hz0.at hAB hS
  have hkkH1 := hkH1
  have hmH1 := hm.kept hkH1
  have hltmH1 := hm.lt
  refine lv_dup hx hb dX3_span_3 rfl ?_
  refine q_con hx hb dX3_span_4 ?_
  refine lv_iload_n hx hb dX3_span_5 rfl (lv_at hl 2 rfl) ?_
  refine r_iast (θ := θ) (a := s.heap.size) hx hb hK haH1 (hAn _ (by omega)) hS (i := 0) (x := x) (by omega) (by decide) dX3_span_6 (fun H2 locs haH2 hszH2 hkH2 hS => ?_)
  have hzH2 := hz0.at hAB hS
  have hkkH2 : ∀ x : Nat, x < (s.heap).size → H2[x]? = (s.heap)[x]? := fun x hx => (hkH2 x (by omega)).trans (hkkH1 x hx)
  have hmH2 := hm.kept hkkH2
  refine lv_dup hx hb dX3_span_7 rfl ?_
  refine q_con hx hb dX3_span_8 ?_
  refine lv_iload_n hx hb dX3_span_9 rfl (lv_at hl 3 rfl) ?_
  refine r_iast (θ := θ) (a := s.heap.size) hx hb hK haH2 (hAn _ (by omega)) hS (i := 1) (x := y) (by omega) (by decide) dX3_span_10 (fun H3 locs haH3 hszH3 hkH3 hS => ?_)
  have hzH3 := hz0.at hAB hS
  have hkkH3 : ∀ x : Nat, x < (s.heap).size → H3[x]? = (s.heap)[x]? := fun x hx => (hkH3 x (by omega)).trans (hkkH2 x hx)
  have hmH3 := hm.kept hkkH3
  refine lv_dup hx hb dX3_span_11 rfl ?_
  refine q_con hx hb dX3_span_12 ?_
  refine lv_iload hx hb dX3_span_13 (lv_at hl 4 rfl) ?_
  refine r_iast (θ := θ) (a := s.heap.size) hx hb hK haH3 (hAn _ (by omega)) hS (i := 2) (x := z) (by omega) (by decide) dX3_span_15 (fun H4 locs haH4 hszH4 hkH4 hS => ?_)
  have hzH4 := hz0.at hAB hS
  have hkkH4 : ∀ x : Nat, x < (s.heap).size → H4[x]? = (s.heap)[x]? := fun x hx => (hkH4 x (by omega)).trans (hkkH3 x hx)
  have hmH4 := hm.kept hkkH4
  refine lv_astore (lv' := [(5, .ref s.heap.size), (0, .ref (w 0)), (1, .int (iI a)), (2, .int (iI x)), (3, .int (iI y)), (4, .int (iI z))]) hx hb dX3_span_16 hl (by decide) rfl (fun ls hl => ?_)
  refine q_con hx hb dX3_span_18 ?_
  refine lv_istore (lv' := [(6, .int (iI 0)), (5, .ref s.heap.size), (0, .ref (w 0)), (1, .int (iI a)), (2, .int (iI x)), (3, .int (iI y)), (4, .int (iI z))]) hx hb dX3_span_19 hl (by decide) rfl (fun ls hl => ?_)
  refine q_con hx hb dX3_span_21 ?_
  refine lv_istore (lv' := [(7, .int (iI 0)), (6, .int (iI 0)), (5, .ref s.heap.size), (0, .ref (w 0)), (1, .int (iI a)), (2, .int (iI x)), (3, .int (iI y)), (4, .int (iI z))]) hx hb dX3_span_22 hl (by decide) rfl (fun ls hl => ?_)
  refine lv_iload hx hb dX3_span_24 (lv_at hl 0 rfl) ?_
  refine q_con hx hb dX3_span_26 ?_
  refine q_cge (tgt := 62) hx hb dX3_span_27 (by decide) (by omega) (by omega) (fun c5 => ?_) (fun c5 => ?_)
  · exact (show False by omega).elim
  · refine lv_iload hx hb dX3_span_30 (lv_at hl 1 rfl) ?_
    refine lv_aload hx hb dX3_span_32 (lv_at hl 2 rfl) ?_
    refine lv_iload hx hb dX3_span_34 (lv_at hl 0 rfl) ?_
    refine r_iald (θ := θ) hx hb hK haH4 (i := 0) (by omega) (by decide) dX3_span_36 ?_
    refine q_as (x) rfl ?_
    refine r_gets (θ := θ) hx hb fx.2 hz0.2.2.2.1.1 hAB hS hown (hts _ k1226) dX3_span_37 ?_
    refine lv_iload hx hb dX3_span_40 (lv_at hl 0 rfl) ?_
    refine r_ildz hx hb fx.2 hzH4.2.2.2.1.2.1 (i := 0) (by omega) (by decide) dX3_span_42 ?_
    refine q_as (20000) rfl ?_
    refine q_neg hx hb dX3_span_43 ?_
    refine r_gets (θ := θ) hx hb fx.2 hz0.2.2.2.1.1 hAB hS hown (hts _ k1226) dX3_span_44 ?_
    refine lv_iload hx hb dX3_span_47 (lv_at hl 0 rfl) ?_
    refine r_ildz hx hb fx.2 hzH4.2.2.2.1.2.1 (i := 0) (by omega) (by decide) dX3_span_49 ?_
    refine q_as (20000) rfl ?_
    obtain ⟨r6, hr6⟩ := bex (x < (-20000) ∨ 20000 < x)
    refine c_P (As := [.int (iI x), .int (iI (-20000)), .int (iI 20000)]) (rest := [.int (iI 0)]) fx hl (pm_X3_isOut l x (-20000) 20000 r6 hr6 (by omega) (by omega) (by omega)) dX3_span_50 k1116 k1117 k6 k1118 hd_X3_isOut rfl ⟨by decide, by decide⟩ (Nat.le_of_ble_eq_true rfl) ⟨by dsimp only; omega, by dsimp only; omega⟩ ?_
    have br6 : r6 = 0 ∨ r6 = 1 := hr6.elim (fun h => Or.inr h.1) (fun h => Or.inl h.1)
    refine q_ior hx hb dX3_span_53 (by decide) br6 (fun z7 bz7 hz7 => ?_)
    refine lv_istore (lv' := [(6, .int (iI z7)), (7, .int (iI 0)), (5, .ref s.heap.size), (0, .ref (w 0)), (1, .int (iI a)), (2, .int (iI x)), (3, .int (iI y)), (4, .int (iI z))]) hx hb dX3_span_54 hl (by decide) rfl (fun ls hl => ?_)
    refine lv_iinc (v := iI (1)) (lv' := [(7, .int (iI 1)), (6, .int (iI z7)), (5, .ref s.heap.size), (0, .ref (w 0)), (1, .int (iI a)), (2, .int (iI x)), (3, .int (iI y)), (4, .int (iI z))]) hx hb dX3_span_56 hl (k := 1) rfl rfl (by decide) rfl (fun ls hl => ?_)
    refine lv_goto (tgt := 24) hx hb dX3_span_59 (by decide) ?_
    refine lv_iload hx hb dX3_span_24 (lv_at hl 0 rfl) ?_
    refine q_con hx hb dX3_span_26 ?_
    refine q_cge (tgt := 62) hx hb dX3_span_27 (by decide) (by omega) (by omega) (fun c8 => ?_) (fun c8 => ?_)
    · exact (show False by omega).elim
    · refine lv_iload hx hb dX3_span_30 (lv_at hl 1 rfl) ?_
      refine lv_aload hx hb dX3_span_32 (lv_at hl 2 rfl) ?_
      refine lv_iload hx hb dX3_span_34 (lv_at hl 0 rfl) ?_
      refine r_iald (θ := θ) hx hb hK haH4 (i := 1) (by omega) (by decide) dX3_span_36 ?_
      refine q_as (y) rfl ?_
      refine r_gets (θ := θ) hx hb fx.2 hz0.2.2.2.1.1 hAB hS hown (hts _ k1226) dX3_span_37 ?_
      refine lv_iload hx hb dX3_span_40 (lv_at hl 0 rfl) ?_
      refine r_ildz hx hb fx.2 hzH4.2.2.2.1.2.1 (i := 1) (by omega) (by decide) dX3_span_42 ?_
      refine q_as (240000) rfl ?_
      refine q_neg hx hb dX3_span_43 ?_
      refine r_gets (θ := θ) hx hb fx.2 hz0.2.2.2.1.1 hAB hS hown (hts _ k1226) dX3_span_44 ?_
      refine lv_iload hx hb dX3_span_47 (lv_at hl 0 rfl) ?_
      refine r_ildz hx hb fx.2 hzH4.2.2.2.1.2.1 (i := 1) (by omega) (by decide) dX3_span_49 ?_
      refine q_as (240000) rfl ?_
      obtain ⟨r9, hr9⟩ := bex (y < (-240000) ∨ 240000 < y)
      refine c_P (As := [.int (iI y), .int (iI (-240000)), .int (iI 240000)]) (rest := [.int (iI z7)]) fx hl (pm_X3_isOut l y (-240000) 240000 r9 hr9 (by omega) (by omega) (by omega)) dX3_span_50 k1116 k1117 k6 k1118 hd_X3_isOut rfl ⟨by decide, by decide⟩ (Nat.le_of_ble_eq_true rfl) ⟨by dsimp only; omega, by dsimp only; omega⟩ ?_
      have br9 : r9 = 0 ∨ r9 = 1 := hr9.elim (fun h => Or.inr h.1) (fun h => Or.inl h.1)
      refine q_ior hx hb dX3_span_53 bz7 br9 (fun z10 bz10 hz10 => ?_)
      refine lv_istore (lv' := [(6, .int (iI z10)), (7, .int (iI 1)), (5, .ref s.heap.size), (0, .ref (w 0)), (1, .int (iI a)), (2, .int (iI x)), (3, .int (iI y)), (4, .int (iI z))]) hx hb dX3_span_54 hl (by decide) rfl (fun ls hl => ?_)
      refine lv_iinc (v := iI (2)) (lv' := [(7, .int (iI 2)), (6, .int (iI z10)), (5, .ref s.heap.size), (0, .ref (w 0)), (1, .int (iI a)), (2, .int (iI x)), (3, .int (iI y)), (4, .int (iI z))]) hx hb dX3_span_56 hl (k := 1) rfl rfl (by decide) rfl (fun ls hl => ?_)
      refine lv_goto (tgt := 24) hx hb dX3_span_59 (by decide) ?_
      refine lv_iload hx hb dX3_span_24 (lv_at hl 0 rfl) ?_
      refine q_con hx hb dX3_span_26 ?_
      refine q_cge (tgt := 62) hx hb dX3_span_27 (by decide) (by omega) (by omega) (fun c11 => ?_) (fun c11 => ?_)
      · exact (show False by omega).elim
      · refine lv_iload hx hb dX3_span_30 (lv_at hl 1 rfl) ?_
        refine lv_aload hx hb dX3_span_32 (lv_at hl 2 rfl) ?_
        refine lv_iload hx hb dX3_span_34 (lv_at hl 0 rfl) ?_
        refine r_iald (θ := θ) hx hb hK haH4 (i := 2) (by omega) (by decide) dX3_span_36 ?_
        refine q_as (z) rfl ?_
        refine r_gets (θ := θ) hx hb fx.2 hz0.2.2.2.1.1 hAB hS hown (hts _ k1226) dX3_span_37 ?_
        refine lv_iload hx hb dX3_span_40 (lv_at hl 0 rfl) ?_
        refine r_ildz hx hb fx.2 hzH4.2.2.2.1.2.1 (i := 2) (by omega) (by decide) dX3_span_42 ?_
        refine q_as (100000) rfl ?_
        refine q_neg hx hb dX3_span_43 ?_
        refine r_gets (θ := θ) hx hb fx.2 hz0.2.2.2.1.1 hAB hS hown (hts _ k1226) dX3_span_44 ?_
        refine lv_iload hx hb dX3_span_47 (lv_at hl 0 rfl) ?_
        refine r_ildz hx hb fx.2 hzH4.2.2.2.1.2.1 (i := 2) (by omega) (by decide) dX3_span_49 ?_
        refine q_as (100000) rfl ?_
        obtain ⟨r12, hr12⟩ := bex (z < (-100000) ∨ 100000 < z)
        refine c_P (As := [.int (iI z), .int (iI (-100000)), .int (iI 100000)]) (rest := [.int (iI z10)]) fx hl (pm_X3_isOut l z (-100000) 100000 r12 hr12 (by omega) (by omega) (by omega)) dX3_span_50 k1116 k1117 k6 k1118 hd_X3_isOut rfl ⟨by decide, by decide⟩ (Nat.le_of_ble_eq_true rfl) ⟨by dsimp only; omega, by dsimp only; omega⟩ ?_
        have br12 : r12 = 0 ∨ r12 = 1 := hr12.elim (fun h => Or.inr h.1) (fun h => Or.inl h.1)
        refine q_ior hx hb dX3_span_53 bz10 br12 (fun z13 bz13 hz13 => ?_)
        refine lv_istore (lv' := [(6, .int (iI z13)), (7, .int (iI 2)), (5, .ref s.heap.size), (0, .ref (w 0)), (1, .int (iI a)), (2, .int (iI x)), (3, .int (iI y)), (4, .int (iI z))]) hx hb dX3_span_54 hl (by decide) rfl (fun ls hl => ?_)
        refine lv_iinc (v := iI (3)) (lv' := [(7, .int (iI 3)), (6, .int (iI z13)), (5, .ref s.heap.size), (0, .ref (w 0)), (1, .int (iI a)), (2, .int (iI x)), (3, .int (iI y)), (4, .int (iI z))]) hx hb dX3_span_56 hl (k := 1) rfl rfl (by decide) rfl (fun ls hl => ?_)
        refine lv_goto (tgt := 24) hx hb dX3_span_59 (by decide) ?_
        refine lv_iload hx hb dX3_span_24 (lv_at hl 0 rfl) ?_
        refine q_con hx hb dX3_span_26 ?_
        refine q_cge (tgt := 62) hx hb dX3_span_27 (by decide) (by omega) (by omega) (fun c14 => ?_) (fun c14 => ?_)
        · refine lv_aload_n hx hb dX3_span_62 rfl (lv_at hl 3 rfl) ?_
          refine lv_iload_n hx hb dX3_span_63 rfl (lv_at hl 4 rfl) ?_
          obtain ⟨r15, hr15⟩ := bex (a < 0 ∨ 2 < a)
          refine c_P (As := [.int (iI a)]) (rest := [.ref (w 0)]) fx hl (pm_X3_isNoSpan l a r15 hr15 (by omega)) dX3_span_64 k1207 k1208 k6 k1209 hd_X3_isNoSpan rfl ⟨by decide, by decide⟩ (Nat.le_of_ble_eq_true rfl) ⟨by dsimp only; omega, by dsimp only; omega⟩ ?_
          have br15 : r15 = 0 ∨ r15 = 1 := hr15.elim (fun h => Or.inr h.1) (fun h => Or.inl h.1)
          refine lv_iload hx hb dX3_span_67 (lv_at hl 1 rfl) ?_
          refine q_con hx hb dX3_span_69 ?_
          obtain ⟨t16, f17, hq1t16, hq2t16⟩ := fails_ex r15 z13 0 (by omega) (by omega) (by omega)
          have hmw : MWR θ S0 w H4 r q dt sv th dn rf kn := ⟨hzH4, hu, hmH4, hd, hsv⟩
          refine c_M (w := w) (As := [.int (iI r15), .int (iI z13), .int (iI 0)]) (rest := []) (b := w 0) (C := RX3) fx hl (mw_fails θ l S0 _ w _ _ _ _ _ _ _ _ hmw r15 z13 0 t16 f17 (by omega) hq1t16 hq2t16) (ob_recv hK hmH4.1 rfl) dX3_span_70 k1119 k1121 ks10 k6 k1122 hd_X3_fails rfl ⟨by decide, by decide⟩ (Nat.le_of_ble_eq_true rfl) ⟨by dsimp only; omega, by dsimp only; omega⟩ hS (fun x hx => hx ▸ Or.inl (Or.inl rfl)) (fun H18 locs hmH18 hszH18 hk0H18 hS => ?_)
          have hkH18 : ∀ x : Nat, x < (H4).size → ¬ x = w 0 → H18[x]? = (H4)[x]? := hk0H18
          have haH4_H18 := haH4.kept (hkH18 _ haH4.lt (by omega))
          have hzH18 := hz0.at hAB hS
          have hltH18 := hmH18.lt
          refine q_ieq (tgt := 78) hx hb dX3_span_73 (by decide) (by omega) (fun c19 => ?_) (fun c19 => ?_)
          · exact (show False by omega).elim
          · refine q_con hx hb dX3_span_76 ?_
            obtain rfl : t16 = 1 := by omega
            have hmw : MWR θ S0 w H18 r q dt sv 1 dn rf kn := ⟨hzH18, hu, hmH18, hd, hsv⟩
            exact e_i hx hb hr hlk hS dX3_span_77 (Nat.le_of_ble_eq_true rfl) (Nat.le_of_ble_eq_true rfl) ⟨ex_i (by omega), r, q, by first | exact hmw | (subst_vars; exact hmw) | (simp only [inI_self, inI_1, inI_31] at hmw; subst_vars; exact hmw), by first | exact nw_rf | exact nw_up (by omega) | exact nw_up2 (by omega), by first | exact nw_rf | exact nw_up (by omega) | exact nw_up2 (by omega)⟩
        · exact (show False by omega).elim

set_option maxHeartbeats 4000000 in
set_option maxRecDepth 100000 in
theorem mno2_span (θ : TH) (l : Launch) (S0 : State) (H : Heap) (w : Nat → Nat) (r q : Nat → Nat) (dt : Nat → Int) (sv : Nat → Nat → Int) (th dn rf kn : Int) (hw : MWR θ S0 w H r q dt sv th dn rf kn) (a x y z : Int) (h_0 : -2147483648 ≤ a ∧ a < 2147483648) (h_1 : -2147483648 ≤ x ∧ x < 2147483648) (h_2 : -2147483648 ≤ y ∧ y < 2147483648) (h_3 : -2147483648 ≤ z ∧ z < 2147483648) (h_4 : 0 ≤ a ∧ a < 3) (h_5 : ¬ (-20000 ≤ x ∧ x ≤ 20000)) : CT l yX3_span cX3_span 8 (some .int) 2 42 1 3 [.ref (w 0), .int (iI a), .int (iI x), .int (iI y), .int (iI z)] S0 H (fun v9 H1 => v9 = some (.int (iI 0)) ∧ ∃ r1 q1 : Nat → Nat, MWR θ S0 w H1 r1 q1 dt sv 2 dn rf kn ∧ NW 6 H.size r r1 ∧ NW 3 H.size q q1) (fun _ _ => False) (WA w H.size) := by
  refine ct_of (by decide +kernel) (Nat.le_of_ble_eq_true rfl) ?_
  intro pg en s mi args below meth co ls fx hs hr hlk hxt hin hl
  subst hs
  obtain ⟨hx, hb, hml, hown, hts⟩ := id fx.1
  have hS : va_S (WA w s.heap.size) s.heap s.heap [] := va_S.rf
  obtain ⟨hz, hu, hm, hd, hsv⟩ := id hw
  have hAB : ∀ x : Nat, (WA w s.heap.size) x → θ.2.2.2 ≤ x := wa_b hu hz.2.1
  have hz0 := hz
  have hK := sz_K fx.2 hz
  have hlt0 := hm.lt
  have hu1 := hu.1
  have hAn : ∀ x : Nat, s.heap.size ≤ x → (WA w s.heap.size) x := fun _ h => Or.inr h
  refine q_con hx hb dX3_span_0 ?_
  refine r_newI (θ := θ) hx hb hts hK k71 hS (by omega) (by dsimp only; omega) (by dsimp only; omega) dX3_span_1 (fun H1 haH1 hszH1 hkH1 hS => ?_)
  have hzH1 := hz0.at hAB hS
  have hkkH1 := hkH1
  have hmH1 := hm.kept hkH1
  have hltmH1 := hm.lt
  refine lv_dup hx hb dX3_span_3 rfl ?_
  refine q_con hx hb dX3_span_4 ?_
  refine lv_iload_n hx hb dX3_span_5 rfl (lv_at hl 2 rfl) ?_
  refine r_iast (θ := θ) (a := s.heap.size) hx hb hK haH1 (hAn _ (by omega)) hS (i := 0) (x := x) (by omega) (by decide) dX3_span_6 (fun H2 locs haH2 hszH2 hkH2 hS => ?_)
  have hzH2 := hz0.at hAB hS
  have hkkH2 : ∀ x : Nat, x < (s.heap).size → H2[x]? = (s.heap)[x]? := fun x hx => (hkH2 x (by omega)).trans (hkkH1 x hx)
  have hmH2 := hm.kept hkkH2
  refine lv_dup hx hb dX3_span_7 rfl ?_
  refine q_con hx hb dX3_span_8 ?_
  refine lv_iload_n hx hb dX3_span_9 rfl (lv_at hl 3 rfl) ?_
  refine r_iast (θ := θ) (a := s.heap.size) hx hb hK haH2 (hAn _ (by omega)) hS (i := 1) (x := y) (by omega) (by decide) dX3_span_10 (fun H3 locs haH3 hszH3 hkH3 hS => ?_)
  have hzH3 := hz0.at hAB hS
  have hkkH3 : ∀ x : Nat, x < (s.heap).size → H3[x]? = (s.heap)[x]? := fun x hx => (hkH3 x (by omega)).trans (hkkH2 x hx)
  have hmH3 := hm.kept hkkH3
  refine lv_dup hx hb dX3_span_11 rfl ?_
  refine q_con hx hb dX3_span_12 ?_
  refine lv_iload hx hb dX3_span_13 (lv_at hl 4 rfl) ?_
  refine r_iast (θ := θ) (a := s.heap.size) hx hb hK haH3 (hAn _ (by omega)) hS (i := 2) (x := z) (by omega) (by decide) dX3_span_15 (fun H4 locs haH4 hszH4 hkH4 hS => ?_)
  have hzH4 := hz0.at hAB hS
  have hkkH4 : ∀ x : Nat, x < (s.heap).size → H4[x]? = (s.heap)[x]? := fun x hx => (hkH4 x (by omega)).trans (hkkH3 x hx)
  have hmH4 := hm.kept hkkH4
  refine lv_astore (lv' := [(5, .ref s.heap.size), (0, .ref (w 0)), (1, .int (iI a)), (2, .int (iI x)), (3, .int (iI y)), (4, .int (iI z))]) hx hb dX3_span_16 hl (by decide) rfl (fun ls hl => ?_)
  refine q_con hx hb dX3_span_18 ?_
  refine lv_istore (lv' := [(6, .int (iI 0)), (5, .ref s.heap.size), (0, .ref (w 0)), (1, .int (iI a)), (2, .int (iI x)), (3, .int (iI y)), (4, .int (iI z))]) hx hb dX3_span_19 hl (by decide) rfl (fun ls hl => ?_)
  refine q_con hx hb dX3_span_21 ?_
  refine lv_istore (lv' := [(7, .int (iI 0)), (6, .int (iI 0)), (5, .ref s.heap.size), (0, .ref (w 0)), (1, .int (iI a)), (2, .int (iI x)), (3, .int (iI y)), (4, .int (iI z))]) hx hb dX3_span_22 hl (by decide) rfl (fun ls hl => ?_)
  refine lv_iload hx hb dX3_span_24 (lv_at hl 0 rfl) ?_
  refine q_con hx hb dX3_span_26 ?_
  refine q_cge (tgt := 62) hx hb dX3_span_27 (by decide) (by omega) (by omega) (fun c5 => ?_) (fun c5 => ?_)
  · exact (show False by omega).elim
  · refine lv_iload hx hb dX3_span_30 (lv_at hl 1 rfl) ?_
    refine lv_aload hx hb dX3_span_32 (lv_at hl 2 rfl) ?_
    refine lv_iload hx hb dX3_span_34 (lv_at hl 0 rfl) ?_
    refine r_iald (θ := θ) hx hb hK haH4 (i := 0) (by omega) (by decide) dX3_span_36 ?_
    refine q_as (x) rfl ?_
    refine r_gets (θ := θ) hx hb fx.2 hz0.2.2.2.1.1 hAB hS hown (hts _ k1226) dX3_span_37 ?_
    refine lv_iload hx hb dX3_span_40 (lv_at hl 0 rfl) ?_
    refine r_ildz hx hb fx.2 hzH4.2.2.2.1.2.1 (i := 0) (by omega) (by decide) dX3_span_42 ?_
    refine q_as (20000) rfl ?_
    refine q_neg hx hb dX3_span_43 ?_
    refine r_gets (θ := θ) hx hb fx.2 hz0.2.2.2.1.1 hAB hS hown (hts _ k1226) dX3_span_44 ?_
    refine lv_iload hx hb dX3_span_47 (lv_at hl 0 rfl) ?_
    refine r_ildz hx hb fx.2 hzH4.2.2.2.1.2.1 (i := 0) (by omega) (by decide) dX3_span_49 ?_
    refine q_as (20000) rfl ?_
    obtain ⟨r6, hr6⟩ := bex (x < (-20000) ∨ 20000 < x)
    refine c_P (As := [.int (iI x), .int (iI (-20000)), .int (iI 20000)]) (rest := [.int (iI 0)]) fx hl (pm_X3_isOut l x (-20000) 20000 r6 hr6 (by omega) (by omega) (by omega)) dX3_span_50 k1116 k1117 k6 k1118 hd_X3_isOut rfl ⟨by decide, by decide⟩ (Nat.le_of_ble_eq_true rfl) ⟨by dsimp only; omega, by dsimp only; omega⟩ ?_
    have br6 : r6 = 0 ∨ r6 = 1 := hr6.elim (fun h => Or.inr h.1) (fun h => Or.inl h.1)
    refine q_ior hx hb dX3_span_53 (by decide) br6 (fun z7 bz7 hz7 => ?_)
    refine lv_istore (lv' := [(6, .int (iI z7)), (7, .int (iI 0)), (5, .ref s.heap.size), (0, .ref (w 0)), (1, .int (iI a)), (2, .int (iI x)), (3, .int (iI y)), (4, .int (iI z))]) hx hb dX3_span_54 hl (by decide) rfl (fun ls hl => ?_)
    refine lv_iinc (v := iI (1)) (lv' := [(7, .int (iI 1)), (6, .int (iI z7)), (5, .ref s.heap.size), (0, .ref (w 0)), (1, .int (iI a)), (2, .int (iI x)), (3, .int (iI y)), (4, .int (iI z))]) hx hb dX3_span_56 hl (k := 1) rfl rfl (by decide) rfl (fun ls hl => ?_)
    refine lv_goto (tgt := 24) hx hb dX3_span_59 (by decide) ?_
    refine lv_iload hx hb dX3_span_24 (lv_at hl 0 rfl) ?_
    refine q_con hx hb dX3_span_26 ?_
    refine q_cge (tgt := 62) hx hb dX3_span_27 (by decide) (by omega) (by omega) (fun c8 => ?_) (fun c8 => ?_)
    · exact (show False by omega).elim
    · refine lv_iload hx hb dX3_span_30 (lv_at hl 1 rfl) ?_
      refine lv_aload hx hb dX3_span_32 (lv_at hl 2 rfl) ?_
      refine lv_iload hx hb dX3_span_34 (lv_at hl 0 rfl) ?_
      refine r_iald (θ := θ) hx hb hK haH4 (i := 1) (by omega) (by decide) dX3_span_36 ?_
      refine q_as (y) rfl ?_
      refine r_gets (θ := θ) hx hb fx.2 hz0.2.2.2.1.1 hAB hS hown (hts _ k1226) dX3_span_37 ?_
      refine lv_iload hx hb dX3_span_40 (lv_at hl 0 rfl) ?_
      refine r_ildz hx hb fx.2 hzH4.2.2.2.1.2.1 (i := 1) (by omega) (by decide) dX3_span_42 ?_
      refine q_as (240000) rfl ?_
      refine q_neg hx hb dX3_span_43 ?_
      refine r_gets (θ := θ) hx hb fx.2 hz0.2.2.2.1.1 hAB hS hown (hts _ k1226) dX3_span_44 ?_
      refine lv_iload hx hb dX3_span_47 (lv_at hl 0 rfl) ?_
      refine r_ildz hx hb fx.2 hzH4.2.2.2.1.2.1 (i := 1) (by omega) (by decide) dX3_span_49 ?_
      refine q_as (240000) rfl ?_
      obtain ⟨r9, hr9⟩ := bex (y < (-240000) ∨ 240000 < y)
      refine c_P (As := [.int (iI y), .int (iI (-240000)), .int (iI 240000)]) (rest := [.int (iI z7)]) fx hl (pm_X3_isOut l y (-240000) 240000 r9 hr9 (by omega) (by omega) (by omega)) dX3_span_50 k1116 k1117 k6 k1118 hd_X3_isOut rfl ⟨by decide, by decide⟩ (Nat.le_of_ble_eq_true rfl) ⟨by dsimp only; omega, by dsimp only; omega⟩ ?_
      have br9 : r9 = 0 ∨ r9 = 1 := hr9.elim (fun h => Or.inr h.1) (fun h => Or.inl h.1)
      refine q_ior hx hb dX3_span_53 bz7 br9 (fun z10 bz10 hz10 => ?_)
      refine lv_istore (lv' := [(6, .int (iI z10)), (7, .int (iI 1)), (5, .ref s.heap.size), (0, .ref (w 0)), (1, .int (iI a)), (2, .int (iI x)), (3, .int (iI y)), (4, .int (iI z))]) hx hb dX3_span_54 hl (by decide) rfl (fun ls hl => ?_)
      refine lv_iinc (v := iI (2)) (lv' := [(7, .int (iI 2)), (6, .int (iI z10)), (5, .ref s.heap.size), (0, .ref (w 0)), (1, .int (iI a)), (2, .int (iI x)), (3, .int (iI y)), (4, .int (iI z))]) hx hb dX3_span_56 hl (k := 1) rfl rfl (by decide) rfl (fun ls hl => ?_)
      refine lv_goto (tgt := 24) hx hb dX3_span_59 (by decide) ?_
      refine lv_iload hx hb dX3_span_24 (lv_at hl 0 rfl) ?_
      refine q_con hx hb dX3_span_26 ?_
      refine q_cge (tgt := 62) hx hb dX3_span_27 (by decide) (by omega) (by omega) (fun c11 => ?_) (fun c11 => ?_)
      · exact (show False by omega).elim
      · refine lv_iload hx hb dX3_span_30 (lv_at hl 1 rfl) ?_
        refine lv_aload hx hb dX3_span_32 (lv_at hl 2 rfl) ?_
        refine lv_iload hx hb dX3_span_34 (lv_at hl 0 rfl) ?_
        refine r_iald (θ := θ) hx hb hK haH4 (i := 2) (by omega) (by decide) dX3_span_36 ?_
        refine q_as (z) rfl ?_
        refine r_gets (θ := θ) hx hb fx.2 hz0.2.2.2.1.1 hAB hS hown (hts _ k1226) dX3_span_37 ?_
        refine lv_iload hx hb dX3_span_40 (lv_at hl 0 rfl) ?_
        refine r_ildz hx hb fx.2 hzH4.2.2.2.1.2.1 (i := 2) (by omega) (by decide) dX3_span_42 ?_
        refine q_as (100000) rfl ?_
        refine q_neg hx hb dX3_span_43 ?_
        refine r_gets (θ := θ) hx hb fx.2 hz0.2.2.2.1.1 hAB hS hown (hts _ k1226) dX3_span_44 ?_
        refine lv_iload hx hb dX3_span_47 (lv_at hl 0 rfl) ?_
        refine r_ildz hx hb fx.2 hzH4.2.2.2.1.2.1 (i := 2) (by omega) (by decide) dX3_span_49 ?_
        refine q_as (100000) rfl ?_
        obtain ⟨r12, hr12⟩ := bex (z < (-100000) ∨ 100000 < z)
        refine c_P (As := [.int (iI z), .int (iI (-100000)), .int (iI 100000)]) (rest := [.int (iI z10)]) fx hl (pm_X3_isOut l z (-100000) 100000 r12 hr12 (by omega) (by omega) (by omega)) dX3_span_50 k1116 k1117 k6 k1118 hd_X3_isOut rfl ⟨by decide, by decide⟩ (Nat.le_of_ble_eq_true rfl) ⟨by dsimp only; omega, by dsimp only; omega⟩ ?_
        have br12 : r12 = 0 ∨ r12 = 1 := hr12.elim (fun h => Or.inr h.1) (fun h => Or.inl h.1)
        refine q_ior hx hb dX3_span_53 bz10 br12 (fun z13 bz13 hz13 => ?_)
        refine lv_istore (lv' := [(6, .int (iI z13)), (7, .int (iI 2)), (5, .ref s.heap.size), (0, .ref (w 0)), (1, .int (iI a)), (2, .int (iI x)), (3, .int (iI y)), (4, .int (iI z))]) hx hb dX3_span_54 hl (by decide) rfl (fun ls hl => ?_)
        refine lv_iinc (v := iI (3)) (lv' := [(7, .int (iI 3)), (6, .int (iI z13)), (5, .ref s.heap.size), (0, .ref (w 0)), (1, .int (iI a)), (2, .int (iI x)), (3, .int (iI y)), (4, .int (iI z))]) hx hb dX3_span_56 hl (k := 1) rfl rfl (by decide) rfl (fun ls hl => ?_)
        refine lv_goto (tgt := 24) hx hb dX3_span_59 (by decide) ?_
        refine lv_iload hx hb dX3_span_24 (lv_at hl 0 rfl) ?_
        refine q_con hx hb dX3_span_26 ?_
        refine q_cge (tgt := 62) hx hb dX3_span_27 (by decide) (by omega) (by omega) (fun c14 => ?_) (fun c14 => ?_)
        · refine lv_aload_n hx hb dX3_span_62 rfl (lv_at hl 3 rfl) ?_
          refine lv_iload_n hx hb dX3_span_63 rfl (lv_at hl 4 rfl) ?_
          obtain ⟨r15, hr15⟩ := bex (a < 0 ∨ 2 < a)
          refine c_P (As := [.int (iI a)]) (rest := [.ref (w 0)]) fx hl (pm_X3_isNoSpan l a r15 hr15 (by omega)) dX3_span_64 k1207 k1208 k6 k1209 hd_X3_isNoSpan rfl ⟨by decide, by decide⟩ (Nat.le_of_ble_eq_true rfl) ⟨by dsimp only; omega, by dsimp only; omega⟩ ?_
          have br15 : r15 = 0 ∨ r15 = 1 := hr15.elim (fun h => Or.inr h.1) (fun h => Or.inl h.1)
          refine lv_iload hx hb dX3_span_67 (lv_at hl 1 rfl) ?_
          refine q_con hx hb dX3_span_69 ?_
          obtain ⟨t16, f17, hq1t16, hq2t16⟩ := fails_ex r15 z13 0 (by omega) (by omega) (by omega)
          have hmw : MWR θ S0 w H4 r q dt sv th dn rf kn := ⟨hzH4, hu, hmH4, hd, hsv⟩
          refine c_M (w := w) (As := [.int (iI r15), .int (iI z13), .int (iI 0)]) (rest := []) (b := w 0) (C := RX3) fx hl (mw_fails θ l S0 _ w _ _ _ _ _ _ _ _ hmw r15 z13 0 t16 f17 (by omega) hq1t16 hq2t16) (ob_recv hK hmH4.1 rfl) dX3_span_70 k1119 k1121 ks10 k6 k1122 hd_X3_fails rfl ⟨by decide, by decide⟩ (Nat.le_of_ble_eq_true rfl) ⟨by dsimp only; omega, by dsimp only; omega⟩ hS (fun x hx => hx ▸ Or.inl (Or.inl rfl)) (fun H18 locs hmH18 hszH18 hk0H18 hS => ?_)
          have hkH18 : ∀ x : Nat, x < (H4).size → ¬ x = w 0 → H18[x]? = (H4)[x]? := hk0H18
          have haH4_H18 := haH4.kept (hkH18 _ haH4.lt (by omega))
          have hzH18 := hz0.at hAB hS
          have hltH18 := hmH18.lt
          refine q_ieq (tgt := 78) hx hb dX3_span_73 (by decide) (by omega) (fun c19 => ?_) (fun c19 => ?_)
          · exact (show False by omega).elim
          · refine q_con hx hb dX3_span_76 ?_
            obtain rfl : t16 = 2 := by omega
            have hmw : MWR θ S0 w H18 r q dt sv 2 dn rf kn := ⟨hzH18, hu, hmH18, hd, hsv⟩
            exact e_i hx hb hr hlk hS dX3_span_77 (Nat.le_of_ble_eq_true rfl) (Nat.le_of_ble_eq_true rfl) ⟨ex_i (by omega), r, q, by first | exact hmw | (subst_vars; exact hmw) | (simp only [inI_self, inI_1, inI_31] at hmw; subst_vars; exact hmw), by first | exact nw_rf | exact nw_up (by omega) | exact nw_up2 (by omega), by first | exact nw_rf | exact nw_up (by omega) | exact nw_up2 (by omega)⟩
        · exact (show False by omega).elim

set_option maxHeartbeats 4000000 in
set_option maxRecDepth 100000 in
theorem mno3_span (θ : TH) (l : Launch) (S0 : State) (H : Heap) (w : Nat → Nat) (r q : Nat → Nat) (dt : Nat → Int) (sv : Nat → Nat → Int) (th dn rf kn : Int) (hw : MWR θ S0 w H r q dt sv th dn rf kn) (a x y z : Int) (h_0 : -2147483648 ≤ a ∧ a < 2147483648) (h_1 : -2147483648 ≤ x ∧ x < 2147483648) (h_2 : -2147483648 ≤ y ∧ y < 2147483648) (h_3 : -2147483648 ≤ z ∧ z < 2147483648) (h_4 : 0 ≤ a ∧ a < 3) (h_5 : -20000 ≤ x ∧ x ≤ 20000) (h_6 : ¬ (-240000 ≤ y ∧ y ≤ 240000)) : CT l yX3_span cX3_span 8 (some .int) 2 42 1 3 [.ref (w 0), .int (iI a), .int (iI x), .int (iI y), .int (iI z)] S0 H (fun v9 H1 => v9 = some (.int (iI 0)) ∧ ∃ r1 q1 : Nat → Nat, MWR θ S0 w H1 r1 q1 dt sv 2 dn rf kn ∧ NW 6 H.size r r1 ∧ NW 3 H.size q q1) (fun _ _ => False) (WA w H.size) := by
  refine ct_of (by decide +kernel) (Nat.le_of_ble_eq_true rfl) ?_
  intro pg en s mi args below meth co ls fx hs hr hlk hxt hin hl
  subst hs
  obtain ⟨hx, hb, hml, hown, hts⟩ := id fx.1
  have hS : va_S (WA w s.heap.size) s.heap s.heap [] := va_S.rf
  obtain ⟨hz, hu, hm, hd, hsv⟩ := id hw
  have hAB : ∀ x : Nat, (WA w s.heap.size) x → θ.2.2.2 ≤ x := wa_b hu hz.2.1
  have hz0 := hz
  have hK := sz_K fx.2 hz
  have hlt0 := hm.lt
  have hu1 := hu.1
  have hAn : ∀ x : Nat, s.heap.size ≤ x → (WA w s.heap.size) x := fun _ h => Or.inr h
  refine q_con hx hb dX3_span_0 ?_
  refine r_newI (θ := θ) hx hb hts hK k71 hS (by omega) (by dsimp only; omega) (by dsimp only; omega) dX3_span_1 (fun H1 haH1 hszH1 hkH1 hS => ?_)
  have hzH1 := hz0.at hAB hS
  have hkkH1 := hkH1
  have hmH1 := hm.kept hkH1
  have hltmH1 := hm.lt
  refine lv_dup hx hb dX3_span_3 rfl ?_
  refine q_con hx hb dX3_span_4 ?_
  refine lv_iload_n hx hb dX3_span_5 rfl (lv_at hl 2 rfl) ?_
  refine r_iast (θ := θ) (a := s.heap.size) hx hb hK haH1 (hAn _ (by omega)) hS (i := 0) (x := x) (by omega) (by decide) dX3_span_6 (fun H2 locs haH2 hszH2 hkH2 hS => ?_)
  have hzH2 := hz0.at hAB hS
  have hkkH2 : ∀ x : Nat, x < (s.heap).size → H2[x]? = (s.heap)[x]? := fun x hx => (hkH2 x (by omega)).trans (hkkH1 x hx)
  have hmH2 := hm.kept hkkH2
  refine lv_dup hx hb dX3_span_7 rfl ?_
  refine q_con hx hb dX3_span_8 ?_
  refine lv_iload_n hx hb dX3_span_9 rfl (lv_at hl 3 rfl) ?_
  refine r_iast (θ := θ) (a := s.heap.size) hx hb hK haH2 (hAn _ (by omega)) hS (i := 1) (x := y) (by omega) (by decide) dX3_span_10 (fun H3 locs haH3 hszH3 hkH3 hS => ?_)
  have hzH3 := hz0.at hAB hS
  have hkkH3 : ∀ x : Nat, x < (s.heap).size → H3[x]? = (s.heap)[x]? := fun x hx => (hkH3 x (by omega)).trans (hkkH2 x hx)
  have hmH3 := hm.kept hkkH3
  refine lv_dup hx hb dX3_span_11 rfl ?_
  refine q_con hx hb dX3_span_12 ?_
  refine lv_iload hx hb dX3_span_13 (lv_at hl 4 rfl) ?_
  refine r_iast (θ := θ) (a := s.heap.size) hx hb hK haH3 (hAn _ (by omega)) hS (i := 2) (x := z) (by omega) (by decide) dX3_span_15 (fun H4 locs haH4 hszH4 hkH4 hS => ?_)
  have hzH4 := hz0.at hAB hS
  have hkkH4 : ∀ x : Nat, x < (s.heap).size → H4[x]? = (s.heap)[x]? := fun x hx => (hkH4 x (by omega)).trans (hkkH3 x hx)
  have hmH4 := hm.kept hkkH4
  refine lv_astore (lv' := [(5, .ref s.heap.size), (0, .ref (w 0)), (1, .int (iI a)), (2, .int (iI x)), (3, .int (iI y)), (4, .int (iI z))]) hx hb dX3_span_16 hl (by decide) rfl (fun ls hl => ?_)
  refine q_con hx hb dX3_span_18 ?_
  refine lv_istore (lv' := [(6, .int (iI 0)), (5, .ref s.heap.size), (0, .ref (w 0)), (1, .int (iI a)), (2, .int (iI x)), (3, .int (iI y)), (4, .int (iI z))]) hx hb dX3_span_19 hl (by decide) rfl (fun ls hl => ?_)
  refine q_con hx hb dX3_span_21 ?_
  refine lv_istore (lv' := [(7, .int (iI 0)), (6, .int (iI 0)), (5, .ref s.heap.size), (0, .ref (w 0)), (1, .int (iI a)), (2, .int (iI x)), (3, .int (iI y)), (4, .int (iI z))]) hx hb dX3_span_22 hl (by decide) rfl (fun ls hl => ?_)
  refine lv_iload hx hb dX3_span_24 (lv_at hl 0 rfl) ?_
  refine q_con hx hb dX3_span_26 ?_
  refine q_cge (tgt := 62) hx hb dX3_span_27 (by decide) (by omega) (by omega) (fun c5 => ?_) (fun c5 => ?_)
  · exact (show False by omega).elim
  · refine lv_iload hx hb dX3_span_30 (lv_at hl 1 rfl) ?_
    refine lv_aload hx hb dX3_span_32 (lv_at hl 2 rfl) ?_
    refine lv_iload hx hb dX3_span_34 (lv_at hl 0 rfl) ?_
    refine r_iald (θ := θ) hx hb hK haH4 (i := 0) (by omega) (by decide) dX3_span_36 ?_
    refine q_as (x) rfl ?_
    refine r_gets (θ := θ) hx hb fx.2 hz0.2.2.2.1.1 hAB hS hown (hts _ k1226) dX3_span_37 ?_
    refine lv_iload hx hb dX3_span_40 (lv_at hl 0 rfl) ?_
    refine r_ildz hx hb fx.2 hzH4.2.2.2.1.2.1 (i := 0) (by omega) (by decide) dX3_span_42 ?_
    refine q_as (20000) rfl ?_
    refine q_neg hx hb dX3_span_43 ?_
    refine r_gets (θ := θ) hx hb fx.2 hz0.2.2.2.1.1 hAB hS hown (hts _ k1226) dX3_span_44 ?_
    refine lv_iload hx hb dX3_span_47 (lv_at hl 0 rfl) ?_
    refine r_ildz hx hb fx.2 hzH4.2.2.2.1.2.1 (i := 0) (by omega) (by decide) dX3_span_49 ?_
    refine q_as (20000) rfl ?_
    obtain ⟨r6, hr6⟩ := bex (x < (-20000) ∨ 20000 < x)
    refine c_P (As := [.int (iI x), .int (iI (-20000)), .int (iI 20000)]) (rest := [.int (iI 0)]) fx hl (pm_X3_isOut l x (-20000) 20000 r6 hr6 (by omega) (by omega) (by omega)) dX3_span_50 k1116 k1117 k6 k1118 hd_X3_isOut rfl ⟨by decide, by decide⟩ (Nat.le_of_ble_eq_true rfl) ⟨by dsimp only; omega, by dsimp only; omega⟩ ?_
    have br6 : r6 = 0 ∨ r6 = 1 := hr6.elim (fun h => Or.inr h.1) (fun h => Or.inl h.1)
    refine q_ior hx hb dX3_span_53 (by decide) br6 (fun z7 bz7 hz7 => ?_)
    refine lv_istore (lv' := [(6, .int (iI z7)), (7, .int (iI 0)), (5, .ref s.heap.size), (0, .ref (w 0)), (1, .int (iI a)), (2, .int (iI x)), (3, .int (iI y)), (4, .int (iI z))]) hx hb dX3_span_54 hl (by decide) rfl (fun ls hl => ?_)
    refine lv_iinc (v := iI (1)) (lv' := [(7, .int (iI 1)), (6, .int (iI z7)), (5, .ref s.heap.size), (0, .ref (w 0)), (1, .int (iI a)), (2, .int (iI x)), (3, .int (iI y)), (4, .int (iI z))]) hx hb dX3_span_56 hl (k := 1) rfl rfl (by decide) rfl (fun ls hl => ?_)
    refine lv_goto (tgt := 24) hx hb dX3_span_59 (by decide) ?_
    refine lv_iload hx hb dX3_span_24 (lv_at hl 0 rfl) ?_
    refine q_con hx hb dX3_span_26 ?_
    refine q_cge (tgt := 62) hx hb dX3_span_27 (by decide) (by omega) (by omega) (fun c8 => ?_) (fun c8 => ?_)
    · exact (show False by omega).elim
    · refine lv_iload hx hb dX3_span_30 (lv_at hl 1 rfl) ?_
      refine lv_aload hx hb dX3_span_32 (lv_at hl 2 rfl) ?_
      refine lv_iload hx hb dX3_span_34 (lv_at hl 0 rfl) ?_
      refine r_iald (θ := θ) hx hb hK haH4 (i := 1) (by omega) (by decide) dX3_span_36 ?_
      refine q_as (y) rfl ?_
      refine r_gets (θ := θ) hx hb fx.2 hz0.2.2.2.1.1 hAB hS hown (hts _ k1226) dX3_span_37 ?_
      refine lv_iload hx hb dX3_span_40 (lv_at hl 0 rfl) ?_
      refine r_ildz hx hb fx.2 hzH4.2.2.2.1.2.1 (i := 1) (by omega) (by decide) dX3_span_42 ?_
      refine q_as (240000) rfl ?_
      refine q_neg hx hb dX3_span_43 ?_
      refine r_gets (θ := θ) hx hb fx.2 hz0.2.2.2.1.1 hAB hS hown (hts _ k1226) dX3_span_44 ?_
      refine lv_iload hx hb dX3_span_47 (lv_at hl 0 rfl) ?_
      refine r_ildz hx hb fx.2 hzH4.2.2.2.1.2.1 (i := 1) (by omega) (by decide) dX3_span_49 ?_
      refine q_as (240000) rfl ?_
      obtain ⟨r9, hr9⟩ := bex (y < (-240000) ∨ 240000 < y)
      refine c_P (As := [.int (iI y), .int (iI (-240000)), .int (iI 240000)]) (rest := [.int (iI z7)]) fx hl (pm_X3_isOut l y (-240000) 240000 r9 hr9 (by omega) (by omega) (by omega)) dX3_span_50 k1116 k1117 k6 k1118 hd_X3_isOut rfl ⟨by decide, by decide⟩ (Nat.le_of_ble_eq_true rfl) ⟨by dsimp only; omega, by dsimp only; omega⟩ ?_
      have br9 : r9 = 0 ∨ r9 = 1 := hr9.elim (fun h => Or.inr h.1) (fun h => Or.inl h.1)
      refine q_ior hx hb dX3_span_53 bz7 br9 (fun z10 bz10 hz10 => ?_)
      refine lv_istore (lv' := [(6, .int (iI z10)), (7, .int (iI 1)), (5, .ref s.heap.size), (0, .ref (w 0)), (1, .int (iI a)), (2, .int (iI x)), (3, .int (iI y)), (4, .int (iI z))]) hx hb dX3_span_54 hl (by decide) rfl (fun ls hl => ?_)
      refine lv_iinc (v := iI (2)) (lv' := [(7, .int (iI 2)), (6, .int (iI z10)), (5, .ref s.heap.size), (0, .ref (w 0)), (1, .int (iI a)), (2, .int (iI x)), (3, .int (iI y)), (4, .int (iI z))]) hx hb dX3_span_56 hl (k := 1) rfl rfl (by decide) rfl (fun ls hl => ?_)
      refine lv_goto (tgt := 24) hx hb dX3_span_59 (by decide) ?_
      refine lv_iload hx hb dX3_span_24 (lv_at hl 0 rfl) ?_
      refine q_con hx hb dX3_span_26 ?_
      refine q_cge (tgt := 62) hx hb dX3_span_27 (by decide) (by omega) (by omega) (fun c11 => ?_) (fun c11 => ?_)
      · exact (show False by omega).elim
      · refine lv_iload hx hb dX3_span_30 (lv_at hl 1 rfl) ?_
        refine lv_aload hx hb dX3_span_32 (lv_at hl 2 rfl) ?_
        refine lv_iload hx hb dX3_span_34 (lv_at hl 0 rfl) ?_
        refine r_iald (θ := θ) hx hb hK haH4 (i := 2) (by omega) (by decide) dX3_span_36 ?_
        refine q_as (z) rfl ?_
        refine r_gets (θ := θ) hx hb fx.2 hz0.2.2.2.1.1 hAB hS hown (hts _ k1226) dX3_span_37 ?_
        refine lv_iload hx hb dX3_span_40 (lv_at hl 0 rfl) ?_
        refine r_ildz hx hb fx.2 hzH4.2.2.2.1.2.1 (i := 2) (by omega) (by decide) dX3_span_42 ?_
        refine q_as (100000) rfl ?_
        refine q_neg hx hb dX3_span_43 ?_
        refine r_gets (θ := θ) hx hb fx.2 hz0.2.2.2.1.1 hAB hS hown (hts _ k1226) dX3_span_44 ?_
        refine lv_iload hx hb dX3_span_47 (lv_at hl 0 rfl) ?_
        refine r_ildz hx hb fx.2 hzH4.2.2.2.1.2.1 (i := 2) (by omega) (by decide) dX3_span_49 ?_
        refine q_as (100000) rfl ?_
        obtain ⟨r12, hr12⟩ := bex (z < (-100000) ∨ 100000 < z)
        refine c_P (As := [.int (iI z), .int (iI (-100000)), .int (iI 100000)]) (rest := [.int (iI z10)]) fx hl (pm_X3_isOut l z (-100000) 100000 r12 hr12 (by omega) (by omega) (by omega)) dX3_span_50 k1116 k1117 k6 k1118 hd_X3_isOut rfl ⟨by decide, by decide⟩ (Nat.le_of_ble_eq_true rfl) ⟨by dsimp only; omega, by dsimp only; omega⟩ ?_
        have br12 : r12 = 0 ∨ r12 = 1 := hr12.elim (fun h => Or.inr h.1) (fun h => Or.inl h.1)
        refine q_ior hx hb dX3_span_53 bz10 br12 (fun z13 bz13 hz13 => ?_)
        refine lv_istore (lv' := [(6, .int (iI z13)), (7, .int (iI 2)), (5, .ref s.heap.size), (0, .ref (w 0)), (1, .int (iI a)), (2, .int (iI x)), (3, .int (iI y)), (4, .int (iI z))]) hx hb dX3_span_54 hl (by decide) rfl (fun ls hl => ?_)
        refine lv_iinc (v := iI (3)) (lv' := [(7, .int (iI 3)), (6, .int (iI z13)), (5, .ref s.heap.size), (0, .ref (w 0)), (1, .int (iI a)), (2, .int (iI x)), (3, .int (iI y)), (4, .int (iI z))]) hx hb dX3_span_56 hl (k := 1) rfl rfl (by decide) rfl (fun ls hl => ?_)
        refine lv_goto (tgt := 24) hx hb dX3_span_59 (by decide) ?_
        refine lv_iload hx hb dX3_span_24 (lv_at hl 0 rfl) ?_
        refine q_con hx hb dX3_span_26 ?_
        refine q_cge (tgt := 62) hx hb dX3_span_27 (by decide) (by omega) (by omega) (fun c14 => ?_) (fun c14 => ?_)
        · refine lv_aload_n hx hb dX3_span_62 rfl (lv_at hl 3 rfl) ?_
          refine lv_iload_n hx hb dX3_span_63 rfl (lv_at hl 4 rfl) ?_
          obtain ⟨r15, hr15⟩ := bex (a < 0 ∨ 2 < a)
          refine c_P (As := [.int (iI a)]) (rest := [.ref (w 0)]) fx hl (pm_X3_isNoSpan l a r15 hr15 (by omega)) dX3_span_64 k1207 k1208 k6 k1209 hd_X3_isNoSpan rfl ⟨by decide, by decide⟩ (Nat.le_of_ble_eq_true rfl) ⟨by dsimp only; omega, by dsimp only; omega⟩ ?_
          have br15 : r15 = 0 ∨ r15 = 1 := hr15.elim (fun h => Or.inr h.1) (fun h => Or.inl h.1)
          refine lv_iload hx hb dX3_span_67 (lv_at hl 1 rfl) ?_
          refine q_con hx hb dX3_span_69 ?_
          obtain ⟨t16, f17, hq1t16, hq2t16⟩ := fails_ex r15 z13 0 (by omega) (by omega) (by omega)
          have hmw : MWR θ S0 w H4 r q dt sv th dn rf kn := ⟨hzH4, hu, hmH4, hd, hsv⟩
          refine c_M (w := w) (As := [.int (iI r15), .int (iI z13), .int (iI 0)]) (rest := []) (b := w 0) (C := RX3) fx hl (mw_fails θ l S0 _ w _ _ _ _ _ _ _ _ hmw r15 z13 0 t16 f17 (by omega) hq1t16 hq2t16) (ob_recv hK hmH4.1 rfl) dX3_span_70 k1119 k1121 ks10 k6 k1122 hd_X3_fails rfl ⟨by decide, by decide⟩ (Nat.le_of_ble_eq_true rfl) ⟨by dsimp only; omega, by dsimp only; omega⟩ hS (fun x hx => hx ▸ Or.inl (Or.inl rfl)) (fun H18 locs hmH18 hszH18 hk0H18 hS => ?_)
          have hkH18 : ∀ x : Nat, x < (H4).size → ¬ x = w 0 → H18[x]? = (H4)[x]? := hk0H18
          have haH4_H18 := haH4.kept (hkH18 _ haH4.lt (by omega))
          have hzH18 := hz0.at hAB hS
          have hltH18 := hmH18.lt
          refine q_ieq (tgt := 78) hx hb dX3_span_73 (by decide) (by omega) (fun c19 => ?_) (fun c19 => ?_)
          · exact (show False by omega).elim
          · refine q_con hx hb dX3_span_76 ?_
            obtain rfl : t16 = 2 := by omega
            have hmw : MWR θ S0 w H18 r q dt sv 2 dn rf kn := ⟨hzH18, hu, hmH18, hd, hsv⟩
            exact e_i hx hb hr hlk hS dX3_span_77 (Nat.le_of_ble_eq_true rfl) (Nat.le_of_ble_eq_true rfl) ⟨ex_i (by omega), r, q, by first | exact hmw | (subst_vars; exact hmw) | (simp only [inI_self, inI_1, inI_31] at hmw; subst_vars; exact hmw), by first | exact nw_rf | exact nw_up (by omega) | exact nw_up2 (by omega), by first | exact nw_rf | exact nw_up (by omega) | exact nw_up2 (by omega)⟩
        · exact (show False by omega).elim

set_option maxHeartbeats 4000000 in
set_option maxRecDepth 100000 in
theorem mno4_span (θ : TH) (l : Launch) (S0 : State) (H : Heap) (w : Nat → Nat) (r q : Nat → Nat) (dt : Nat → Int) (sv : Nat → Nat → Int) (th dn rf kn : Int) (hw : MWR θ S0 w H r q dt sv th dn rf kn) (a x y z : Int) (h_0 : -2147483648 ≤ a ∧ a < 2147483648) (h_1 : -2147483648 ≤ x ∧ x < 2147483648) (h_2 : -2147483648 ≤ y ∧ y < 2147483648) (h_3 : -2147483648 ≤ z ∧ z < 2147483648) (h_4 : 0 ≤ a ∧ a < 3) (h_5 : -20000 ≤ x ∧ x ≤ 20000) (h_6 : -240000 ≤ y ∧ y ≤ 240000) (h_7 : ¬ (-100000 ≤ z ∧ z ≤ 100000)) : CT l yX3_span cX3_span 8 (some .int) 2 42 1 3 [.ref (w 0), .int (iI a), .int (iI x), .int (iI y), .int (iI z)] S0 H (fun v9 H1 => v9 = some (.int (iI 0)) ∧ ∃ r1 q1 : Nat → Nat, MWR θ S0 w H1 r1 q1 dt sv 2 dn rf kn ∧ NW 6 H.size r r1 ∧ NW 3 H.size q q1) (fun _ _ => False) (WA w H.size) := by
  refine ct_of (by decide +kernel) (Nat.le_of_ble_eq_true rfl) ?_
  intro pg en s mi args below meth co ls fx hs hr hlk hxt hin hl
  subst hs
  obtain ⟨hx, hb, hml, hown, hts⟩ := id fx.1
  have hS : va_S (WA w s.heap.size) s.heap s.heap [] := va_S.rf
  obtain ⟨hz, hu, hm, hd, hsv⟩ := id hw
  have hAB : ∀ x : Nat, (WA w s.heap.size) x → θ.2.2.2 ≤ x := wa_b hu hz.2.1
  have hz0 := hz
  have hK := sz_K fx.2 hz
  have hlt0 := hm.lt
  have hu1 := hu.1
  have hAn : ∀ x : Nat, s.heap.size ≤ x → (WA w s.heap.size) x := fun _ h => Or.inr h
  refine q_con hx hb dX3_span_0 ?_
  refine r_newI (θ := θ) hx hb hts hK k71 hS (by omega) (by dsimp only; omega) (by dsimp only; omega) dX3_span_1 (fun H1 haH1 hszH1 hkH1 hS => ?_)
  have hzH1 := hz0.at hAB hS
  have hkkH1 := hkH1
  have hmH1 := hm.kept hkH1
  have hltmH1 := hm.lt
  refine lv_dup hx hb dX3_span_3 rfl ?_
  refine q_con hx hb dX3_span_4 ?_
  refine lv_iload_n hx hb dX3_span_5 rfl (lv_at hl 2 rfl) ?_
  refine r_iast (θ := θ) (a := s.heap.size) hx hb hK haH1 (hAn _ (by omega)) hS (i := 0) (x := x) (by omega) (by decide) dX3_span_6 (fun H2 locs haH2 hszH2 hkH2 hS => ?_)
  have hzH2 := hz0.at hAB hS
  have hkkH2 : ∀ x : Nat, x < (s.heap).size → H2[x]? = (s.heap)[x]? := fun x hx => (hkH2 x (by omega)).trans (hkkH1 x hx)
  have hmH2 := hm.kept hkkH2
  refine lv_dup hx hb dX3_span_7 rfl ?_
  refine q_con hx hb dX3_span_8 ?_
  refine lv_iload_n hx hb dX3_span_9 rfl (lv_at hl 3 rfl) ?_
  refine r_iast (θ := θ) (a := s.heap.size) hx hb hK haH2 (hAn _ (by omega)) hS (i := 1) (x := y) (by omega) (by decide) dX3_span_10 (fun H3 locs haH3 hszH3 hkH3 hS => ?_)
  have hzH3 := hz0.at hAB hS
  have hkkH3 : ∀ x : Nat, x < (s.heap).size → H3[x]? = (s.heap)[x]? := fun x hx => (hkH3 x (by omega)).trans (hkkH2 x hx)
  have hmH3 := hm.kept hkkH3
  refine lv_dup hx hb dX3_span_11 rfl ?_
  refine q_con hx hb dX3_span_12 ?_
  refine lv_iload hx hb dX3_span_13 (lv_at hl 4 rfl) ?_
  refine r_iast (θ := θ) (a := s.heap.size) hx hb hK haH3 (hAn _ (by omega)) hS (i := 2) (x := z) (by omega) (by decide) dX3_span_15 (fun H4 locs haH4 hszH4 hkH4 hS => ?_)
  have hzH4 := hz0.at hAB hS
  have hkkH4 : ∀ x : Nat, x < (s.heap).size → H4[x]? = (s.heap)[x]? := fun x hx => (hkH4 x (by omega)).trans (hkkH3 x hx)
  have hmH4 := hm.kept hkkH4
  refine lv_astore (lv' := [(5, .ref s.heap.size), (0, .ref (w 0)), (1, .int (iI a)), (2, .int (iI x)), (3, .int (iI y)), (4, .int (iI z))]) hx hb dX3_span_16 hl (by decide) rfl (fun ls hl => ?_)
  refine q_con hx hb dX3_span_18 ?_
  refine lv_istore (lv' := [(6, .int (iI 0)), (5, .ref s.heap.size), (0, .ref (w 0)), (1, .int (iI a)), (2, .int (iI x)), (3, .int (iI y)), (4, .int (iI z))]) hx hb dX3_span_19 hl (by decide) rfl (fun ls hl => ?_)
  refine q_con hx hb dX3_span_21 ?_
  refine lv_istore (lv' := [(7, .int (iI 0)), (6, .int (iI 0)), (5, .ref s.heap.size), (0, .ref (w 0)), (1, .int (iI a)), (2, .int (iI x)), (3, .int (iI y)), (4, .int (iI z))]) hx hb dX3_span_22 hl (by decide) rfl (fun ls hl => ?_)
  refine lv_iload hx hb dX3_span_24 (lv_at hl 0 rfl) ?_
  refine q_con hx hb dX3_span_26 ?_
  refine q_cge (tgt := 62) hx hb dX3_span_27 (by decide) (by omega) (by omega) (fun c5 => ?_) (fun c5 => ?_)
  · exact (show False by omega).elim
  · refine lv_iload hx hb dX3_span_30 (lv_at hl 1 rfl) ?_
    refine lv_aload hx hb dX3_span_32 (lv_at hl 2 rfl) ?_
    refine lv_iload hx hb dX3_span_34 (lv_at hl 0 rfl) ?_
    refine r_iald (θ := θ) hx hb hK haH4 (i := 0) (by omega) (by decide) dX3_span_36 ?_
    refine q_as (x) rfl ?_
    refine r_gets (θ := θ) hx hb fx.2 hz0.2.2.2.1.1 hAB hS hown (hts _ k1226) dX3_span_37 ?_
    refine lv_iload hx hb dX3_span_40 (lv_at hl 0 rfl) ?_
    refine r_ildz hx hb fx.2 hzH4.2.2.2.1.2.1 (i := 0) (by omega) (by decide) dX3_span_42 ?_
    refine q_as (20000) rfl ?_
    refine q_neg hx hb dX3_span_43 ?_
    refine r_gets (θ := θ) hx hb fx.2 hz0.2.2.2.1.1 hAB hS hown (hts _ k1226) dX3_span_44 ?_
    refine lv_iload hx hb dX3_span_47 (lv_at hl 0 rfl) ?_
    refine r_ildz hx hb fx.2 hzH4.2.2.2.1.2.1 (i := 0) (by omega) (by decide) dX3_span_49 ?_
    refine q_as (20000) rfl ?_
    obtain ⟨r6, hr6⟩ := bex (x < (-20000) ∨ 20000 < x)
    refine c_P (As := [.int (iI x), .int (iI (-20000)), .int (iI 20000)]) (rest := [.int (iI 0)]) fx hl (pm_X3_isOut l x (-20000) 20000 r6 hr6 (by omega) (by omega) (by omega)) dX3_span_50 k1116 k1117 k6 k1118 hd_X3_isOut rfl ⟨by decide, by decide⟩ (Nat.le_of_ble_eq_true rfl) ⟨by dsimp only; omega, by dsimp only; omega⟩ ?_
    have br6 : r6 = 0 ∨ r6 = 1 := hr6.elim (fun h => Or.inr h.1) (fun h => Or.inl h.1)
    refine q_ior hx hb dX3_span_53 (by decide) br6 (fun z7 bz7 hz7 => ?_)
    refine lv_istore (lv' := [(6, .int (iI z7)), (7, .int (iI 0)), (5, .ref s.heap.size), (0, .ref (w 0)), (1, .int (iI a)), (2, .int (iI x)), (3, .int (iI y)), (4, .int (iI z))]) hx hb dX3_span_54 hl (by decide) rfl (fun ls hl => ?_)
    refine lv_iinc (v := iI (1)) (lv' := [(7, .int (iI 1)), (6, .int (iI z7)), (5, .ref s.heap.size), (0, .ref (w 0)), (1, .int (iI a)), (2, .int (iI x)), (3, .int (iI y)), (4, .int (iI z))]) hx hb dX3_span_56 hl (k := 1) rfl rfl (by decide) rfl (fun ls hl => ?_)
    refine lv_goto (tgt := 24) hx hb dX3_span_59 (by decide) ?_
    refine lv_iload hx hb dX3_span_24 (lv_at hl 0 rfl) ?_
    refine q_con hx hb dX3_span_26 ?_
    refine q_cge (tgt := 62) hx hb dX3_span_27 (by decide) (by omega) (by omega) (fun c8 => ?_) (fun c8 => ?_)
    · exact (show False by omega).elim
    · refine lv_iload hx hb dX3_span_30 (lv_at hl 1 rfl) ?_
      refine lv_aload hx hb dX3_span_32 (lv_at hl 2 rfl) ?_
      refine lv_iload hx hb dX3_span_34 (lv_at hl 0 rfl) ?_
      refine r_iald (θ := θ) hx hb hK haH4 (i := 1) (by omega) (by decide) dX3_span_36 ?_
      refine q_as (y) rfl ?_
      refine r_gets (θ := θ) hx hb fx.2 hz0.2.2.2.1.1 hAB hS hown (hts _ k1226) dX3_span_37 ?_
      refine lv_iload hx hb dX3_span_40 (lv_at hl 0 rfl) ?_
      refine r_ildz hx hb fx.2 hzH4.2.2.2.1.2.1 (i := 1) (by omega) (by decide) dX3_span_42 ?_
      refine q_as (240000) rfl ?_
      refine q_neg hx hb dX3_span_43 ?_
      refine r_gets (θ := θ) hx hb fx.2 hz0.2.2.2.1.1 hAB hS hown (hts _ k1226) dX3_span_44 ?_
      refine lv_iload hx hb dX3_span_47 (lv_at hl 0 rfl) ?_
      refine r_ildz hx hb fx.2 hzH4.2.2.2.1.2.1 (i := 1) (by omega) (by decide) dX3_span_49 ?_
      refine q_as (240000) rfl ?_
      obtain ⟨r9, hr9⟩ := bex (y < (-240000) ∨ 240000 < y)
      refine c_P (As := [.int (iI y), .int (iI (-240000)), .int (iI 240000)]) (rest := [.int (iI z7)]) fx hl (pm_X3_isOut l y (-240000) 240000 r9 hr9 (by omega) (by omega) (by omega)) dX3_span_50 k1116 k1117 k6 k1118 hd_X3_isOut rfl ⟨by decide, by decide⟩ (Nat.le_of_ble_eq_true rfl) ⟨by dsimp only; omega, by dsimp only; omega⟩ ?_
      have br9 : r9 = 0 ∨ r9 = 1 := hr9.elim (fun h => Or.inr h.1) (fun h => Or.inl h.1)
      refine q_ior hx hb dX3_span_53 bz7 br9 (fun z10 bz10 hz10 => ?_)
      refine lv_istore (lv' := [(6, .int (iI z10)), (7, .int (iI 1)), (5, .ref s.heap.size), (0, .ref (w 0)), (1, .int (iI a)), (2, .int (iI x)), (3, .int (iI y)), (4, .int (iI z))]) hx hb dX3_span_54 hl (by decide) rfl (fun ls hl => ?_)
      refine lv_iinc (v := iI (2)) (lv' := [(7, .int (iI 2)), (6, .int (iI z10)), (5, .ref s.heap.size), (0, .ref (w 0)), (1, .int (iI a)), (2, .int (iI x)), (3, .int (iI y)), (4, .int (iI z))]) hx hb dX3_span_56 hl (k := 1) rfl rfl (by decide) rfl (fun ls hl => ?_)
      refine lv_goto (tgt := 24) hx hb dX3_span_59 (by decide) ?_
      refine lv_iload hx hb dX3_span_24 (lv_at hl 0 rfl) ?_
      refine q_con hx hb dX3_span_26 ?_
      refine q_cge (tgt := 62) hx hb dX3_span_27 (by decide) (by omega) (by omega) (fun c11 => ?_) (fun c11 => ?_)
      · exact (show False by omega).elim
      · refine lv_iload hx hb dX3_span_30 (lv_at hl 1 rfl) ?_
        refine lv_aload hx hb dX3_span_32 (lv_at hl 2 rfl) ?_
        refine lv_iload hx hb dX3_span_34 (lv_at hl 0 rfl) ?_
        refine r_iald (θ := θ) hx hb hK haH4 (i := 2) (by omega) (by decide) dX3_span_36 ?_
        refine q_as (z) rfl ?_
        refine r_gets (θ := θ) hx hb fx.2 hz0.2.2.2.1.1 hAB hS hown (hts _ k1226) dX3_span_37 ?_
        refine lv_iload hx hb dX3_span_40 (lv_at hl 0 rfl) ?_
        refine r_ildz hx hb fx.2 hzH4.2.2.2.1.2.1 (i := 2) (by omega) (by decide) dX3_span_42 ?_
        refine q_as (100000) rfl ?_
        refine q_neg hx hb dX3_span_43 ?_
        refine r_gets (θ := θ) hx hb fx.2 hz0.2.2.2.1.1 hAB hS hown (hts _ k1226) dX3_span_44 ?_
        refine lv_iload hx hb dX3_span_47 (lv_at hl 0 rfl) ?_
        refine r_ildz hx hb fx.2 hzH4.2.2.2.1.2.1 (i := 2) (by omega) (by decide) dX3_span_49 ?_
        refine q_as (100000) rfl ?_
        obtain ⟨r12, hr12⟩ := bex (z < (-100000) ∨ 100000 < z)
        refine c_P (As := [.int (iI z), .int (iI (-100000)), .int (iI 100000)]) (rest := [.int (iI z10)]) fx hl (pm_X3_isOut l z (-100000) 100000 r12 hr12 (by omega) (by omega) (by omega)) dX3_span_50 k1116 k1117 k6 k1118 hd_X3_isOut rfl ⟨by decide, by decide⟩ (Nat.le_of_ble_eq_true rfl) ⟨by dsimp only; omega, by dsimp only; omega⟩ ?_
        have br12 : r12 = 0 ∨ r12 = 1 := hr12.elim (fun h => Or.inr h.1) (fun h => Or.inl h.1)
        refine q_ior hx hb dX3_span_53 bz10 br12 (fun z13 bz13 hz13 => ?_)
        refine lv_istore (lv' := [(6, .int (iI z13)), (7, .int (iI 2)), (5, .ref s.heap.size), (0, .ref (w 0)), (1, .int (iI a)), (2, .int (iI x)), (3, .int (iI y)), (4, .int (iI z))]) hx hb dX3_span_54 hl (by decide) rfl (fun ls hl => ?_)
        refine lv_iinc (v := iI (3)) (lv' := [(7, .int (iI 3)), (6, .int (iI z13)), (5, .ref s.heap.size), (0, .ref (w 0)), (1, .int (iI a)), (2, .int (iI x)), (3, .int (iI y)), (4, .int (iI z))]) hx hb dX3_span_56 hl (k := 1) rfl rfl (by decide) rfl (fun ls hl => ?_)
        refine lv_goto (tgt := 24) hx hb dX3_span_59 (by decide) ?_
        refine lv_iload hx hb dX3_span_24 (lv_at hl 0 rfl) ?_
        refine q_con hx hb dX3_span_26 ?_
        refine q_cge (tgt := 62) hx hb dX3_span_27 (by decide) (by omega) (by omega) (fun c14 => ?_) (fun c14 => ?_)
        · refine lv_aload_n hx hb dX3_span_62 rfl (lv_at hl 3 rfl) ?_
          refine lv_iload_n hx hb dX3_span_63 rfl (lv_at hl 4 rfl) ?_
          obtain ⟨r15, hr15⟩ := bex (a < 0 ∨ 2 < a)
          refine c_P (As := [.int (iI a)]) (rest := [.ref (w 0)]) fx hl (pm_X3_isNoSpan l a r15 hr15 (by omega)) dX3_span_64 k1207 k1208 k6 k1209 hd_X3_isNoSpan rfl ⟨by decide, by decide⟩ (Nat.le_of_ble_eq_true rfl) ⟨by dsimp only; omega, by dsimp only; omega⟩ ?_
          have br15 : r15 = 0 ∨ r15 = 1 := hr15.elim (fun h => Or.inr h.1) (fun h => Or.inl h.1)
          refine lv_iload hx hb dX3_span_67 (lv_at hl 1 rfl) ?_
          refine q_con hx hb dX3_span_69 ?_
          obtain ⟨t16, f17, hq1t16, hq2t16⟩ := fails_ex r15 z13 0 (by omega) (by omega) (by omega)
          have hmw : MWR θ S0 w H4 r q dt sv th dn rf kn := ⟨hzH4, hu, hmH4, hd, hsv⟩
          refine c_M (w := w) (As := [.int (iI r15), .int (iI z13), .int (iI 0)]) (rest := []) (b := w 0) (C := RX3) fx hl (mw_fails θ l S0 _ w _ _ _ _ _ _ _ _ hmw r15 z13 0 t16 f17 (by omega) hq1t16 hq2t16) (ob_recv hK hmH4.1 rfl) dX3_span_70 k1119 k1121 ks10 k6 k1122 hd_X3_fails rfl ⟨by decide, by decide⟩ (Nat.le_of_ble_eq_true rfl) ⟨by dsimp only; omega, by dsimp only; omega⟩ hS (fun x hx => hx ▸ Or.inl (Or.inl rfl)) (fun H18 locs hmH18 hszH18 hk0H18 hS => ?_)
          have hkH18 : ∀ x : Nat, x < (H4).size → ¬ x = w 0 → H18[x]? = (H4)[x]? := hk0H18
          have haH4_H18 := haH4.kept (hkH18 _ haH4.lt (by omega))
          have hzH18 := hz0.at hAB hS
          have hltH18 := hmH18.lt
          refine q_ieq (tgt := 78) hx hb dX3_span_73 (by decide) (by omega) (fun c19 => ?_) (fun c19 => ?_)
          · exact (show False by omega).elim
          · refine q_con hx hb dX3_span_76 ?_
            obtain rfl : t16 = 2 := by omega
            have hmw : MWR θ S0 w H18 r q dt sv 2 dn rf kn := ⟨hzH18, hu, hmH18, hd, hsv⟩
            exact e_i hx hb hr hlk hS dX3_span_77 (Nat.le_of_ble_eq_true rfl) (Nat.le_of_ble_eq_true rfl) ⟨ex_i (by omega), r, q, by first | exact hmw | (subst_vars; exact hmw) | (simp only [inI_self, inI_1, inI_31] at hmw; subst_vars; exact hmw), by first | exact nw_rf | exact nw_up (by omega) | exact nw_up2 (by omega), by first | exact nw_rf | exact nw_up (by omega) | exact nw_up2 (by omega)⟩
        · exact (show False by omega).elim

set_option maxHeartbeats 4000000 in
set_option maxRecDepth 100000 in
theorem mok_turnSpan (θ : TH) (l : Launch) (S0 : State) (H : Heap) (w : Nat → Nat) (r q : Nat → Nat) (dt : Nat → Int) (sv : Nat → Nat → Int) (th dn rf kn : Int) (hw : MWR θ S0 w H r q dt sv th dn rf kn) (a : Int) (h_0 : -2147483648 ≤ a ∧ a < 2147483648) (h_1 : 0 ≤ a ∧ a < 3) : CT l yX3_turnSpan cX3_turnSpan 2 (some .int) 2 42 1 3 [.ref (w 0), .int (iI a)] S0 H (fun v9 H1 => v9 = some (.int (iI (12 * -sv a.toNat 0 + -sv a.toNat 1))) ∧ ∃ r1 q1 : Nat → Nat, MWR θ S0 w H1 r1 q1 dt (up sv a.toNat (tri (-sv a.toNat 0) (-sv a.toNat 1) (-sv a.toNat 2))) 0 (dn + 1) rf kn ∧ NW 6 H.size r r1 ∧ NW 3 H.size q q1) (fun _ _ => False) (WA w H.size) := by
  refine ct_of (by decide +kernel) (Nat.le_of_ble_eq_true rfl) ?_
  intro pg en s mi args below meth co ls fx hs hr hlk hxt hin hl
  subst hs
  obtain ⟨hx, hb, hml, hown, hts⟩ := id fx.1
  have hS : va_S (WA w s.heap.size) s.heap s.heap [] := va_S.rf
  obtain ⟨hz, hu, hm, hd, hsv⟩ := id hw
  have hAB : ∀ x : Nat, (WA w s.heap.size) x → θ.2.2.2 ≤ x := wa_b hu hz.2.1
  have hz0 := hz
  have hK := sz_K fx.2 hz
  have hlt0 := hm.lt
  have hu1 := hu.1
  have hAn : ∀ x : Nat, s.heap.size ≤ x → (WA w s.heap.size) x := fun _ h => Or.inr h
  refine lv_aload_n hx hb dX3_turnSpan_0 rfl (lv_at hl 0 rfl) ?_
  refine lv_iload_n hx hb dX3_turnSpan_1 rfl (lv_at hl 1 rfl) ?_
  obtain ⟨r1, hr1⟩ := bex (a < 0 ∨ 2 < a)
  refine c_P (As := [.int (iI a)]) (rest := [.ref (w 0)]) fx hl (pm_X3_isNoSpan l a r1 hr1 (by omega)) dX3_turnSpan_2 k1207 k1208 k6 k1209 hd_X3_isNoSpan rfl ⟨by decide, by decide⟩ (Nat.le_of_ble_eq_true rfl) ⟨by dsimp only; omega, by dsimp only; omega⟩ ?_
  have br1 : r1 = 0 ∨ r1 = 1 := hr1.elim (fun h => Or.inr h.1) (fun h => Or.inl h.1)
  refine q_con hx hb dX3_turnSpan_5 ?_
  refine q_con hx hb dX3_turnSpan_6 ?_
  obtain ⟨t2, f3, hq1t2, hq2t2⟩ := fails_ex r1 0 0 (by omega) (by omega) (by omega)
  have hmw : MWR θ S0 w s.heap r q dt sv th dn rf kn := ⟨hz, hu, hm, hd, hsv⟩
  refine c_M (w := w) (As := [.int (iI r1), .int (iI 0), .int (iI 0)]) (rest := []) (b := w 0) (C := RX3) fx hl (mw_fails θ l S0 _ w _ _ _ _ _ _ _ _ hmw r1 0 0 t2 f3 (by omega) hq1t2 hq2t2) (ob_recv hK hm.1 rfl) dX3_turnSpan_7 k1119 k1121 ks10 k6 k1122 hd_X3_fails rfl ⟨by decide, by decide⟩ (Nat.le_of_ble_eq_true rfl) ⟨by dsimp only; omega, by dsimp only; omega⟩ hS (fun x hx => hx ▸ Or.inl (Or.inl rfl)) (fun H4 locs hmH4 hszH4 hk0H4 hS => ?_)
  have hkH4 : ∀ x : Nat, x < (s.heap).size → ¬ x = w 0 → H4[x]? = (s.heap)[x]? := hk0H4
  have hzH4 := hz0.at hAB hS
  have hltH4 := hmH4.lt
  refine q_ieq (tgt := 15) hx hb dX3_turnSpan_10 (by decide) (by omega) (fun c5 => ?_) (fun c5 => ?_)
  · refine lv_aload_n hx hb dX3_turnSpan_15 rfl (lv_at hl 0 rfl) ?_
    refine r_get (θ := θ) (C := RX3) (T := TX3) (N := 6) (ci := 9) hx hb hts gwX3 hown hK hmH4.1 rfl 5 (by decide) k1095 (fun _ h => h) (v := .ref (w 2)) rfl dX3_turnSpan_16 ?_
    refine lv_iload_n hx hb dX3_turnSpan_19 rfl (lv_at hl 1 rfl) ?_
    refine q_con hx hb dX3_turnSpan_20 ?_
    refine r_newI (θ := θ) hx hb hts hK k71 hS (by omega) (by dsimp only; omega) (by dsimp only; omega) dX3_turnSpan_21 (fun H6 haH6 hszH6 hkH6 hS => ?_)
    have hzH6 := hz0.at hAB hS
    have hkkH6 := hkH6
    have hmH6 := hmH4.kept hkH6
    have hltmH6 := hmH4.lt
    refine lv_dup hx hb dX3_turnSpan_23 rfl ?_
    refine q_con hx hb dX3_turnSpan_24 ?_
    refine lv_aload_n hx hb dX3_turnSpan_25 rfl (lv_at hl 0 rfl) ?_
    refine r_get (θ := θ) (C := RX3) (T := TX3) (N := 6) (ci := 9) hx hb hts gwX3 hown hK hmH6.1 rfl 5 (by decide) k1095 (fun _ h => h) (v := .ref (w 2)) rfl dX3_turnSpan_26 ?_
    refine lv_iload_n hx hb dX3_turnSpan_29 rfl (lv_at hl 1 rfl) ?_
    refine r_aald (θ := θ) hx hb hK hmH6.2.2.1 (i := a) (by omega) (by decide) dX3_turnSpan_30 ?_
    have rw7 := (hmH6.2.2.2.2 (a.toNat) (by omega)).1
    have rw7t := hsv (a.toNat) (by omega)
    have rw7l := rw7.lt
    refine q_con hx hb dX3_turnSpan_31 ?_
    refine r_iald (θ := θ) hx hb hK rw7 (i := 0) (by omega) (by decide) dX3_turnSpan_32 ?_
    refine q_as ((sv a.toNat) 0) rfl ?_
    refine q_neg hx hb dX3_turnSpan_33 ?_
    refine r_iast (θ := θ) (a := H4.size) hx hb hK haH6 (hAn _ (by omega)) hS (i := 0) (x := -(sv a.toNat 0)) (by omega) (by decide) dX3_turnSpan_34 (fun H8 locs haH8 hszH8 hkH8 hS => ?_)
    have hzH8 := hz0.at hAB hS
    have hkkH8 : ∀ x : Nat, x < (H4).size → H8[x]? = (H4)[x]? := fun x hx => (hkH8 x (by omega)).trans (hkkH6 x hx)
    have hmH8 := hmH4.kept hkkH8
    refine lv_dup hx hb dX3_turnSpan_35 rfl ?_
    refine q_con hx hb dX3_turnSpan_36 ?_
    refine lv_aload_n hx hb dX3_turnSpan_37 rfl (lv_at hl 0 rfl) ?_
    refine r_get (θ := θ) (C := RX3) (T := TX3) (N := 6) (ci := 9) hx hb hts gwX3 hown hK hmH8.1 rfl 5 (by decide) k1095 (fun _ h => h) (v := .ref (w 2)) rfl dX3_turnSpan_38 ?_
    refine lv_iload_n hx hb dX3_turnSpan_41 rfl (lv_at hl 1 rfl) ?_
    refine r_aald (θ := θ) hx hb hK hmH8.2.2.1 (i := a) (by omega) (by decide) dX3_turnSpan_42 ?_
    have rw9 := (hmH8.2.2.2.2 (a.toNat) (by omega)).1
    have rw9t := hsv (a.toNat) (by omega)
    have rw9l := rw9.lt
    refine q_con hx hb dX3_turnSpan_43 ?_
    refine r_iald (θ := θ) hx hb hK rw9 (i := 1) (by omega) (by decide) dX3_turnSpan_44 ?_
    refine q_as ((sv a.toNat) 1) rfl ?_
    refine q_neg hx hb dX3_turnSpan_45 ?_
    refine r_iast (θ := θ) (a := H4.size) hx hb hK haH8 (hAn _ (by omega)) hS (i := 1) (x := -(sv a.toNat 1)) (by omega) (by decide) dX3_turnSpan_46 (fun H10 locs haH10 hszH10 hkH10 hS => ?_)
    have hzH10 := hz0.at hAB hS
    have hkkH10 : ∀ x : Nat, x < (H4).size → H10[x]? = (H4)[x]? := fun x hx => (hkH10 x (by omega)).trans (hkkH8 x hx)
    have hmH10 := hmH4.kept hkkH10
    refine lv_dup hx hb dX3_turnSpan_47 rfl ?_
    refine q_con hx hb dX3_turnSpan_48 ?_
    refine lv_aload_n hx hb dX3_turnSpan_49 rfl (lv_at hl 0 rfl) ?_
    refine r_get (θ := θ) (C := RX3) (T := TX3) (N := 6) (ci := 9) hx hb hts gwX3 hown hK hmH10.1 rfl 5 (by decide) k1095 (fun _ h => h) (v := .ref (w 2)) rfl dX3_turnSpan_50 ?_
    refine lv_iload_n hx hb dX3_turnSpan_53 rfl (lv_at hl 1 rfl) ?_
    refine r_aald (θ := θ) hx hb hK hmH10.2.2.1 (i := a) (by omega) (by decide) dX3_turnSpan_54 ?_
    have rw11 := (hmH10.2.2.2.2 (a.toNat) (by omega)).1
    have rw11t := hsv (a.toNat) (by omega)
    have rw11l := rw11.lt
    refine q_con hx hb dX3_turnSpan_55 ?_
    refine r_iald (θ := θ) hx hb hK rw11 (i := 2) (by omega) (by decide) dX3_turnSpan_56 ?_
    refine q_as ((sv a.toNat) 2) rfl ?_
    refine q_neg hx hb dX3_turnSpan_57 ?_
    refine r_iast (θ := θ) (a := H4.size) hx hb hK haH10 (hAn _ (by omega)) hS (i := 2) (x := -(sv a.toNat 2)) (by omega) (by decide) dX3_turnSpan_58 (fun H12 locs haH12 hszH12 hkH12 hS => ?_)
    have hzH12 := hz0.at hAB hS
    have hkkH12 : ∀ x : Nat, x < (H4).size → H12[x]? = (H4)[x]? := fun x hx => (hkH12 x (by omega)).trans (hkkH10 x hx)
    have hmH12 := hmH4.kept hkkH12
    have tr13 := mk_row3 (x := -sv a.toNat 0) (y := -sv a.toNat 1) (z := -sv a.toNat 2) haH12 (by first | rfl | (subst_vars; rfl) | (simp only [up_s, up]; omega)) (by first | rfl | (subst_vars; rfl) | (simp only [up_s, up]; omega)) (by first | rfl | (subst_vars; rfl) | (simp only [up_s, up]; omega))
    refine r_aast (θ := θ) (a := (w 2)) hx hb fx.2 hz0 hmH12.2.2.1 tr13 (Or.inl (Or.inr (Or.inr rfl))) hS (i := a) (by omega) (by decide) dX3_turnSpan_59 (fun H14 locs haH14 hszH14 hkH14 hS => ?_)
    have hmH14 : MW θ w H14 r (up q a.toNat H4.size) dt (up sv a.toNat (tri (-sv a.toNat 0) (-sv a.toNat 1) (-sv a.toNat 2))) t2 dn rf kn := hmH12.span hu haH14 tr13 ⟨by omega, by omega, by omega⟩ hkH14
    have hzH14 := hz0.at hAB hS
    have tr13_H14 := tr13.kept (hkH14 _ (by omega))
    refine lv_aload_n hx hb dX3_turnSpan_60 rfl (lv_at hl 0 rfl) ?_
    refine lv_dup hx hb dX3_turnSpan_61 rfl ?_
    refine r_get (θ := θ) (C := RX3) (T := TX3) (N := 6) (ci := 9) hx hb hts gwX3 hown hK hmH14.1 rfl 1 (by decide) k1091 (fun _ h => h) (v := .int (iI dn)) rfl dX3_turnSpan_62 ?_
    refine q_con hx hb dX3_turnSpan_65 ?_
    refine q_add hx hb dX3_turnSpan_66 ?_
    refine r_put (θ := θ) (C := RX3) (T := TX3) (N := 6) (ci := 9) (v := .int (iI (dn + 1))) (ty := .int) hx hb hts gwX3 tyX3 tyX3_ok nmX3 hown hK hmH14.1 (Or.inl (Or.inl rfl)) hS rfl 1 (by decide) k1091 (fun _ h => h) rfl (by decide +kernel) rfl rfl (Nat.le_of_ble_eq_true rfl) dX3_turnSpan_67 (fun H15 locs hoH15 hszH15 hkH15 hS => ?_)
    have hmH15 : MW θ w H15 r (up q a.toNat H4.size) dt (up sv a.toNat (tri (-sv a.toNat 0) (-sv a.toNat 1) (-sv a.toNat 2))) t2 (dn + 1) rf kn := hmH14.obj hu hoH15 hkH15
    have hzH15 := hz0.at hAB hS
    have tr13_H15 := tr13_H14.kept (hkH15 _ (by omega))
    refine lv_aload_n hx hb dX3_turnSpan_70 rfl (lv_at hl 0 rfl) ?_
    refine lv_iload_n hx hb dX3_turnSpan_71 rfl (lv_at hl 1 rfl) ?_
    have hmw : MWR θ S0 w H15 r (up q a.toNat H4.size) dt (up sv a.toNat (tri (-sv a.toNat 0) (-sv a.toNat 1) (-sv a.toNat 2))) t2 (dn + 1) rf kn := ⟨hzH15, hu, hmH15, hd, (svr_up hsv ⟨by omega, by omega, by omega, by omega, by omega, by omega⟩)⟩
    refine c_HV (As := [.int (iI a)]) (rest := []) (b := w 0) (C := RX3) fx hl (mr_all θ l S0 _ w _ _ _ _ _ _ _ _ hmw a (by omega)) (ob_recv hK hmH15.1 rfl) dX3_turnSpan_72 k1214 k1216 ks14 k6 k1217 hd_X3_all rfl ⟨by decide, by decide⟩ (Nat.le_of_ble_eq_true rfl) ⟨by dsimp only; omega, by dsimp only; omega⟩ ?_
    refine q_nm (fun z16 ez16 => ?_)
    obtain rfl : t2 = 0 := by omega
    have hmw : MWR θ S0 w H15 r (up q a.toNat H4.size) dt (up sv a.toNat (tri (-sv a.toNat 0) (-sv a.toNat 1) (-sv a.toNat 2))) 0 (dn + 1) rf kn := ⟨hzH15, hu, hmH15, hd, (svr_up hsv ⟨by omega, by omega, by omega, by omega, by omega, by omega⟩)⟩
    exact e_i hx hb hr hlk hS dX3_turnSpan_75 (Nat.le_of_ble_eq_true rfl) (Nat.le_of_ble_eq_true rfl) ⟨ex_i (by subst_vars; first | omega | (simp only [up_s, tri_0, tri_1, tri_2, inI_self, inI_1, inI_31]; done) | (simp only [up_s, tri_0, tri_1, tri_2, inI_self, inI_1, inI_31]; omega) | (simp only [up_s, tri_0, tri_1, tri_2]; subst_vars; first | rfl | omega)), r, (up q a.toNat H4.size), by first | exact hmw | (subst_vars; exact hmw) | (simp only [inI_self, inI_1, inI_31] at hmw; subst_vars; exact hmw), by first | exact nw_rf | exact nw_up (by omega) | exact nw_up2 (by omega), by first | exact nw_rf | exact nw_up (by omega) | exact nw_up2 (by omega)⟩
  · exact (show False by omega).elim

set_option maxHeartbeats 4000000 in
set_option maxRecDepth 100000 in
theorem mno1_turnSpan (θ : TH) (l : Launch) (S0 : State) (H : Heap) (w : Nat → Nat) (r q : Nat → Nat) (dt : Nat → Int) (sv : Nat → Nat → Int) (th dn rf kn : Int) (hw : MWR θ S0 w H r q dt sv th dn rf kn) (a : Int) (h_0 : -2147483648 ≤ a ∧ a < 2147483648) (h_1 : ¬ (0 ≤ a ∧ a < 3)) : CT l yX3_turnSpan cX3_turnSpan 2 (some .int) 2 42 0 0 [.ref (w 0), .int (iI a)] S0 H (fun v9 H1 => v9 = some (.int (iI 0)) ∧ ∃ r1 q1 : Nat → Nat, MWR θ S0 w H1 r1 q1 dt sv 1 dn rf kn ∧ NW 6 H.size r r1 ∧ NW 3 H.size q q1) (fun _ _ => False) (WA w H.size) := by
  refine ct_of (by decide +kernel) (Nat.le_of_ble_eq_true rfl) ?_
  intro pg en s mi args below meth co ls fx hs hr hlk hxt hin hl
  subst hs
  obtain ⟨hx, hb, hml, hown, hts⟩ := id fx.1
  have hS : va_S (WA w s.heap.size) s.heap s.heap [] := va_S.rf
  obtain ⟨hz, hu, hm, hd, hsv⟩ := id hw
  have hAB : ∀ x : Nat, (WA w s.heap.size) x → θ.2.2.2 ≤ x := wa_b hu hz.2.1
  have hz0 := hz
  have hK := sz_K fx.2 hz
  have hlt0 := hm.lt
  have hu1 := hu.1
  have hAn : ∀ x : Nat, s.heap.size ≤ x → (WA w s.heap.size) x := fun _ h => Or.inr h
  refine lv_aload_n hx hb dX3_turnSpan_0 rfl (lv_at hl 0 rfl) ?_
  refine lv_iload_n hx hb dX3_turnSpan_1 rfl (lv_at hl 1 rfl) ?_
  obtain ⟨r1, hr1⟩ := bex (a < 0 ∨ 2 < a)
  refine c_P (As := [.int (iI a)]) (rest := [.ref (w 0)]) fx hl (pm_X3_isNoSpan l a r1 hr1 (by omega)) dX3_turnSpan_2 k1207 k1208 k6 k1209 hd_X3_isNoSpan rfl ⟨by decide, by decide⟩ (Nat.le_of_ble_eq_true rfl) ⟨by dsimp only; omega, by dsimp only; omega⟩ ?_
  have br1 : r1 = 0 ∨ r1 = 1 := hr1.elim (fun h => Or.inr h.1) (fun h => Or.inl h.1)
  refine q_con hx hb dX3_turnSpan_5 ?_
  refine q_con hx hb dX3_turnSpan_6 ?_
  obtain ⟨t2, f3, hq1t2, hq2t2⟩ := fails_ex r1 0 0 (by omega) (by omega) (by omega)
  have hmw : MWR θ S0 w s.heap r q dt sv th dn rf kn := ⟨hz, hu, hm, hd, hsv⟩
  refine c_M (w := w) (As := [.int (iI r1), .int (iI 0), .int (iI 0)]) (rest := []) (b := w 0) (C := RX3) fx hl (mw_fails θ l S0 _ w _ _ _ _ _ _ _ _ hmw r1 0 0 t2 f3 (by omega) hq1t2 hq2t2) (ob_recv hK hm.1 rfl) dX3_turnSpan_7 k1119 k1121 ks10 k6 k1122 hd_X3_fails rfl ⟨by decide, by decide⟩ (Nat.le_of_ble_eq_true rfl) ⟨by dsimp only; omega, by dsimp only; omega⟩ hS (fun x hx => hx ▸ Or.inl (Or.inl rfl)) (fun H4 locs hmH4 hszH4 hk0H4 hS => ?_)
  have hkH4 : ∀ x : Nat, x < (s.heap).size → ¬ x = w 0 → H4[x]? = (s.heap)[x]? := hk0H4
  have hzH4 := hz0.at hAB hS
  have hltH4 := hmH4.lt
  refine q_ieq (tgt := 15) hx hb dX3_turnSpan_10 (by decide) (by omega) (fun c5 => ?_) (fun c5 => ?_)
  · exact (show False by omega).elim
  · refine q_con hx hb dX3_turnSpan_13 ?_
    obtain rfl : t2 = 1 := by omega
    have hmw : MWR θ S0 w H4 r q dt sv 1 dn rf kn := ⟨hzH4, hu, hmH4, hd, hsv⟩
    exact e_i hx hb hr hlk hS dX3_turnSpan_14 (Nat.le_of_ble_eq_true rfl) (Nat.le_of_ble_eq_true rfl) ⟨ex_i (by omega), r, q, by first | exact hmw | (subst_vars; exact hmw) | (simp only [inI_self, inI_1, inI_31] at hmw; subst_vars; exact hmw), by first | exact nw_rf | exact nw_up (by omega) | exact nw_up2 (by omega), by first | exact nw_rf | exact nw_up (by omega) | exact nw_up2 (by omega)⟩

set_option maxHeartbeats 4000000 in
set_option maxRecDepth 100000 in
theorem mok_addSpan (θ : TH) (l : Launch) (S0 : State) (H : Heap) (w : Nat → Nat) (r q : Nat → Nat) (dt : Nat → Int) (sv : Nat → Nat → Int) (th dn rf kn : Int) (hw : MWR θ S0 w H r q dt sv th dn rf kn) (a b : Int) (h_0 : -2147483648 ≤ a ∧ a < 2147483648) (h_1 : -2147483648 ≤ b ∧ b < 2147483648) (h_2 : 0 ≤ a ∧ a < 3) (h_3 : 0 ≤ b ∧ b < 3) (h_4 : -20000 ≤ sv a.toNat 0 + sv b.toNat 0 ∧ sv a.toNat 0 + sv b.toNat 0 ≤ 20000) (h_5 : -240000 ≤ sv a.toNat 1 + sv b.toNat 1 ∧ sv a.toNat 1 + sv b.toNat 1 ≤ 240000) (h_6 : -100000 ≤ sv a.toNat 2 + sv b.toNat 2 ∧ sv a.toNat 2 + sv b.toNat 2 ≤ 100000) : CT l yX3_addSpan cX3_addSpan 6 (some .int) 2 42 1 3 [.ref (w 0), .int (iI a), .int (iI b)] S0 H (fun v9 H1 => v9 = some (.int (iI (sv a.toNat 2 + sv b.toNat 2))) ∧ ∃ r1 q1 : Nat → Nat, MWR θ S0 w H1 r1 q1 dt (up sv a.toNat (tri (sv a.toNat 0 + sv b.toNat 0) (sv a.toNat 1 + sv b.toNat 1) (sv a.toNat 2 + sv b.toNat 2))) 0 (dn + 1) rf kn ∧ NW 6 H.size r r1 ∧ NW 3 H.size q q1) (fun _ _ => False) (WA w H.size) := by
  refine ct_of (by decide +kernel) (Nat.le_of_ble_eq_true rfl) ?_
  intro pg en s mi args below meth co ls fx hs hr hlk hxt hin hl
  subst hs
  obtain ⟨hx, hb, hml, hown, hts⟩ := id fx.1
  have hS : va_S (WA w s.heap.size) s.heap s.heap [] := va_S.rf
  obtain ⟨hz, hu, hm, hd, hsv⟩ := id hw
  have hAB : ∀ x : Nat, (WA w s.heap.size) x → θ.2.2.2 ≤ x := wa_b hu hz.2.1
  have hz0 := hz
  have hK := sz_K fx.2 hz
  have hlt0 := hm.lt
  have hu1 := hu.1
  have hAn : ∀ x : Nat, s.heap.size ≤ x → (WA w s.heap.size) x := fun _ h => Or.inr h
  refine lv_aload_n hx hb dX3_addSpan_0 rfl (lv_at hl 0 rfl) ?_
  refine lv_iload_n hx hb dX3_addSpan_1 rfl (lv_at hl 1 rfl) ?_
  obtain ⟨r1, hr1⟩ := bex (a < 0 ∨ 2 < a)
  refine c_P (As := [.int (iI a)]) (rest := [.ref (w 0)]) fx hl (pm_X3_isNoSpan l a r1 hr1 (by omega)) dX3_addSpan_2 k1207 k1208 k6 k1209 hd_X3_isNoSpan rfl ⟨by decide, by decide⟩ (Nat.le_of_ble_eq_true rfl) ⟨by dsimp only; omega, by dsimp only; omega⟩ ?_
  have br1 : r1 = 0 ∨ r1 = 1 := hr1.elim (fun h => Or.inr h.1) (fun h => Or.inl h.1)
  refine q_ine (tgt := 15) hx hb dX3_addSpan_5 (by decide) (by omega) (fun c2 => ?_) (fun c2 => ?_)
  · exact (show False by omega).elim
  · refine lv_iload_n hx hb dX3_addSpan_8 rfl (lv_at hl 2 rfl) ?_
    obtain ⟨r3, hr3⟩ := bex (b < 0 ∨ 2 < b)
    refine c_P (As := [.int (iI b)]) (rest := [.ref (w 0)]) fx hl (pm_X3_isNoSpan l b r3 hr3 (by omega)) dX3_addSpan_9 k1207 k1208 k6 k1209 hd_X3_isNoSpan rfl ⟨by decide, by decide⟩ (Nat.le_of_ble_eq_true rfl) ⟨by dsimp only; omega, by dsimp only; omega⟩ ?_
    have br3 : r3 = 0 ∨ r3 = 1 := hr3.elim (fun h => Or.inr h.1) (fun h => Or.inl h.1)
    refine q_ieq (tgt := 19) hx hb dX3_addSpan_12 (by decide) (by omega) (fun c4 => ?_) (fun c4 => ?_)
    · refine q_con hx hb dX3_addSpan_19 ?_
      refine q_con hx hb dX3_addSpan_20 ?_
      refine q_con hx hb dX3_addSpan_21 ?_
      obtain ⟨t5, f6, hq1t5, hq2t5⟩ := fails_ex 0 0 0 (by omega) (by omega) (by omega)
      have hmw : MWR θ S0 w s.heap r q dt sv th dn rf kn := ⟨hz, hu, hm, hd, hsv⟩
      refine c_M (w := w) (As := [.int (iI 0), .int (iI 0), .int (iI 0)]) (rest := []) (b := w 0) (C := RX3) fx hl (mw_fails θ l S0 _ w _ _ _ _ _ _ _ _ hmw 0 0 0 t5 f6 (by omega) hq1t5 hq2t5) (ob_recv hK hm.1 rfl) dX3_addSpan_22 k1119 k1121 ks10 k6 k1122 hd_X3_fails rfl ⟨by decide, by decide⟩ (Nat.le_of_ble_eq_true rfl) ⟨by dsimp only; omega, by dsimp only; omega⟩ hS (fun x hx => hx ▸ Or.inl (Or.inl rfl)) (fun H7 locs hmH7 hszH7 hk0H7 hS => ?_)
      have hkH7 : ∀ x : Nat, x < (s.heap).size → ¬ x = w 0 → H7[x]? = (s.heap)[x]? := hk0H7
      have hzH7 := hz0.at hAB hS
      have hltH7 := hmH7.lt
      refine q_ieq (tgt := 30) hx hb dX3_addSpan_25 (by decide) (by omega) (fun c8 => ?_) (fun c8 => ?_)
      · refine q_con hx hb dX3_addSpan_30 ?_
        refine r_newI (θ := θ) hx hb hts hK k71 hS (by omega) (by dsimp only; omega) (by dsimp only; omega) dX3_addSpan_31 (fun H9 haH9 hszH9 hkH9 hS => ?_)
        have hzH9 := hz0.at hAB hS
        have hkkH9 := hkH9
        have hmH9 := hmH7.kept hkH9
        have hltmH9 := hmH7.lt
        refine lv_astore_n (lv' := [(3, .ref H7.size), (0, .ref (w 0)), (1, .int (iI a)), (2, .int (iI b))]) hx hb dX3_addSpan_33 rfl hl (by decide) rfl (fun ls hl => ?_)
        refine q_con hx hb dX3_addSpan_34 ?_
        refine lv_istore (lv' := [(4, .int (iI 0)), (3, .ref H7.size), (0, .ref (w 0)), (1, .int (iI a)), (2, .int (iI b))]) hx hb dX3_addSpan_35 hl (by decide) rfl (fun ls hl => ?_)
        refine q_con hx hb dX3_addSpan_37 ?_
        refine lv_istore (lv' := [(5, .int (iI 0)), (4, .int (iI 0)), (3, .ref H7.size), (0, .ref (w 0)), (1, .int (iI a)), (2, .int (iI b))]) hx hb dX3_addSpan_38 hl (by decide) rfl (fun ls hl => ?_)
        refine lv_iload hx hb dX3_addSpan_40 (lv_at hl 0 rfl) ?_
        refine q_con hx hb dX3_addSpan_42 ?_
        refine q_cge (tgt := 100) hx hb dX3_addSpan_43 (by decide) (by omega) (by omega) (fun c10 => ?_) (fun c10 => ?_)
        · exact (show False by omega).elim
        · refine lv_aload_n hx hb dX3_addSpan_46 rfl (lv_at hl 2 rfl) ?_
          refine lv_iload hx hb dX3_addSpan_47 (lv_at hl 0 rfl) ?_
          refine lv_aload_n hx hb dX3_addSpan_49 rfl (lv_at hl 3 rfl) ?_
          refine r_get (θ := θ) (C := RX3) (T := TX3) (N := 6) (ci := 9) hx hb hts gwX3 hown hK hmH9.1 rfl 5 (by decide) k1095 (fun _ h => h) (v := .ref (w 2)) rfl dX3_addSpan_50 ?_
          refine lv_iload_n hx hb dX3_addSpan_53 rfl (lv_at hl 4 rfl) ?_
          refine r_aald (θ := θ) hx hb hK hmH9.2.2.1 (i := a) (by omega) (by decide) dX3_addSpan_54 ?_
          have rw11 := (hmH9.2.2.2.2 (a.toNat) (by omega)).1
          have rw11t := hsv (a.toNat) (by omega)
          have rw11l := rw11.lt
          refine lv_iload hx hb dX3_addSpan_55 (lv_at hl 0 rfl) ?_
          refine r_iald (θ := θ) hx hb hK rw11 (i := 0) (by omega) (by decide) dX3_addSpan_57 ?_
          refine q_as ((sv a.toNat) 0) rfl ?_
          refine lv_aload_n hx hb dX3_addSpan_58 rfl (lv_at hl 3 rfl) ?_
          refine r_get (θ := θ) (C := RX3) (T := TX3) (N := 6) (ci := 9) hx hb hts gwX3 hown hK hmH9.1 rfl 5 (by decide) k1095 (fun _ h => h) (v := .ref (w 2)) rfl dX3_addSpan_59 ?_
          refine lv_iload_n hx hb dX3_addSpan_62 rfl (lv_at hl 5 rfl) ?_
          refine r_aald (θ := θ) hx hb hK hmH9.2.2.1 (i := b) (by omega) (by decide) dX3_addSpan_63 ?_
          have rw12 := (hmH9.2.2.2.2 (b.toNat) (by omega)).1
          have rw12t := hsv (b.toNat) (by omega)
          have rw12l := rw12.lt
          refine lv_iload hx hb dX3_addSpan_64 (lv_at hl 0 rfl) ?_
          refine r_iald (θ := θ) hx hb hK rw12 (i := 0) (by omega) (by decide) dX3_addSpan_66 ?_
          refine q_as ((sv b.toNat) 0) rfl ?_
          refine q_add hx hb dX3_addSpan_67 ?_
          refine r_iast (θ := θ) (a := H7.size) hx hb hK haH9 (hAn _ (by omega)) hS (i := 0) (x := (sv a.toNat 0) + (sv b.toNat 0)) (by omega) (by decide) dX3_addSpan_68 (fun H13 locs haH13 hszH13 hkH13 hS => ?_)
          have hzH13 := hz0.at hAB hS
          have hkkH13 : ∀ x : Nat, x < (H7).size → H13[x]? = (H7)[x]? := fun x hx => (hkH13 x (by omega)).trans (hkkH9 x hx)
          have hmH13 := hmH7.kept hkkH13
          refine lv_iload hx hb dX3_addSpan_69 (lv_at hl 1 rfl) ?_
          refine lv_aload_n hx hb dX3_addSpan_71 rfl (lv_at hl 2 rfl) ?_
          refine lv_iload hx hb dX3_addSpan_72 (lv_at hl 0 rfl) ?_
          refine r_iald (θ := θ) hx hb hK haH13 (i := 0) (by omega) (by decide) dX3_addSpan_74 ?_
          refine q_as ((sv a.toNat 0) + (sv b.toNat 0)) rfl ?_
          refine r_gets (θ := θ) hx hb fx.2 hz0.2.2.2.1.1 hAB hS hown (hts _ k1226) dX3_addSpan_75 ?_
          refine lv_iload hx hb dX3_addSpan_78 (lv_at hl 0 rfl) ?_
          refine r_ildz hx hb fx.2 hzH13.2.2.2.1.2.1 (i := 0) (by omega) (by decide) dX3_addSpan_80 ?_
          refine q_as (20000) rfl ?_
          refine q_neg hx hb dX3_addSpan_81 ?_
          refine r_gets (θ := θ) hx hb fx.2 hz0.2.2.2.1.1 hAB hS hown (hts _ k1226) dX3_addSpan_82 ?_
          refine lv_iload hx hb dX3_addSpan_85 (lv_at hl 0 rfl) ?_
          refine r_ildz hx hb fx.2 hzH13.2.2.2.1.2.1 (i := 0) (by omega) (by decide) dX3_addSpan_87 ?_
          refine q_as (20000) rfl ?_
          obtain ⟨r14, hr14⟩ := bex (((sv a.toNat 0) + (sv b.toNat 0)) < (-20000) ∨ 20000 < ((sv a.toNat 0) + (sv b.toNat 0)))
          refine c_P (As := [.int (iI ((sv a.toNat 0) + (sv b.toNat 0))), .int (iI (-20000)), .int (iI 20000)]) (rest := [.int (iI 0)]) fx hl (pm_X3_isOut l ((sv a.toNat 0) + (sv b.toNat 0)) (-20000) 20000 r14 hr14 (by omega) (by omega) (by omega)) dX3_addSpan_88 k1116 k1117 k6 k1118 hd_X3_isOut rfl ⟨by decide, by decide⟩ (Nat.le_of_ble_eq_true rfl) ⟨by dsimp only; omega, by dsimp only; omega⟩ ?_
          have br14 : r14 = 0 ∨ r14 = 1 := hr14.elim (fun h => Or.inr h.1) (fun h => Or.inl h.1)
          refine q_ior hx hb dX3_addSpan_91 (by decide) br14 (fun z15 bz15 hz15 => ?_)
          refine lv_istore (lv' := [(4, .int (iI z15)), (5, .int (iI 0)), (3, .ref H7.size), (0, .ref (w 0)), (1, .int (iI a)), (2, .int (iI b))]) hx hb dX3_addSpan_92 hl (by decide) rfl (fun ls hl => ?_)
          refine lv_iinc (v := iI (1)) (lv' := [(5, .int (iI 1)), (4, .int (iI z15)), (3, .ref H7.size), (0, .ref (w 0)), (1, .int (iI a)), (2, .int (iI b))]) hx hb dX3_addSpan_94 hl (k := 1) rfl rfl (by decide) rfl (fun ls hl => ?_)
          refine lv_goto (tgt := 40) hx hb dX3_addSpan_97 (by decide) ?_
          refine lv_iload hx hb dX3_addSpan_40 (lv_at hl 0 rfl) ?_
          refine q_con hx hb dX3_addSpan_42 ?_
          refine q_cge (tgt := 100) hx hb dX3_addSpan_43 (by decide) (by omega) (by omega) (fun c16 => ?_) (fun c16 => ?_)
          · exact (show False by omega).elim
          · refine lv_aload_n hx hb dX3_addSpan_46 rfl (lv_at hl 2 rfl) ?_
            refine lv_iload hx hb dX3_addSpan_47 (lv_at hl 0 rfl) ?_
            refine lv_aload_n hx hb dX3_addSpan_49 rfl (lv_at hl 3 rfl) ?_
            refine r_get (θ := θ) (C := RX3) (T := TX3) (N := 6) (ci := 9) hx hb hts gwX3 hown hK hmH13.1 rfl 5 (by decide) k1095 (fun _ h => h) (v := .ref (w 2)) rfl dX3_addSpan_50 ?_
            refine lv_iload_n hx hb dX3_addSpan_53 rfl (lv_at hl 4 rfl) ?_
            refine r_aald (θ := θ) hx hb hK hmH13.2.2.1 (i := a) (by omega) (by decide) dX3_addSpan_54 ?_
            have rw17 := (hmH13.2.2.2.2 (a.toNat) (by omega)).1
            have rw17t := hsv (a.toNat) (by omega)
            have rw17l := rw17.lt
            refine lv_iload hx hb dX3_addSpan_55 (lv_at hl 0 rfl) ?_
            refine r_iald (θ := θ) hx hb hK rw17 (i := 1) (by omega) (by decide) dX3_addSpan_57 ?_
            refine q_as ((sv a.toNat) 1) rfl ?_
            refine lv_aload_n hx hb dX3_addSpan_58 rfl (lv_at hl 3 rfl) ?_
            refine r_get (θ := θ) (C := RX3) (T := TX3) (N := 6) (ci := 9) hx hb hts gwX3 hown hK hmH13.1 rfl 5 (by decide) k1095 (fun _ h => h) (v := .ref (w 2)) rfl dX3_addSpan_59 ?_
            refine lv_iload_n hx hb dX3_addSpan_62 rfl (lv_at hl 5 rfl) ?_
            refine r_aald (θ := θ) hx hb hK hmH13.2.2.1 (i := b) (by omega) (by decide) dX3_addSpan_63 ?_
            have rw18 := (hmH13.2.2.2.2 (b.toNat) (by omega)).1
            have rw18t := hsv (b.toNat) (by omega)
            have rw18l := rw18.lt
            refine lv_iload hx hb dX3_addSpan_64 (lv_at hl 0 rfl) ?_
            refine r_iald (θ := θ) hx hb hK rw18 (i := 1) (by omega) (by decide) dX3_addSpan_66 ?_
            refine q_as ((sv b.toNat) 1) rfl ?_
            refine q_add hx hb dX3_addSpan_67 ?_
            refine r_iast (θ := θ) (a := H7.size) hx hb hK haH13 (hAn _ (by omega)) hS (i := 1) (x := (sv a.toNat 1) + (sv b.toNat 1)) (by omega) (by decide) dX3_addSpan_68 (fun H19 locs haH19 hszH19 hkH19 hS => ?_)
            have hzH19 := hz0.at hAB hS
            have hkkH19 : ∀ x : Nat, x < (H7).size → H19[x]? = (H7)[x]? := fun x hx => (hkH19 x (by omega)).trans (hkkH13 x hx)
            have hmH19 := hmH7.kept hkkH19
            refine lv_iload hx hb dX3_addSpan_69 (lv_at hl 1 rfl) ?_
            refine lv_aload_n hx hb dX3_addSpan_71 rfl (lv_at hl 2 rfl) ?_
            refine lv_iload hx hb dX3_addSpan_72 (lv_at hl 0 rfl) ?_
            refine r_iald (θ := θ) hx hb hK haH19 (i := 1) (by omega) (by decide) dX3_addSpan_74 ?_
            refine q_as ((sv a.toNat 1) + (sv b.toNat 1)) rfl ?_
            refine r_gets (θ := θ) hx hb fx.2 hz0.2.2.2.1.1 hAB hS hown (hts _ k1226) dX3_addSpan_75 ?_
            refine lv_iload hx hb dX3_addSpan_78 (lv_at hl 0 rfl) ?_
            refine r_ildz hx hb fx.2 hzH19.2.2.2.1.2.1 (i := 1) (by omega) (by decide) dX3_addSpan_80 ?_
            refine q_as (240000) rfl ?_
            refine q_neg hx hb dX3_addSpan_81 ?_
            refine r_gets (θ := θ) hx hb fx.2 hz0.2.2.2.1.1 hAB hS hown (hts _ k1226) dX3_addSpan_82 ?_
            refine lv_iload hx hb dX3_addSpan_85 (lv_at hl 0 rfl) ?_
            refine r_ildz hx hb fx.2 hzH19.2.2.2.1.2.1 (i := 1) (by omega) (by decide) dX3_addSpan_87 ?_
            refine q_as (240000) rfl ?_
            obtain ⟨r20, hr20⟩ := bex (((sv a.toNat 1) + (sv b.toNat 1)) < (-240000) ∨ 240000 < ((sv a.toNat 1) + (sv b.toNat 1)))
            refine c_P (As := [.int (iI ((sv a.toNat 1) + (sv b.toNat 1))), .int (iI (-240000)), .int (iI 240000)]) (rest := [.int (iI z15)]) fx hl (pm_X3_isOut l ((sv a.toNat 1) + (sv b.toNat 1)) (-240000) 240000 r20 hr20 (by omega) (by omega) (by omega)) dX3_addSpan_88 k1116 k1117 k6 k1118 hd_X3_isOut rfl ⟨by decide, by decide⟩ (Nat.le_of_ble_eq_true rfl) ⟨by dsimp only; omega, by dsimp only; omega⟩ ?_
            have br20 : r20 = 0 ∨ r20 = 1 := hr20.elim (fun h => Or.inr h.1) (fun h => Or.inl h.1)
            refine q_ior hx hb dX3_addSpan_91 bz15 br20 (fun z21 bz21 hz21 => ?_)
            refine lv_istore (lv' := [(4, .int (iI z21)), (5, .int (iI 1)), (3, .ref H7.size), (0, .ref (w 0)), (1, .int (iI a)), (2, .int (iI b))]) hx hb dX3_addSpan_92 hl (by decide) rfl (fun ls hl => ?_)
            refine lv_iinc (v := iI (2)) (lv' := [(5, .int (iI 2)), (4, .int (iI z21)), (3, .ref H7.size), (0, .ref (w 0)), (1, .int (iI a)), (2, .int (iI b))]) hx hb dX3_addSpan_94 hl (k := 1) rfl rfl (by decide) rfl (fun ls hl => ?_)
            refine lv_goto (tgt := 40) hx hb dX3_addSpan_97 (by decide) ?_
            refine lv_iload hx hb dX3_addSpan_40 (lv_at hl 0 rfl) ?_
            refine q_con hx hb dX3_addSpan_42 ?_
            refine q_cge (tgt := 100) hx hb dX3_addSpan_43 (by decide) (by omega) (by omega) (fun c22 => ?_) (fun c22 => ?_)
            · exact (show False by omega).elim
            · refine lv_aload_n hx hb dX3_addSpan_46 rfl (lv_at hl 2 rfl) ?_
              refine lv_iload hx hb dX3_addSpan_47 (lv_at hl 0 rfl) ?_
              refine lv_aload_n hx hb dX3_addSpan_49 rfl (lv_at hl 3 rfl) ?_
              refine r_get (θ := θ) (C := RX3) (T := TX3) (N := 6) (ci := 9) hx hb hts gwX3 hown hK hmH19.1 rfl 5 (by decide) k1095 (fun _ h => h) (v := .ref (w 2)) rfl dX3_addSpan_50 ?_
              refine lv_iload_n hx hb dX3_addSpan_53 rfl (lv_at hl 4 rfl) ?_
              refine r_aald (θ := θ) hx hb hK hmH19.2.2.1 (i := a) (by omega) (by decide) dX3_addSpan_54 ?_
              have rw23 := (hmH19.2.2.2.2 (a.toNat) (by omega)).1
              have rw23t := hsv (a.toNat) (by omega)
              have rw23l := rw23.lt
              refine lv_iload hx hb dX3_addSpan_55 (lv_at hl 0 rfl) ?_
              refine r_iald (θ := θ) hx hb hK rw23 (i := 2) (by omega) (by decide) dX3_addSpan_57 ?_
              refine q_as ((sv a.toNat) 2) rfl ?_
              refine lv_aload_n hx hb dX3_addSpan_58 rfl (lv_at hl 3 rfl) ?_
              refine r_get (θ := θ) (C := RX3) (T := TX3) (N := 6) (ci := 9) hx hb hts gwX3 hown hK hmH19.1 rfl 5 (by decide) k1095 (fun _ h => h) (v := .ref (w 2)) rfl dX3_addSpan_59 ?_
              refine lv_iload_n hx hb dX3_addSpan_62 rfl (lv_at hl 5 rfl) ?_
              refine r_aald (θ := θ) hx hb hK hmH19.2.2.1 (i := b) (by omega) (by decide) dX3_addSpan_63 ?_
              have rw24 := (hmH19.2.2.2.2 (b.toNat) (by omega)).1
              have rw24t := hsv (b.toNat) (by omega)
              have rw24l := rw24.lt
              refine lv_iload hx hb dX3_addSpan_64 (lv_at hl 0 rfl) ?_
              refine r_iald (θ := θ) hx hb hK rw24 (i := 2) (by omega) (by decide) dX3_addSpan_66 ?_
              refine q_as ((sv b.toNat) 2) rfl ?_
              refine q_add hx hb dX3_addSpan_67 ?_
              refine r_iast (θ := θ) (a := H7.size) hx hb hK haH19 (hAn _ (by omega)) hS (i := 2) (x := (sv a.toNat 2) + (sv b.toNat 2)) (by omega) (by decide) dX3_addSpan_68 (fun H25 locs haH25 hszH25 hkH25 hS => ?_)
              have hzH25 := hz0.at hAB hS
              have hkkH25 : ∀ x : Nat, x < (H7).size → H25[x]? = (H7)[x]? := fun x hx => (hkH25 x (by omega)).trans (hkkH19 x hx)
              have hmH25 := hmH7.kept hkkH25
              refine lv_iload hx hb dX3_addSpan_69 (lv_at hl 1 rfl) ?_
              refine lv_aload_n hx hb dX3_addSpan_71 rfl (lv_at hl 2 rfl) ?_
              refine lv_iload hx hb dX3_addSpan_72 (lv_at hl 0 rfl) ?_
              refine r_iald (θ := θ) hx hb hK haH25 (i := 2) (by omega) (by decide) dX3_addSpan_74 ?_
              refine q_as ((sv a.toNat 2) + (sv b.toNat 2)) rfl ?_
              refine r_gets (θ := θ) hx hb fx.2 hz0.2.2.2.1.1 hAB hS hown (hts _ k1226) dX3_addSpan_75 ?_
              refine lv_iload hx hb dX3_addSpan_78 (lv_at hl 0 rfl) ?_
              refine r_ildz hx hb fx.2 hzH25.2.2.2.1.2.1 (i := 2) (by omega) (by decide) dX3_addSpan_80 ?_
              refine q_as (100000) rfl ?_
              refine q_neg hx hb dX3_addSpan_81 ?_
              refine r_gets (θ := θ) hx hb fx.2 hz0.2.2.2.1.1 hAB hS hown (hts _ k1226) dX3_addSpan_82 ?_
              refine lv_iload hx hb dX3_addSpan_85 (lv_at hl 0 rfl) ?_
              refine r_ildz hx hb fx.2 hzH25.2.2.2.1.2.1 (i := 2) (by omega) (by decide) dX3_addSpan_87 ?_
              refine q_as (100000) rfl ?_
              obtain ⟨r26, hr26⟩ := bex (((sv a.toNat 2) + (sv b.toNat 2)) < (-100000) ∨ 100000 < ((sv a.toNat 2) + (sv b.toNat 2)))
              refine c_P (As := [.int (iI ((sv a.toNat 2) + (sv b.toNat 2))), .int (iI (-100000)), .int (iI 100000)]) (rest := [.int (iI z21)]) fx hl (pm_X3_isOut l ((sv a.toNat 2) + (sv b.toNat 2)) (-100000) 100000 r26 hr26 (by omega) (by omega) (by omega)) dX3_addSpan_88 k1116 k1117 k6 k1118 hd_X3_isOut rfl ⟨by decide, by decide⟩ (Nat.le_of_ble_eq_true rfl) ⟨by dsimp only; omega, by dsimp only; omega⟩ ?_
              have br26 : r26 = 0 ∨ r26 = 1 := hr26.elim (fun h => Or.inr h.1) (fun h => Or.inl h.1)
              refine q_ior hx hb dX3_addSpan_91 bz21 br26 (fun z27 bz27 hz27 => ?_)
              refine lv_istore (lv' := [(4, .int (iI z27)), (5, .int (iI 2)), (3, .ref H7.size), (0, .ref (w 0)), (1, .int (iI a)), (2, .int (iI b))]) hx hb dX3_addSpan_92 hl (by decide) rfl (fun ls hl => ?_)
              refine lv_iinc (v := iI (3)) (lv' := [(5, .int (iI 3)), (4, .int (iI z27)), (3, .ref H7.size), (0, .ref (w 0)), (1, .int (iI a)), (2, .int (iI b))]) hx hb dX3_addSpan_94 hl (k := 1) rfl rfl (by decide) rfl (fun ls hl => ?_)
              refine lv_goto (tgt := 40) hx hb dX3_addSpan_97 (by decide) ?_
              refine lv_iload hx hb dX3_addSpan_40 (lv_at hl 0 rfl) ?_
              refine q_con hx hb dX3_addSpan_42 ?_
              refine q_cge (tgt := 100) hx hb dX3_addSpan_43 (by decide) (by omega) (by omega) (fun c28 => ?_) (fun c28 => ?_)
              · refine lv_aload_n hx hb dX3_addSpan_100 rfl (lv_at hl 3 rfl) ?_
                refine q_con hx hb dX3_addSpan_101 ?_
                refine lv_iload hx hb dX3_addSpan_102 (lv_at hl 1 rfl) ?_
                refine q_con hx hb dX3_addSpan_104 ?_
                obtain ⟨t29, f30, hq1t29, hq2t29⟩ := fails_ex 0 z27 0 (by omega) (by omega) (by omega)
                have hmw : MWR θ S0 w H25 r q dt sv t5 dn rf kn := ⟨hzH25, hu, hmH25, hd, hsv⟩
                refine c_M (w := w) (As := [.int (iI 0), .int (iI z27), .int (iI 0)]) (rest := []) (b := w 0) (C := RX3) fx hl (mw_fails θ l S0 _ w _ _ _ _ _ _ _ _ hmw 0 z27 0 t29 f30 (by omega) hq1t29 hq2t29) (ob_recv hK hmH25.1 rfl) dX3_addSpan_105 k1119 k1121 ks10 k6 k1122 hd_X3_fails rfl ⟨by decide, by decide⟩ (Nat.le_of_ble_eq_true rfl) ⟨by dsimp only; omega, by dsimp only; omega⟩ hS (fun x hx => hx ▸ Or.inl (Or.inl rfl)) (fun H31 locs hmH31 hszH31 hk0H31 hS => ?_)
                have hkH31 : ∀ x : Nat, x < (H25).size → ¬ x = w 0 → H31[x]? = (H25)[x]? := hk0H31
                have haH25_H31 := haH25.kept (hkH31 _ haH25.lt (by omega))
                have hzH31 := hz0.at hAB hS
                have hltH31 := hmH31.lt
                refine q_ieq (tgt := 113) hx hb dX3_addSpan_108 (by decide) (by omega) (fun c32 => ?_) (fun c32 => ?_)
                · refine lv_aload_n hx hb dX3_addSpan_113 rfl (lv_at hl 3 rfl) ?_
                  refine r_get (θ := θ) (C := RX3) (T := TX3) (N := 6) (ci := 9) hx hb hts gwX3 hown hK hmH31.1 rfl 5 (by decide) k1095 (fun _ h => h) (v := .ref (w 2)) rfl dX3_addSpan_114 ?_
                  refine lv_iload_n hx hb dX3_addSpan_117 rfl (lv_at hl 4 rfl) ?_
                  refine lv_aload_n hx hb dX3_addSpan_118 rfl (lv_at hl 2 rfl) ?_
                  have tr33 := mk_row3 (x := sv a.toNat 0 + sv b.toNat 0) (y := sv a.toNat 1 + sv b.toNat 1) (z := sv a.toNat 2 + sv b.toNat 2) haH25_H31 (by first | rfl | (subst_vars; rfl) | (simp only [up_s, up]; omega)) (by first | rfl | (subst_vars; rfl) | (simp only [up_s, up]; omega)) (by first | rfl | (subst_vars; rfl) | (simp only [up_s, up]; omega))
                  refine r_aast (θ := θ) (a := (w 2)) hx hb fx.2 hz0 hmH31.2.2.1 tr33 (Or.inl (Or.inr (Or.inr rfl))) hS (i := a) (by omega) (by decide) dX3_addSpan_119 (fun H34 locs haH34 hszH34 hkH34 hS => ?_)
                  have hmH34 : MW θ w H34 r (up q a.toNat H7.size) dt (up sv a.toNat (tri (sv a.toNat 0 + sv b.toNat 0) (sv a.toNat 1 + sv b.toNat 1) (sv a.toNat 2 + sv b.toNat 2))) t29 dn rf kn := hmH31.span hu haH34 tr33 ⟨by omega, by omega, by omega⟩ hkH34
                  have hzH34 := hz0.at hAB hS
                  have tr33_H34 := tr33.kept (hkH34 _ (by omega))
                  refine lv_aload_n hx hb dX3_addSpan_120 rfl (lv_at hl 3 rfl) ?_
                  refine lv_dup hx hb dX3_addSpan_121 rfl ?_
                  refine r_get (θ := θ) (C := RX3) (T := TX3) (N := 6) (ci := 9) hx hb hts gwX3 hown hK hmH34.1 rfl 1 (by decide) k1091 (fun _ h => h) (v := .int (iI dn)) rfl dX3_addSpan_122 ?_
                  refine q_con hx hb dX3_addSpan_125 ?_
                  refine q_add hx hb dX3_addSpan_126 ?_
                  refine r_put (θ := θ) (C := RX3) (T := TX3) (N := 6) (ci := 9) (v := .int (iI (dn + 1))) (ty := .int) hx hb hts gwX3 tyX3 tyX3_ok nmX3 hown hK hmH34.1 (Or.inl (Or.inl rfl)) hS rfl 1 (by decide) k1091 (fun _ h => h) rfl (by decide +kernel) rfl rfl (Nat.le_of_ble_eq_true rfl) dX3_addSpan_127 (fun H35 locs hoH35 hszH35 hkH35 hS => ?_)
                  have hmH35 : MW θ w H35 r (up q a.toNat H7.size) dt (up sv a.toNat (tri (sv a.toNat 0 + sv b.toNat 0) (sv a.toNat 1 + sv b.toNat 1) (sv a.toNat 2 + sv b.toNat 2))) t29 (dn + 1) rf kn := hmH34.obj hu hoH35 hkH35
                  have hzH35 := hz0.at hAB hS
                  have tr33_H35 := tr33_H34.kept (hkH35 _ (by omega))
                  refine lv_aload_n hx hb dX3_addSpan_130 rfl (lv_at hl 2 rfl) ?_
                  refine q_con hx hb dX3_addSpan_131 ?_
                  refine r_iald (θ := θ) hx hb hK tr33_H35 (i := 2) (by omega) (by decide) dX3_addSpan_132 ?_
                  refine q_as ((tri (sv a.toNat 0 + sv b.toNat 0) (sv a.toNat 1 + sv b.toNat 1) (sv a.toNat 2 + sv b.toNat 2)) 2) rfl ?_
                  obtain rfl : t29 = 0 := by omega
                  have hmw : MWR θ S0 w H35 r (up q a.toNat H7.size) dt (up sv a.toNat (tri (sv a.toNat 0 + sv b.toNat 0) (sv a.toNat 1 + sv b.toNat 1) (sv a.toNat 2 + sv b.toNat 2))) 0 (dn + 1) rf kn := ⟨hzH35, hu, hmH35, hd, (svr_up hsv ⟨by omega, by omega, by omega, by omega, by omega, by omega⟩)⟩
                  exact e_i hx hb hr hlk hS dX3_addSpan_133 (Nat.le_of_ble_eq_true rfl) (Nat.le_of_ble_eq_true rfl) ⟨ex_i (by subst_vars; first | omega | (simp only [up_s, tri_0, tri_1, tri_2, inI_self, inI_1, inI_31]; done) | (simp only [up_s, tri_0, tri_1, tri_2, inI_self, inI_1, inI_31]; omega) | (simp only [up_s, tri_0, tri_1, tri_2]; subst_vars; first | rfl | omega)), r, (up q a.toNat H7.size), by first | exact hmw | (subst_vars; exact hmw) | (simp only [inI_self, inI_1, inI_31] at hmw; subst_vars; exact hmw), by first | exact nw_rf | exact nw_up (by omega) | exact nw_up2 (by omega), by first | exact nw_rf | exact nw_up (by omega) | exact nw_up2 (by omega)⟩
                · exact (show False by omega).elim
              · exact (show False by omega).elim
      · exact (show False by omega).elim
    · exact (show False by omega).elim

set_option maxHeartbeats 4000000 in
set_option maxRecDepth 100000 in
theorem mno1_addSpan (θ : TH) (l : Launch) (S0 : State) (H : Heap) (w : Nat → Nat) (r q : Nat → Nat) (dt : Nat → Int) (sv : Nat → Nat → Int) (th dn rf kn : Int) (hw : MWR θ S0 w H r q dt sv th dn rf kn) (a b : Int) (h_0 : -2147483648 ≤ a ∧ a < 2147483648) (h_1 : -2147483648 ≤ b ∧ b < 2147483648) (h_2 : ¬ (0 ≤ a ∧ a < 3)) : CT l yX3_addSpan cX3_addSpan 6 (some .int) 2 42 0 0 [.ref (w 0), .int (iI a), .int (iI b)] S0 H (fun v9 H1 => v9 = some (.int (iI 0)) ∧ ∃ r1 q1 : Nat → Nat, MWR θ S0 w H1 r1 q1 dt sv 1 dn rf kn ∧ NW 6 H.size r r1 ∧ NW 3 H.size q q1) (fun _ _ => False) (WA w H.size) := by
  refine ct_of (by decide +kernel) (Nat.le_of_ble_eq_true rfl) ?_
  intro pg en s mi args below meth co ls fx hs hr hlk hxt hin hl
  subst hs
  obtain ⟨hx, hb, hml, hown, hts⟩ := id fx.1
  have hS : va_S (WA w s.heap.size) s.heap s.heap [] := va_S.rf
  obtain ⟨hz, hu, hm, hd, hsv⟩ := id hw
  have hAB : ∀ x : Nat, (WA w s.heap.size) x → θ.2.2.2 ≤ x := wa_b hu hz.2.1
  have hz0 := hz
  have hK := sz_K fx.2 hz
  have hlt0 := hm.lt
  have hu1 := hu.1
  have hAn : ∀ x : Nat, s.heap.size ≤ x → (WA w s.heap.size) x := fun _ h => Or.inr h
  refine lv_aload_n hx hb dX3_addSpan_0 rfl (lv_at hl 0 rfl) ?_
  refine lv_iload_n hx hb dX3_addSpan_1 rfl (lv_at hl 1 rfl) ?_
  obtain ⟨r1, hr1⟩ := bex (a < 0 ∨ 2 < a)
  refine c_P (As := [.int (iI a)]) (rest := [.ref (w 0)]) fx hl (pm_X3_isNoSpan l a r1 hr1 (by omega)) dX3_addSpan_2 k1207 k1208 k6 k1209 hd_X3_isNoSpan rfl ⟨by decide, by decide⟩ (Nat.le_of_ble_eq_true rfl) ⟨by dsimp only; omega, by dsimp only; omega⟩ ?_
  have br1 : r1 = 0 ∨ r1 = 1 := hr1.elim (fun h => Or.inr h.1) (fun h => Or.inl h.1)
  refine q_ine (tgt := 15) hx hb dX3_addSpan_5 (by decide) (by omega) (fun c2 => ?_) (fun c2 => ?_)
  · refine q_con hx hb dX3_addSpan_15 ?_
    refine lv_goto (tgt := 20) hx hb dX3_addSpan_16 (by decide) ?_
    refine q_con hx hb dX3_addSpan_20 ?_
    refine q_con hx hb dX3_addSpan_21 ?_
    obtain ⟨t3, f4, hq1t3, hq2t3⟩ := fails_ex 1 0 0 (by omega) (by omega) (by omega)
    have hmw : MWR θ S0 w s.heap r q dt sv th dn rf kn := ⟨hz, hu, hm, hd, hsv⟩
    refine c_M (w := w) (As := [.int (iI 1), .int (iI 0), .int (iI 0)]) (rest := []) (b := w 0) (C := RX3) fx hl (mw_fails θ l S0 _ w _ _ _ _ _ _ _ _ hmw 1 0 0 t3 f4 (by omega) hq1t3 hq2t3) (ob_recv hK hm.1 rfl) dX3_addSpan_22 k1119 k1121 ks10 k6 k1122 hd_X3_fails rfl ⟨by decide, by decide⟩ (Nat.le_of_ble_eq_true rfl) ⟨by dsimp only; omega, by dsimp only; omega⟩ hS (fun x hx => hx ▸ Or.inl (Or.inl rfl)) (fun H5 locs hmH5 hszH5 hk0H5 hS => ?_)
    have hkH5 : ∀ x : Nat, x < (s.heap).size → ¬ x = w 0 → H5[x]? = (s.heap)[x]? := hk0H5
    have hzH5 := hz0.at hAB hS
    have hltH5 := hmH5.lt
    refine q_ieq (tgt := 30) hx hb dX3_addSpan_25 (by decide) (by omega) (fun c6 => ?_) (fun c6 => ?_)
    · exact (show False by omega).elim
    · refine q_con hx hb dX3_addSpan_28 ?_
      obtain rfl : t3 = 1 := by omega
      have hmw : MWR θ S0 w H5 r q dt sv 1 dn rf kn := ⟨hzH5, hu, hmH5, hd, hsv⟩
      exact e_i hx hb hr hlk hS dX3_addSpan_29 (Nat.le_of_ble_eq_true rfl) (Nat.le_of_ble_eq_true rfl) ⟨ex_i (by omega), r, q, by first | exact hmw | (subst_vars; exact hmw) | (simp only [inI_self, inI_1, inI_31] at hmw; subst_vars; exact hmw), by first | exact nw_rf | exact nw_up (by omega) | exact nw_up2 (by omega), by first | exact nw_rf | exact nw_up (by omega) | exact nw_up2 (by omega)⟩
  · exact (show False by omega).elim

set_option maxHeartbeats 4000000 in
set_option maxRecDepth 100000 in
theorem mno2_addSpan (θ : TH) (l : Launch) (S0 : State) (H : Heap) (w : Nat → Nat) (r q : Nat → Nat) (dt : Nat → Int) (sv : Nat → Nat → Int) (th dn rf kn : Int) (hw : MWR θ S0 w H r q dt sv th dn rf kn) (a b : Int) (h_0 : -2147483648 ≤ a ∧ a < 2147483648) (h_1 : -2147483648 ≤ b ∧ b < 2147483648) (h_2 : 0 ≤ a ∧ a < 3) (h_3 : ¬ (0 ≤ b ∧ b < 3)) : CT l yX3_addSpan cX3_addSpan 6 (some .int) 2 42 0 0 [.ref (w 0), .int (iI a), .int (iI b)] S0 H (fun v9 H1 => v9 = some (.int (iI 0)) ∧ ∃ r1 q1 : Nat → Nat, MWR θ S0 w H1 r1 q1 dt sv 1 dn rf kn ∧ NW 6 H.size r r1 ∧ NW 3 H.size q q1) (fun _ _ => False) (WA w H.size) := by
  refine ct_of (by decide +kernel) (Nat.le_of_ble_eq_true rfl) ?_
  intro pg en s mi args below meth co ls fx hs hr hlk hxt hin hl
  subst hs
  obtain ⟨hx, hb, hml, hown, hts⟩ := id fx.1
  have hS : va_S (WA w s.heap.size) s.heap s.heap [] := va_S.rf
  obtain ⟨hz, hu, hm, hd, hsv⟩ := id hw
  have hAB : ∀ x : Nat, (WA w s.heap.size) x → θ.2.2.2 ≤ x := wa_b hu hz.2.1
  have hz0 := hz
  have hK := sz_K fx.2 hz
  have hlt0 := hm.lt
  have hu1 := hu.1
  have hAn : ∀ x : Nat, s.heap.size ≤ x → (WA w s.heap.size) x := fun _ h => Or.inr h
  refine lv_aload_n hx hb dX3_addSpan_0 rfl (lv_at hl 0 rfl) ?_
  refine lv_iload_n hx hb dX3_addSpan_1 rfl (lv_at hl 1 rfl) ?_
  obtain ⟨r1, hr1⟩ := bex (a < 0 ∨ 2 < a)
  refine c_P (As := [.int (iI a)]) (rest := [.ref (w 0)]) fx hl (pm_X3_isNoSpan l a r1 hr1 (by omega)) dX3_addSpan_2 k1207 k1208 k6 k1209 hd_X3_isNoSpan rfl ⟨by decide, by decide⟩ (Nat.le_of_ble_eq_true rfl) ⟨by dsimp only; omega, by dsimp only; omega⟩ ?_
  have br1 : r1 = 0 ∨ r1 = 1 := hr1.elim (fun h => Or.inr h.1) (fun h => Or.inl h.1)
  refine q_ine (tgt := 15) hx hb dX3_addSpan_5 (by decide) (by omega) (fun c2 => ?_) (fun c2 => ?_)
  · exact (show False by omega).elim
  · refine lv_iload_n hx hb dX3_addSpan_8 rfl (lv_at hl 2 rfl) ?_
    obtain ⟨r3, hr3⟩ := bex (b < 0 ∨ 2 < b)
    refine c_P (As := [.int (iI b)]) (rest := [.ref (w 0)]) fx hl (pm_X3_isNoSpan l b r3 hr3 (by omega)) dX3_addSpan_9 k1207 k1208 k6 k1209 hd_X3_isNoSpan rfl ⟨by decide, by decide⟩ (Nat.le_of_ble_eq_true rfl) ⟨by dsimp only; omega, by dsimp only; omega⟩ ?_
    have br3 : r3 = 0 ∨ r3 = 1 := hr3.elim (fun h => Or.inr h.1) (fun h => Or.inl h.1)
    refine q_ieq (tgt := 19) hx hb dX3_addSpan_12 (by decide) (by omega) (fun c4 => ?_) (fun c4 => ?_)
    · exact (show False by omega).elim
    · refine q_con hx hb dX3_addSpan_15 ?_
      refine lv_goto (tgt := 20) hx hb dX3_addSpan_16 (by decide) ?_
      refine q_con hx hb dX3_addSpan_20 ?_
      refine q_con hx hb dX3_addSpan_21 ?_
      obtain ⟨t5, f6, hq1t5, hq2t5⟩ := fails_ex 1 0 0 (by omega) (by omega) (by omega)
      have hmw : MWR θ S0 w s.heap r q dt sv th dn rf kn := ⟨hz, hu, hm, hd, hsv⟩
      refine c_M (w := w) (As := [.int (iI 1), .int (iI 0), .int (iI 0)]) (rest := []) (b := w 0) (C := RX3) fx hl (mw_fails θ l S0 _ w _ _ _ _ _ _ _ _ hmw 1 0 0 t5 f6 (by omega) hq1t5 hq2t5) (ob_recv hK hm.1 rfl) dX3_addSpan_22 k1119 k1121 ks10 k6 k1122 hd_X3_fails rfl ⟨by decide, by decide⟩ (Nat.le_of_ble_eq_true rfl) ⟨by dsimp only; omega, by dsimp only; omega⟩ hS (fun x hx => hx ▸ Or.inl (Or.inl rfl)) (fun H7 locs hmH7 hszH7 hk0H7 hS => ?_)
      have hkH7 : ∀ x : Nat, x < (s.heap).size → ¬ x = w 0 → H7[x]? = (s.heap)[x]? := hk0H7
      have hzH7 := hz0.at hAB hS
      have hltH7 := hmH7.lt
      refine q_ieq (tgt := 30) hx hb dX3_addSpan_25 (by decide) (by omega) (fun c8 => ?_) (fun c8 => ?_)
      · exact (show False by omega).elim
      · refine q_con hx hb dX3_addSpan_28 ?_
        obtain rfl : t5 = 1 := by omega
        have hmw : MWR θ S0 w H7 r q dt sv 1 dn rf kn := ⟨hzH7, hu, hmH7, hd, hsv⟩
        exact e_i hx hb hr hlk hS dX3_addSpan_29 (Nat.le_of_ble_eq_true rfl) (Nat.le_of_ble_eq_true rfl) ⟨ex_i (by omega), r, q, by first | exact hmw | (subst_vars; exact hmw) | (simp only [inI_self, inI_1, inI_31] at hmw; subst_vars; exact hmw), by first | exact nw_rf | exact nw_up (by omega) | exact nw_up2 (by omega), by first | exact nw_rf | exact nw_up (by omega) | exact nw_up2 (by omega)⟩

set_option maxHeartbeats 4000000 in
set_option maxRecDepth 100000 in
theorem mno3_addSpan (θ : TH) (l : Launch) (S0 : State) (H : Heap) (w : Nat → Nat) (r q : Nat → Nat) (dt : Nat → Int) (sv : Nat → Nat → Int) (th dn rf kn : Int) (hw : MWR θ S0 w H r q dt sv th dn rf kn) (a b : Int) (h_0 : -2147483648 ≤ a ∧ a < 2147483648) (h_1 : -2147483648 ≤ b ∧ b < 2147483648) (h_2 : 0 ≤ a ∧ a < 3) (h_3 : 0 ≤ b ∧ b < 3) (h_4 : ¬ (-20000 ≤ sv a.toNat 0 + sv b.toNat 0 ∧ sv a.toNat 0 + sv b.toNat 0 ≤ 20000)) : CT l yX3_addSpan cX3_addSpan 6 (some .int) 2 42 1 3 [.ref (w 0), .int (iI a), .int (iI b)] S0 H (fun v9 H1 => v9 = some (.int (iI 0)) ∧ ∃ r1 q1 : Nat → Nat, MWR θ S0 w H1 r1 q1 dt sv 2 dn rf kn ∧ NW 6 H.size r r1 ∧ NW 3 H.size q q1) (fun _ _ => False) (WA w H.size) := by
  refine ct_of (by decide +kernel) (Nat.le_of_ble_eq_true rfl) ?_
  intro pg en s mi args below meth co ls fx hs hr hlk hxt hin hl
  subst hs
  obtain ⟨hx, hb, hml, hown, hts⟩ := id fx.1
  have hS : va_S (WA w s.heap.size) s.heap s.heap [] := va_S.rf
  obtain ⟨hz, hu, hm, hd, hsv⟩ := id hw
  have hAB : ∀ x : Nat, (WA w s.heap.size) x → θ.2.2.2 ≤ x := wa_b hu hz.2.1
  have hz0 := hz
  have hK := sz_K fx.2 hz
  have hlt0 := hm.lt
  have hu1 := hu.1
  have hAn : ∀ x : Nat, s.heap.size ≤ x → (WA w s.heap.size) x := fun _ h => Or.inr h
  refine lv_aload_n hx hb dX3_addSpan_0 rfl (lv_at hl 0 rfl) ?_
  refine lv_iload_n hx hb dX3_addSpan_1 rfl (lv_at hl 1 rfl) ?_
  obtain ⟨r1, hr1⟩ := bex (a < 0 ∨ 2 < a)
  refine c_P (As := [.int (iI a)]) (rest := [.ref (w 0)]) fx hl (pm_X3_isNoSpan l a r1 hr1 (by omega)) dX3_addSpan_2 k1207 k1208 k6 k1209 hd_X3_isNoSpan rfl ⟨by decide, by decide⟩ (Nat.le_of_ble_eq_true rfl) ⟨by dsimp only; omega, by dsimp only; omega⟩ ?_
  have br1 : r1 = 0 ∨ r1 = 1 := hr1.elim (fun h => Or.inr h.1) (fun h => Or.inl h.1)
  refine q_ine (tgt := 15) hx hb dX3_addSpan_5 (by decide) (by omega) (fun c2 => ?_) (fun c2 => ?_)
  · exact (show False by omega).elim
  · refine lv_iload_n hx hb dX3_addSpan_8 rfl (lv_at hl 2 rfl) ?_
    obtain ⟨r3, hr3⟩ := bex (b < 0 ∨ 2 < b)
    refine c_P (As := [.int (iI b)]) (rest := [.ref (w 0)]) fx hl (pm_X3_isNoSpan l b r3 hr3 (by omega)) dX3_addSpan_9 k1207 k1208 k6 k1209 hd_X3_isNoSpan rfl ⟨by decide, by decide⟩ (Nat.le_of_ble_eq_true rfl) ⟨by dsimp only; omega, by dsimp only; omega⟩ ?_
    have br3 : r3 = 0 ∨ r3 = 1 := hr3.elim (fun h => Or.inr h.1) (fun h => Or.inl h.1)
    refine q_ieq (tgt := 19) hx hb dX3_addSpan_12 (by decide) (by omega) (fun c4 => ?_) (fun c4 => ?_)
    · refine q_con hx hb dX3_addSpan_19 ?_
      refine q_con hx hb dX3_addSpan_20 ?_
      refine q_con hx hb dX3_addSpan_21 ?_
      obtain ⟨t5, f6, hq1t5, hq2t5⟩ := fails_ex 0 0 0 (by omega) (by omega) (by omega)
      have hmw : MWR θ S0 w s.heap r q dt sv th dn rf kn := ⟨hz, hu, hm, hd, hsv⟩
      refine c_M (w := w) (As := [.int (iI 0), .int (iI 0), .int (iI 0)]) (rest := []) (b := w 0) (C := RX3) fx hl (mw_fails θ l S0 _ w _ _ _ _ _ _ _ _ hmw 0 0 0 t5 f6 (by omega) hq1t5 hq2t5) (ob_recv hK hm.1 rfl) dX3_addSpan_22 k1119 k1121 ks10 k6 k1122 hd_X3_fails rfl ⟨by decide, by decide⟩ (Nat.le_of_ble_eq_true rfl) ⟨by dsimp only; omega, by dsimp only; omega⟩ hS (fun x hx => hx ▸ Or.inl (Or.inl rfl)) (fun H7 locs hmH7 hszH7 hk0H7 hS => ?_)
      have hkH7 : ∀ x : Nat, x < (s.heap).size → ¬ x = w 0 → H7[x]? = (s.heap)[x]? := hk0H7
      have hzH7 := hz0.at hAB hS
      have hltH7 := hmH7.lt
      refine q_ieq (tgt := 30) hx hb dX3_addSpan_25 (by decide) (by omega) (fun c8 => ?_) (fun c8 => ?_)
      · refine q_con hx hb dX3_addSpan_30 ?_
        refine r_newI (θ := θ) hx hb hts hK k71 hS (by omega) (by dsimp only; omega) (by dsimp only; omega) dX3_addSpan_31 (fun H9 haH9 hszH9 hkH9 hS => ?_)
        have hzH9 := hz0.at hAB hS
        have hkkH9 := hkH9
        have hmH9 := hmH7.kept hkH9
        have hltmH9 := hmH7.lt
        refine lv_astore_n (lv' := [(3, .ref H7.size), (0, .ref (w 0)), (1, .int (iI a)), (2, .int (iI b))]) hx hb dX3_addSpan_33 rfl hl (by decide) rfl (fun ls hl => ?_)
        refine q_con hx hb dX3_addSpan_34 ?_
        refine lv_istore (lv' := [(4, .int (iI 0)), (3, .ref H7.size), (0, .ref (w 0)), (1, .int (iI a)), (2, .int (iI b))]) hx hb dX3_addSpan_35 hl (by decide) rfl (fun ls hl => ?_)
        refine q_con hx hb dX3_addSpan_37 ?_
        refine lv_istore (lv' := [(5, .int (iI 0)), (4, .int (iI 0)), (3, .ref H7.size), (0, .ref (w 0)), (1, .int (iI a)), (2, .int (iI b))]) hx hb dX3_addSpan_38 hl (by decide) rfl (fun ls hl => ?_)
        refine lv_iload hx hb dX3_addSpan_40 (lv_at hl 0 rfl) ?_
        refine q_con hx hb dX3_addSpan_42 ?_
        refine q_cge (tgt := 100) hx hb dX3_addSpan_43 (by decide) (by omega) (by omega) (fun c10 => ?_) (fun c10 => ?_)
        · exact (show False by omega).elim
        · refine lv_aload_n hx hb dX3_addSpan_46 rfl (lv_at hl 2 rfl) ?_
          refine lv_iload hx hb dX3_addSpan_47 (lv_at hl 0 rfl) ?_
          refine lv_aload_n hx hb dX3_addSpan_49 rfl (lv_at hl 3 rfl) ?_
          refine r_get (θ := θ) (C := RX3) (T := TX3) (N := 6) (ci := 9) hx hb hts gwX3 hown hK hmH9.1 rfl 5 (by decide) k1095 (fun _ h => h) (v := .ref (w 2)) rfl dX3_addSpan_50 ?_
          refine lv_iload_n hx hb dX3_addSpan_53 rfl (lv_at hl 4 rfl) ?_
          refine r_aald (θ := θ) hx hb hK hmH9.2.2.1 (i := a) (by omega) (by decide) dX3_addSpan_54 ?_
          have rw11 := (hmH9.2.2.2.2 (a.toNat) (by omega)).1
          have rw11t := hsv (a.toNat) (by omega)
          have rw11l := rw11.lt
          refine lv_iload hx hb dX3_addSpan_55 (lv_at hl 0 rfl) ?_
          refine r_iald (θ := θ) hx hb hK rw11 (i := 0) (by omega) (by decide) dX3_addSpan_57 ?_
          refine q_as ((sv a.toNat) 0) rfl ?_
          refine lv_aload_n hx hb dX3_addSpan_58 rfl (lv_at hl 3 rfl) ?_
          refine r_get (θ := θ) (C := RX3) (T := TX3) (N := 6) (ci := 9) hx hb hts gwX3 hown hK hmH9.1 rfl 5 (by decide) k1095 (fun _ h => h) (v := .ref (w 2)) rfl dX3_addSpan_59 ?_
          refine lv_iload_n hx hb dX3_addSpan_62 rfl (lv_at hl 5 rfl) ?_
          refine r_aald (θ := θ) hx hb hK hmH9.2.2.1 (i := b) (by omega) (by decide) dX3_addSpan_63 ?_
          have rw12 := (hmH9.2.2.2.2 (b.toNat) (by omega)).1
          have rw12t := hsv (b.toNat) (by omega)
          have rw12l := rw12.lt
          refine lv_iload hx hb dX3_addSpan_64 (lv_at hl 0 rfl) ?_
          refine r_iald (θ := θ) hx hb hK rw12 (i := 0) (by omega) (by decide) dX3_addSpan_66 ?_
          refine q_as ((sv b.toNat) 0) rfl ?_
          refine q_add hx hb dX3_addSpan_67 ?_
          refine r_iast (θ := θ) (a := H7.size) hx hb hK haH9 (hAn _ (by omega)) hS (i := 0) (x := (sv a.toNat 0) + (sv b.toNat 0)) (by omega) (by decide) dX3_addSpan_68 (fun H13 locs haH13 hszH13 hkH13 hS => ?_)
          have hzH13 := hz0.at hAB hS
          have hkkH13 : ∀ x : Nat, x < (H7).size → H13[x]? = (H7)[x]? := fun x hx => (hkH13 x (by omega)).trans (hkkH9 x hx)
          have hmH13 := hmH7.kept hkkH13
          refine lv_iload hx hb dX3_addSpan_69 (lv_at hl 1 rfl) ?_
          refine lv_aload_n hx hb dX3_addSpan_71 rfl (lv_at hl 2 rfl) ?_
          refine lv_iload hx hb dX3_addSpan_72 (lv_at hl 0 rfl) ?_
          refine r_iald (θ := θ) hx hb hK haH13 (i := 0) (by omega) (by decide) dX3_addSpan_74 ?_
          refine q_as ((sv a.toNat 0) + (sv b.toNat 0)) rfl ?_
          refine r_gets (θ := θ) hx hb fx.2 hz0.2.2.2.1.1 hAB hS hown (hts _ k1226) dX3_addSpan_75 ?_
          refine lv_iload hx hb dX3_addSpan_78 (lv_at hl 0 rfl) ?_
          refine r_ildz hx hb fx.2 hzH13.2.2.2.1.2.1 (i := 0) (by omega) (by decide) dX3_addSpan_80 ?_
          refine q_as (20000) rfl ?_
          refine q_neg hx hb dX3_addSpan_81 ?_
          refine r_gets (θ := θ) hx hb fx.2 hz0.2.2.2.1.1 hAB hS hown (hts _ k1226) dX3_addSpan_82 ?_
          refine lv_iload hx hb dX3_addSpan_85 (lv_at hl 0 rfl) ?_
          refine r_ildz hx hb fx.2 hzH13.2.2.2.1.2.1 (i := 0) (by omega) (by decide) dX3_addSpan_87 ?_
          refine q_as (20000) rfl ?_
          obtain ⟨r14, hr14⟩ := bex (((sv a.toNat 0) + (sv b.toNat 0)) < (-20000) ∨ 20000 < ((sv a.toNat 0) + (sv b.toNat 0)))
          refine c_P (As := [.int (iI ((sv a.toNat 0) + (sv b.toNat 0))), .int (iI (-20000)), .int (iI 20000)]) (rest := [.int (iI 0)]) fx hl (pm_X3_isOut l ((sv a.toNat 0) + (sv b.toNat 0)) (-20000) 20000 r14 hr14 (by omega) (by omega) (by omega)) dX3_addSpan_88 k1116 k1117 k6 k1118 hd_X3_isOut rfl ⟨by decide, by decide⟩ (Nat.le_of_ble_eq_true rfl) ⟨by dsimp only; omega, by dsimp only; omega⟩ ?_
          have br14 : r14 = 0 ∨ r14 = 1 := hr14.elim (fun h => Or.inr h.1) (fun h => Or.inl h.1)
          refine q_ior hx hb dX3_addSpan_91 (by decide) br14 (fun z15 bz15 hz15 => ?_)
          refine lv_istore (lv' := [(4, .int (iI z15)), (5, .int (iI 0)), (3, .ref H7.size), (0, .ref (w 0)), (1, .int (iI a)), (2, .int (iI b))]) hx hb dX3_addSpan_92 hl (by decide) rfl (fun ls hl => ?_)
          refine lv_iinc (v := iI (1)) (lv' := [(5, .int (iI 1)), (4, .int (iI z15)), (3, .ref H7.size), (0, .ref (w 0)), (1, .int (iI a)), (2, .int (iI b))]) hx hb dX3_addSpan_94 hl (k := 1) rfl rfl (by decide) rfl (fun ls hl => ?_)
          refine lv_goto (tgt := 40) hx hb dX3_addSpan_97 (by decide) ?_
          refine lv_iload hx hb dX3_addSpan_40 (lv_at hl 0 rfl) ?_
          refine q_con hx hb dX3_addSpan_42 ?_
          refine q_cge (tgt := 100) hx hb dX3_addSpan_43 (by decide) (by omega) (by omega) (fun c16 => ?_) (fun c16 => ?_)
          · exact (show False by omega).elim
          · refine lv_aload_n hx hb dX3_addSpan_46 rfl (lv_at hl 2 rfl) ?_
            refine lv_iload hx hb dX3_addSpan_47 (lv_at hl 0 rfl) ?_
            refine lv_aload_n hx hb dX3_addSpan_49 rfl (lv_at hl 3 rfl) ?_
            refine r_get (θ := θ) (C := RX3) (T := TX3) (N := 6) (ci := 9) hx hb hts gwX3 hown hK hmH13.1 rfl 5 (by decide) k1095 (fun _ h => h) (v := .ref (w 2)) rfl dX3_addSpan_50 ?_
            refine lv_iload_n hx hb dX3_addSpan_53 rfl (lv_at hl 4 rfl) ?_
            refine r_aald (θ := θ) hx hb hK hmH13.2.2.1 (i := a) (by omega) (by decide) dX3_addSpan_54 ?_
            have rw17 := (hmH13.2.2.2.2 (a.toNat) (by omega)).1
            have rw17t := hsv (a.toNat) (by omega)
            have rw17l := rw17.lt
            refine lv_iload hx hb dX3_addSpan_55 (lv_at hl 0 rfl) ?_
            refine r_iald (θ := θ) hx hb hK rw17 (i := 1) (by omega) (by decide) dX3_addSpan_57 ?_
            refine q_as ((sv a.toNat) 1) rfl ?_
            refine lv_aload_n hx hb dX3_addSpan_58 rfl (lv_at hl 3 rfl) ?_
            refine r_get (θ := θ) (C := RX3) (T := TX3) (N := 6) (ci := 9) hx hb hts gwX3 hown hK hmH13.1 rfl 5 (by decide) k1095 (fun _ h => h) (v := .ref (w 2)) rfl dX3_addSpan_59 ?_
            refine lv_iload_n hx hb dX3_addSpan_62 rfl (lv_at hl 5 rfl) ?_
            refine r_aald (θ := θ) hx hb hK hmH13.2.2.1 (i := b) (by omega) (by decide) dX3_addSpan_63 ?_
            have rw18 := (hmH13.2.2.2.2 (b.toNat) (by omega)).1
            have rw18t := hsv (b.toNat) (by omega)
            have rw18l := rw18.lt
            refine lv_iload hx hb dX3_addSpan_64 (lv_at hl 0 rfl) ?_
            refine r_iald (θ := θ) hx hb hK rw18 (i := 1) (by omega) (by decide) dX3_addSpan_66 ?_
            refine q_as ((sv b.toNat) 1) rfl ?_
            refine q_add hx hb dX3_addSpan_67 ?_
            refine r_iast (θ := θ) (a := H7.size) hx hb hK haH13 (hAn _ (by omega)) hS (i := 1) (x := (sv a.toNat 1) + (sv b.toNat 1)) (by omega) (by decide) dX3_addSpan_68 (fun H19 locs haH19 hszH19 hkH19 hS => ?_)
            have hzH19 := hz0.at hAB hS
            have hkkH19 : ∀ x : Nat, x < (H7).size → H19[x]? = (H7)[x]? := fun x hx => (hkH19 x (by omega)).trans (hkkH13 x hx)
            have hmH19 := hmH7.kept hkkH19
            refine lv_iload hx hb dX3_addSpan_69 (lv_at hl 1 rfl) ?_
            refine lv_aload_n hx hb dX3_addSpan_71 rfl (lv_at hl 2 rfl) ?_
            refine lv_iload hx hb dX3_addSpan_72 (lv_at hl 0 rfl) ?_
            refine r_iald (θ := θ) hx hb hK haH19 (i := 1) (by omega) (by decide) dX3_addSpan_74 ?_
            refine q_as ((sv a.toNat 1) + (sv b.toNat 1)) rfl ?_
            refine r_gets (θ := θ) hx hb fx.2 hz0.2.2.2.1.1 hAB hS hown (hts _ k1226) dX3_addSpan_75 ?_
            refine lv_iload hx hb dX3_addSpan_78 (lv_at hl 0 rfl) ?_
            refine r_ildz hx hb fx.2 hzH19.2.2.2.1.2.1 (i := 1) (by omega) (by decide) dX3_addSpan_80 ?_
            refine q_as (240000) rfl ?_
            refine q_neg hx hb dX3_addSpan_81 ?_
            refine r_gets (θ := θ) hx hb fx.2 hz0.2.2.2.1.1 hAB hS hown (hts _ k1226) dX3_addSpan_82 ?_
            refine lv_iload hx hb dX3_addSpan_85 (lv_at hl 0 rfl) ?_
            refine r_ildz hx hb fx.2 hzH19.2.2.2.1.2.1 (i := 1) (by omega) (by decide) dX3_addSpan_87 ?_
            refine q_as (240000) rfl ?_
            obtain ⟨r20, hr20⟩ := bex (((sv a.toNat 1) + (sv b.toNat 1)) < (-240000) ∨ 240000 < ((sv a.toNat 1) + (sv b.toNat 1)))
            refine c_P (As := [.int (iI ((sv a.toNat 1) + (sv b.toNat 1))), .int (iI (-240000)), .int (iI 240000)]) (rest := [.int (iI z15)]) fx hl (pm_X3_isOut l ((sv a.toNat 1) + (sv b.toNat 1)) (-240000) 240000 r20 hr20 (by omega) (by omega) (by omega)) dX3_addSpan_88 k1116 k1117 k6 k1118 hd_X3_isOut rfl ⟨by decide, by decide⟩ (Nat.le_of_ble_eq_true rfl) ⟨by dsimp only; omega, by dsimp only; omega⟩ ?_
            have br20 : r20 = 0 ∨ r20 = 1 := hr20.elim (fun h => Or.inr h.1) (fun h => Or.inl h.1)
            refine q_ior hx hb dX3_addSpan_91 bz15 br20 (fun z21 bz21 hz21 => ?_)
            refine lv_istore (lv' := [(4, .int (iI z21)), (5, .int (iI 1)), (3, .ref H7.size), (0, .ref (w 0)), (1, .int (iI a)), (2, .int (iI b))]) hx hb dX3_addSpan_92 hl (by decide) rfl (fun ls hl => ?_)
            refine lv_iinc (v := iI (2)) (lv' := [(5, .int (iI 2)), (4, .int (iI z21)), (3, .ref H7.size), (0, .ref (w 0)), (1, .int (iI a)), (2, .int (iI b))]) hx hb dX3_addSpan_94 hl (k := 1) rfl rfl (by decide) rfl (fun ls hl => ?_)
            refine lv_goto (tgt := 40) hx hb dX3_addSpan_97 (by decide) ?_
            refine lv_iload hx hb dX3_addSpan_40 (lv_at hl 0 rfl) ?_
            refine q_con hx hb dX3_addSpan_42 ?_
            refine q_cge (tgt := 100) hx hb dX3_addSpan_43 (by decide) (by omega) (by omega) (fun c22 => ?_) (fun c22 => ?_)
            · exact (show False by omega).elim
            · refine lv_aload_n hx hb dX3_addSpan_46 rfl (lv_at hl 2 rfl) ?_
              refine lv_iload hx hb dX3_addSpan_47 (lv_at hl 0 rfl) ?_
              refine lv_aload_n hx hb dX3_addSpan_49 rfl (lv_at hl 3 rfl) ?_
              refine r_get (θ := θ) (C := RX3) (T := TX3) (N := 6) (ci := 9) hx hb hts gwX3 hown hK hmH19.1 rfl 5 (by decide) k1095 (fun _ h => h) (v := .ref (w 2)) rfl dX3_addSpan_50 ?_
              refine lv_iload_n hx hb dX3_addSpan_53 rfl (lv_at hl 4 rfl) ?_
              refine r_aald (θ := θ) hx hb hK hmH19.2.2.1 (i := a) (by omega) (by decide) dX3_addSpan_54 ?_
              have rw23 := (hmH19.2.2.2.2 (a.toNat) (by omega)).1
              have rw23t := hsv (a.toNat) (by omega)
              have rw23l := rw23.lt
              refine lv_iload hx hb dX3_addSpan_55 (lv_at hl 0 rfl) ?_
              refine r_iald (θ := θ) hx hb hK rw23 (i := 2) (by omega) (by decide) dX3_addSpan_57 ?_
              refine q_as ((sv a.toNat) 2) rfl ?_
              refine lv_aload_n hx hb dX3_addSpan_58 rfl (lv_at hl 3 rfl) ?_
              refine r_get (θ := θ) (C := RX3) (T := TX3) (N := 6) (ci := 9) hx hb hts gwX3 hown hK hmH19.1 rfl 5 (by decide) k1095 (fun _ h => h) (v := .ref (w 2)) rfl dX3_addSpan_59 ?_
              refine lv_iload_n hx hb dX3_addSpan_62 rfl (lv_at hl 5 rfl) ?_
              refine r_aald (θ := θ) hx hb hK hmH19.2.2.1 (i := b) (by omega) (by decide) dX3_addSpan_63 ?_
              have rw24 := (hmH19.2.2.2.2 (b.toNat) (by omega)).1
              have rw24t := hsv (b.toNat) (by omega)
              have rw24l := rw24.lt
              refine lv_iload hx hb dX3_addSpan_64 (lv_at hl 0 rfl) ?_
              refine r_iald (θ := θ) hx hb hK rw24 (i := 2) (by omega) (by decide) dX3_addSpan_66 ?_
              refine q_as ((sv b.toNat) 2) rfl ?_
              refine q_add hx hb dX3_addSpan_67 ?_
              refine r_iast (θ := θ) (a := H7.size) hx hb hK haH19 (hAn _ (by omega)) hS (i := 2) (x := (sv a.toNat 2) + (sv b.toNat 2)) (by omega) (by decide) dX3_addSpan_68 (fun H25 locs haH25 hszH25 hkH25 hS => ?_)
              have hzH25 := hz0.at hAB hS
              have hkkH25 : ∀ x : Nat, x < (H7).size → H25[x]? = (H7)[x]? := fun x hx => (hkH25 x (by omega)).trans (hkkH19 x hx)
              have hmH25 := hmH7.kept hkkH25
              refine lv_iload hx hb dX3_addSpan_69 (lv_at hl 1 rfl) ?_
              refine lv_aload_n hx hb dX3_addSpan_71 rfl (lv_at hl 2 rfl) ?_
              refine lv_iload hx hb dX3_addSpan_72 (lv_at hl 0 rfl) ?_
              refine r_iald (θ := θ) hx hb hK haH25 (i := 2) (by omega) (by decide) dX3_addSpan_74 ?_
              refine q_as ((sv a.toNat 2) + (sv b.toNat 2)) rfl ?_
              refine r_gets (θ := θ) hx hb fx.2 hz0.2.2.2.1.1 hAB hS hown (hts _ k1226) dX3_addSpan_75 ?_
              refine lv_iload hx hb dX3_addSpan_78 (lv_at hl 0 rfl) ?_
              refine r_ildz hx hb fx.2 hzH25.2.2.2.1.2.1 (i := 2) (by omega) (by decide) dX3_addSpan_80 ?_
              refine q_as (100000) rfl ?_
              refine q_neg hx hb dX3_addSpan_81 ?_
              refine r_gets (θ := θ) hx hb fx.2 hz0.2.2.2.1.1 hAB hS hown (hts _ k1226) dX3_addSpan_82 ?_
              refine lv_iload hx hb dX3_addSpan_85 (lv_at hl 0 rfl) ?_
              refine r_ildz hx hb fx.2 hzH25.2.2.2.1.2.1 (i := 2) (by omega) (by decide) dX3_addSpan_87 ?_
              refine q_as (100000) rfl ?_
              obtain ⟨r26, hr26⟩ := bex (((sv a.toNat 2) + (sv b.toNat 2)) < (-100000) ∨ 100000 < ((sv a.toNat 2) + (sv b.toNat 2)))
              refine c_P (As := [.int (iI ((sv a.toNat 2) + (sv b.toNat 2))), .int (iI (-100000)), .int (iI 100000)]) (rest := [.int (iI z21)]) fx hl (pm_X3_isOut l ((sv a.toNat 2) + (sv b.toNat 2)) (-100000) 100000 r26 hr26 (by omega) (by omega) (by omega)) dX3_addSpan_88 k1116 k1117 k6 k1118 hd_X3_isOut rfl ⟨by decide, by decide⟩ (Nat.le_of_ble_eq_true rfl) ⟨by dsimp only; omega, by dsimp only; omega⟩ ?_
              have br26 : r26 = 0 ∨ r26 = 1 := hr26.elim (fun h => Or.inr h.1) (fun h => Or.inl h.1)
              refine q_ior hx hb dX3_addSpan_91 bz21 br26 (fun z27 bz27 hz27 => ?_)
              refine lv_istore (lv' := [(4, .int (iI z27)), (5, .int (iI 2)), (3, .ref H7.size), (0, .ref (w 0)), (1, .int (iI a)), (2, .int (iI b))]) hx hb dX3_addSpan_92 hl (by decide) rfl (fun ls hl => ?_)
              refine lv_iinc (v := iI (3)) (lv' := [(5, .int (iI 3)), (4, .int (iI z27)), (3, .ref H7.size), (0, .ref (w 0)), (1, .int (iI a)), (2, .int (iI b))]) hx hb dX3_addSpan_94 hl (k := 1) rfl rfl (by decide) rfl (fun ls hl => ?_)
              refine lv_goto (tgt := 40) hx hb dX3_addSpan_97 (by decide) ?_
              refine lv_iload hx hb dX3_addSpan_40 (lv_at hl 0 rfl) ?_
              refine q_con hx hb dX3_addSpan_42 ?_
              refine q_cge (tgt := 100) hx hb dX3_addSpan_43 (by decide) (by omega) (by omega) (fun c28 => ?_) (fun c28 => ?_)
              · refine lv_aload_n hx hb dX3_addSpan_100 rfl (lv_at hl 3 rfl) ?_
                refine q_con hx hb dX3_addSpan_101 ?_
                refine lv_iload hx hb dX3_addSpan_102 (lv_at hl 1 rfl) ?_
                refine q_con hx hb dX3_addSpan_104 ?_
                obtain ⟨t29, f30, hq1t29, hq2t29⟩ := fails_ex 0 z27 0 (by omega) (by omega) (by omega)
                have hmw : MWR θ S0 w H25 r q dt sv t5 dn rf kn := ⟨hzH25, hu, hmH25, hd, hsv⟩
                refine c_M (w := w) (As := [.int (iI 0), .int (iI z27), .int (iI 0)]) (rest := []) (b := w 0) (C := RX3) fx hl (mw_fails θ l S0 _ w _ _ _ _ _ _ _ _ hmw 0 z27 0 t29 f30 (by omega) hq1t29 hq2t29) (ob_recv hK hmH25.1 rfl) dX3_addSpan_105 k1119 k1121 ks10 k6 k1122 hd_X3_fails rfl ⟨by decide, by decide⟩ (Nat.le_of_ble_eq_true rfl) ⟨by dsimp only; omega, by dsimp only; omega⟩ hS (fun x hx => hx ▸ Or.inl (Or.inl rfl)) (fun H31 locs hmH31 hszH31 hk0H31 hS => ?_)
                have hkH31 : ∀ x : Nat, x < (H25).size → ¬ x = w 0 → H31[x]? = (H25)[x]? := hk0H31
                have haH25_H31 := haH25.kept (hkH31 _ haH25.lt (by omega))
                have hzH31 := hz0.at hAB hS
                have hltH31 := hmH31.lt
                refine q_ieq (tgt := 113) hx hb dX3_addSpan_108 (by decide) (by omega) (fun c32 => ?_) (fun c32 => ?_)
                · exact (show False by omega).elim
                · refine q_con hx hb dX3_addSpan_111 ?_
                  obtain rfl : t29 = 2 := by omega
                  have hmw : MWR θ S0 w H31 r q dt sv 2 dn rf kn := ⟨hzH31, hu, hmH31, hd, hsv⟩
                  exact e_i hx hb hr hlk hS dX3_addSpan_112 (Nat.le_of_ble_eq_true rfl) (Nat.le_of_ble_eq_true rfl) ⟨ex_i (by omega), r, q, by first | exact hmw | (subst_vars; exact hmw) | (simp only [inI_self, inI_1, inI_31] at hmw; subst_vars; exact hmw), by first | exact nw_rf | exact nw_up (by omega) | exact nw_up2 (by omega), by first | exact nw_rf | exact nw_up (by omega) | exact nw_up2 (by omega)⟩
              · exact (show False by omega).elim
      · exact (show False by omega).elim
    · exact (show False by omega).elim

set_option maxHeartbeats 4000000 in
set_option maxRecDepth 100000 in
theorem mno4_addSpan (θ : TH) (l : Launch) (S0 : State) (H : Heap) (w : Nat → Nat) (r q : Nat → Nat) (dt : Nat → Int) (sv : Nat → Nat → Int) (th dn rf kn : Int) (hw : MWR θ S0 w H r q dt sv th dn rf kn) (a b : Int) (h_0 : -2147483648 ≤ a ∧ a < 2147483648) (h_1 : -2147483648 ≤ b ∧ b < 2147483648) (h_2 : 0 ≤ a ∧ a < 3) (h_3 : 0 ≤ b ∧ b < 3) (h_4 : -20000 ≤ sv a.toNat 0 + sv b.toNat 0 ∧ sv a.toNat 0 + sv b.toNat 0 ≤ 20000) (h_5 : ¬ (-240000 ≤ sv a.toNat 1 + sv b.toNat 1 ∧ sv a.toNat 1 + sv b.toNat 1 ≤ 240000)) : CT l yX3_addSpan cX3_addSpan 6 (some .int) 2 42 1 3 [.ref (w 0), .int (iI a), .int (iI b)] S0 H (fun v9 H1 => v9 = some (.int (iI 0)) ∧ ∃ r1 q1 : Nat → Nat, MWR θ S0 w H1 r1 q1 dt sv 2 dn rf kn ∧ NW 6 H.size r r1 ∧ NW 3 H.size q q1) (fun _ _ => False) (WA w H.size) := by
  refine ct_of (by decide +kernel) (Nat.le_of_ble_eq_true rfl) ?_
  intro pg en s mi args below meth co ls fx hs hr hlk hxt hin hl
  subst hs
  obtain ⟨hx, hb, hml, hown, hts⟩ := id fx.1
  have hS : va_S (WA w s.heap.size) s.heap s.heap [] := va_S.rf
  obtain ⟨hz, hu, hm, hd, hsv⟩ := id hw
  have hAB : ∀ x : Nat, (WA w s.heap.size) x → θ.2.2.2 ≤ x := wa_b hu hz.2.1
  have hz0 := hz
  have hK := sz_K fx.2 hz
  have hlt0 := hm.lt
  have hu1 := hu.1
  have hAn : ∀ x : Nat, s.heap.size ≤ x → (WA w s.heap.size) x := fun _ h => Or.inr h
  refine lv_aload_n hx hb dX3_addSpan_0 rfl (lv_at hl 0 rfl) ?_
  refine lv_iload_n hx hb dX3_addSpan_1 rfl (lv_at hl 1 rfl) ?_
  obtain ⟨r1, hr1⟩ := bex (a < 0 ∨ 2 < a)
  refine c_P (As := [.int (iI a)]) (rest := [.ref (w 0)]) fx hl (pm_X3_isNoSpan l a r1 hr1 (by omega)) dX3_addSpan_2 k1207 k1208 k6 k1209 hd_X3_isNoSpan rfl ⟨by decide, by decide⟩ (Nat.le_of_ble_eq_true rfl) ⟨by dsimp only; omega, by dsimp only; omega⟩ ?_
  have br1 : r1 = 0 ∨ r1 = 1 := hr1.elim (fun h => Or.inr h.1) (fun h => Or.inl h.1)
  refine q_ine (tgt := 15) hx hb dX3_addSpan_5 (by decide) (by omega) (fun c2 => ?_) (fun c2 => ?_)
  · exact (show False by omega).elim
  · refine lv_iload_n hx hb dX3_addSpan_8 rfl (lv_at hl 2 rfl) ?_
    obtain ⟨r3, hr3⟩ := bex (b < 0 ∨ 2 < b)
    refine c_P (As := [.int (iI b)]) (rest := [.ref (w 0)]) fx hl (pm_X3_isNoSpan l b r3 hr3 (by omega)) dX3_addSpan_9 k1207 k1208 k6 k1209 hd_X3_isNoSpan rfl ⟨by decide, by decide⟩ (Nat.le_of_ble_eq_true rfl) ⟨by dsimp only; omega, by dsimp only; omega⟩ ?_
    have br3 : r3 = 0 ∨ r3 = 1 := hr3.elim (fun h => Or.inr h.1) (fun h => Or.inl h.1)
    refine q_ieq (tgt := 19) hx hb dX3_addSpan_12 (by decide) (by omega) (fun c4 => ?_) (fun c4 => ?_)
    · refine q_con hx hb dX3_addSpan_19 ?_
      refine q_con hx hb dX3_addSpan_20 ?_
      refine q_con hx hb dX3_addSpan_21 ?_
      obtain ⟨t5, f6, hq1t5, hq2t5⟩ := fails_ex 0 0 0 (by omega) (by omega) (by omega)
      have hmw : MWR θ S0 w s.heap r q dt sv th dn rf kn := ⟨hz, hu, hm, hd, hsv⟩
      refine c_M (w := w) (As := [.int (iI 0), .int (iI 0), .int (iI 0)]) (rest := []) (b := w 0) (C := RX3) fx hl (mw_fails θ l S0 _ w _ _ _ _ _ _ _ _ hmw 0 0 0 t5 f6 (by omega) hq1t5 hq2t5) (ob_recv hK hm.1 rfl) dX3_addSpan_22 k1119 k1121 ks10 k6 k1122 hd_X3_fails rfl ⟨by decide, by decide⟩ (Nat.le_of_ble_eq_true rfl) ⟨by dsimp only; omega, by dsimp only; omega⟩ hS (fun x hx => hx ▸ Or.inl (Or.inl rfl)) (fun H7 locs hmH7 hszH7 hk0H7 hS => ?_)
      have hkH7 : ∀ x : Nat, x < (s.heap).size → ¬ x = w 0 → H7[x]? = (s.heap)[x]? := hk0H7
      have hzH7 := hz0.at hAB hS
      have hltH7 := hmH7.lt
      refine q_ieq (tgt := 30) hx hb dX3_addSpan_25 (by decide) (by omega) (fun c8 => ?_) (fun c8 => ?_)
      · refine q_con hx hb dX3_addSpan_30 ?_
        refine r_newI (θ := θ) hx hb hts hK k71 hS (by omega) (by dsimp only; omega) (by dsimp only; omega) dX3_addSpan_31 (fun H9 haH9 hszH9 hkH9 hS => ?_)
        have hzH9 := hz0.at hAB hS
        have hkkH9 := hkH9
        have hmH9 := hmH7.kept hkH9
        have hltmH9 := hmH7.lt
        refine lv_astore_n (lv' := [(3, .ref H7.size), (0, .ref (w 0)), (1, .int (iI a)), (2, .int (iI b))]) hx hb dX3_addSpan_33 rfl hl (by decide) rfl (fun ls hl => ?_)
        refine q_con hx hb dX3_addSpan_34 ?_
        refine lv_istore (lv' := [(4, .int (iI 0)), (3, .ref H7.size), (0, .ref (w 0)), (1, .int (iI a)), (2, .int (iI b))]) hx hb dX3_addSpan_35 hl (by decide) rfl (fun ls hl => ?_)
        refine q_con hx hb dX3_addSpan_37 ?_
        refine lv_istore (lv' := [(5, .int (iI 0)), (4, .int (iI 0)), (3, .ref H7.size), (0, .ref (w 0)), (1, .int (iI a)), (2, .int (iI b))]) hx hb dX3_addSpan_38 hl (by decide) rfl (fun ls hl => ?_)
        refine lv_iload hx hb dX3_addSpan_40 (lv_at hl 0 rfl) ?_
        refine q_con hx hb dX3_addSpan_42 ?_
        refine q_cge (tgt := 100) hx hb dX3_addSpan_43 (by decide) (by omega) (by omega) (fun c10 => ?_) (fun c10 => ?_)
        · exact (show False by omega).elim
        · refine lv_aload_n hx hb dX3_addSpan_46 rfl (lv_at hl 2 rfl) ?_
          refine lv_iload hx hb dX3_addSpan_47 (lv_at hl 0 rfl) ?_
          refine lv_aload_n hx hb dX3_addSpan_49 rfl (lv_at hl 3 rfl) ?_
          refine r_get (θ := θ) (C := RX3) (T := TX3) (N := 6) (ci := 9) hx hb hts gwX3 hown hK hmH9.1 rfl 5 (by decide) k1095 (fun _ h => h) (v := .ref (w 2)) rfl dX3_addSpan_50 ?_
          refine lv_iload_n hx hb dX3_addSpan_53 rfl (lv_at hl 4 rfl) ?_
          refine r_aald (θ := θ) hx hb hK hmH9.2.2.1 (i := a) (by omega) (by decide) dX3_addSpan_54 ?_
          have rw11 := (hmH9.2.2.2.2 (a.toNat) (by omega)).1
          have rw11t := hsv (a.toNat) (by omega)
          have rw11l := rw11.lt
          refine lv_iload hx hb dX3_addSpan_55 (lv_at hl 0 rfl) ?_
          refine r_iald (θ := θ) hx hb hK rw11 (i := 0) (by omega) (by decide) dX3_addSpan_57 ?_
          refine q_as ((sv a.toNat) 0) rfl ?_
          refine lv_aload_n hx hb dX3_addSpan_58 rfl (lv_at hl 3 rfl) ?_
          refine r_get (θ := θ) (C := RX3) (T := TX3) (N := 6) (ci := 9) hx hb hts gwX3 hown hK hmH9.1 rfl 5 (by decide) k1095 (fun _ h => h) (v := .ref (w 2)) rfl dX3_addSpan_59 ?_
          refine lv_iload_n hx hb dX3_addSpan_62 rfl (lv_at hl 5 rfl) ?_
          refine r_aald (θ := θ) hx hb hK hmH9.2.2.1 (i := b) (by omega) (by decide) dX3_addSpan_63 ?_
          have rw12 := (hmH9.2.2.2.2 (b.toNat) (by omega)).1
          have rw12t := hsv (b.toNat) (by omega)
          have rw12l := rw12.lt
          refine lv_iload hx hb dX3_addSpan_64 (lv_at hl 0 rfl) ?_
          refine r_iald (θ := θ) hx hb hK rw12 (i := 0) (by omega) (by decide) dX3_addSpan_66 ?_
          refine q_as ((sv b.toNat) 0) rfl ?_
          refine q_add hx hb dX3_addSpan_67 ?_
          refine r_iast (θ := θ) (a := H7.size) hx hb hK haH9 (hAn _ (by omega)) hS (i := 0) (x := (sv a.toNat 0) + (sv b.toNat 0)) (by omega) (by decide) dX3_addSpan_68 (fun H13 locs haH13 hszH13 hkH13 hS => ?_)
          have hzH13 := hz0.at hAB hS
          have hkkH13 : ∀ x : Nat, x < (H7).size → H13[x]? = (H7)[x]? := fun x hx => (hkH13 x (by omega)).trans (hkkH9 x hx)
          have hmH13 := hmH7.kept hkkH13
          refine lv_iload hx hb dX3_addSpan_69 (lv_at hl 1 rfl) ?_
          refine lv_aload_n hx hb dX3_addSpan_71 rfl (lv_at hl 2 rfl) ?_
          refine lv_iload hx hb dX3_addSpan_72 (lv_at hl 0 rfl) ?_
          refine r_iald (θ := θ) hx hb hK haH13 (i := 0) (by omega) (by decide) dX3_addSpan_74 ?_
          refine q_as ((sv a.toNat 0) + (sv b.toNat 0)) rfl ?_
          refine r_gets (θ := θ) hx hb fx.2 hz0.2.2.2.1.1 hAB hS hown (hts _ k1226) dX3_addSpan_75 ?_
          refine lv_iload hx hb dX3_addSpan_78 (lv_at hl 0 rfl) ?_
          refine r_ildz hx hb fx.2 hzH13.2.2.2.1.2.1 (i := 0) (by omega) (by decide) dX3_addSpan_80 ?_
          refine q_as (20000) rfl ?_
          refine q_neg hx hb dX3_addSpan_81 ?_
          refine r_gets (θ := θ) hx hb fx.2 hz0.2.2.2.1.1 hAB hS hown (hts _ k1226) dX3_addSpan_82 ?_
          refine lv_iload hx hb dX3_addSpan_85 (lv_at hl 0 rfl) ?_
          refine r_ildz hx hb fx.2 hzH13.2.2.2.1.2.1 (i := 0) (by omega) (by decide) dX3_addSpan_87 ?_
          refine q_as (20000) rfl ?_
          obtain ⟨r14, hr14⟩ := bex (((sv a.toNat 0) + (sv b.toNat 0)) < (-20000) ∨ 20000 < ((sv a.toNat 0) + (sv b.toNat 0)))
          refine c_P (As := [.int (iI ((sv a.toNat 0) + (sv b.toNat 0))), .int (iI (-20000)), .int (iI 20000)]) (rest := [.int (iI 0)]) fx hl (pm_X3_isOut l ((sv a.toNat 0) + (sv b.toNat 0)) (-20000) 20000 r14 hr14 (by omega) (by omega) (by omega)) dX3_addSpan_88 k1116 k1117 k6 k1118 hd_X3_isOut rfl ⟨by decide, by decide⟩ (Nat.le_of_ble_eq_true rfl) ⟨by dsimp only; omega, by dsimp only; omega⟩ ?_
          have br14 : r14 = 0 ∨ r14 = 1 := hr14.elim (fun h => Or.inr h.1) (fun h => Or.inl h.1)
          refine q_ior hx hb dX3_addSpan_91 (by decide) br14 (fun z15 bz15 hz15 => ?_)
          refine lv_istore (lv' := [(4, .int (iI z15)), (5, .int (iI 0)), (3, .ref H7.size), (0, .ref (w 0)), (1, .int (iI a)), (2, .int (iI b))]) hx hb dX3_addSpan_92 hl (by decide) rfl (fun ls hl => ?_)
          refine lv_iinc (v := iI (1)) (lv' := [(5, .int (iI 1)), (4, .int (iI z15)), (3, .ref H7.size), (0, .ref (w 0)), (1, .int (iI a)), (2, .int (iI b))]) hx hb dX3_addSpan_94 hl (k := 1) rfl rfl (by decide) rfl (fun ls hl => ?_)
          refine lv_goto (tgt := 40) hx hb dX3_addSpan_97 (by decide) ?_
          refine lv_iload hx hb dX3_addSpan_40 (lv_at hl 0 rfl) ?_
          refine q_con hx hb dX3_addSpan_42 ?_
          refine q_cge (tgt := 100) hx hb dX3_addSpan_43 (by decide) (by omega) (by omega) (fun c16 => ?_) (fun c16 => ?_)
          · exact (show False by omega).elim
          · refine lv_aload_n hx hb dX3_addSpan_46 rfl (lv_at hl 2 rfl) ?_
            refine lv_iload hx hb dX3_addSpan_47 (lv_at hl 0 rfl) ?_
            refine lv_aload_n hx hb dX3_addSpan_49 rfl (lv_at hl 3 rfl) ?_
            refine r_get (θ := θ) (C := RX3) (T := TX3) (N := 6) (ci := 9) hx hb hts gwX3 hown hK hmH13.1 rfl 5 (by decide) k1095 (fun _ h => h) (v := .ref (w 2)) rfl dX3_addSpan_50 ?_
            refine lv_iload_n hx hb dX3_addSpan_53 rfl (lv_at hl 4 rfl) ?_
            refine r_aald (θ := θ) hx hb hK hmH13.2.2.1 (i := a) (by omega) (by decide) dX3_addSpan_54 ?_
            have rw17 := (hmH13.2.2.2.2 (a.toNat) (by omega)).1
            have rw17t := hsv (a.toNat) (by omega)
            have rw17l := rw17.lt
            refine lv_iload hx hb dX3_addSpan_55 (lv_at hl 0 rfl) ?_
            refine r_iald (θ := θ) hx hb hK rw17 (i := 1) (by omega) (by decide) dX3_addSpan_57 ?_
            refine q_as ((sv a.toNat) 1) rfl ?_
            refine lv_aload_n hx hb dX3_addSpan_58 rfl (lv_at hl 3 rfl) ?_
            refine r_get (θ := θ) (C := RX3) (T := TX3) (N := 6) (ci := 9) hx hb hts gwX3 hown hK hmH13.1 rfl 5 (by decide) k1095 (fun _ h => h) (v := .ref (w 2)) rfl dX3_addSpan_59 ?_
            refine lv_iload_n hx hb dX3_addSpan_62 rfl (lv_at hl 5 rfl) ?_
            refine r_aald (θ := θ) hx hb hK hmH13.2.2.1 (i := b) (by omega) (by decide) dX3_addSpan_63 ?_
            have rw18 := (hmH13.2.2.2.2 (b.toNat) (by omega)).1
            have rw18t := hsv (b.toNat) (by omega)
            have rw18l := rw18.lt
            refine lv_iload hx hb dX3_addSpan_64 (lv_at hl 0 rfl) ?_
            refine r_iald (θ := θ) hx hb hK rw18 (i := 1) (by omega) (by decide) dX3_addSpan_66 ?_
            refine q_as ((sv b.toNat) 1) rfl ?_
            refine q_add hx hb dX3_addSpan_67 ?_
            refine r_iast (θ := θ) (a := H7.size) hx hb hK haH13 (hAn _ (by omega)) hS (i := 1) (x := (sv a.toNat 1) + (sv b.toNat 1)) (by omega) (by decide) dX3_addSpan_68 (fun H19 locs haH19 hszH19 hkH19 hS => ?_)
            have hzH19 := hz0.at hAB hS
            have hkkH19 : ∀ x : Nat, x < (H7).size → H19[x]? = (H7)[x]? := fun x hx => (hkH19 x (by omega)).trans (hkkH13 x hx)
            have hmH19 := hmH7.kept hkkH19
            refine lv_iload hx hb dX3_addSpan_69 (lv_at hl 1 rfl) ?_
            refine lv_aload_n hx hb dX3_addSpan_71 rfl (lv_at hl 2 rfl) ?_
            refine lv_iload hx hb dX3_addSpan_72 (lv_at hl 0 rfl) ?_
            refine r_iald (θ := θ) hx hb hK haH19 (i := 1) (by omega) (by decide) dX3_addSpan_74 ?_
            refine q_as ((sv a.toNat 1) + (sv b.toNat 1)) rfl ?_
            refine r_gets (θ := θ) hx hb fx.2 hz0.2.2.2.1.1 hAB hS hown (hts _ k1226) dX3_addSpan_75 ?_
            refine lv_iload hx hb dX3_addSpan_78 (lv_at hl 0 rfl) ?_
            refine r_ildz hx hb fx.2 hzH19.2.2.2.1.2.1 (i := 1) (by omega) (by decide) dX3_addSpan_80 ?_
            refine q_as (240000) rfl ?_
            refine q_neg hx hb dX3_addSpan_81 ?_
            refine r_gets (θ := θ) hx hb fx.2 hz0.2.2.2.1.1 hAB hS hown (hts _ k1226) dX3_addSpan_82 ?_
            refine lv_iload hx hb dX3_addSpan_85 (lv_at hl 0 rfl) ?_
            refine r_ildz hx hb fx.2 hzH19.2.2.2.1.2.1 (i := 1) (by omega) (by decide) dX3_addSpan_87 ?_
            refine q_as (240000) rfl ?_
            obtain ⟨r20, hr20⟩ := bex (((sv a.toNat 1) + (sv b.toNat 1)) < (-240000) ∨ 240000 < ((sv a.toNat 1) + (sv b.toNat 1)))
            refine c_P (As := [.int (iI ((sv a.toNat 1) + (sv b.toNat 1))), .int (iI (-240000)), .int (iI 240000)]) (rest := [.int (iI z15)]) fx hl (pm_X3_isOut l ((sv a.toNat 1) + (sv b.toNat 1)) (-240000) 240000 r20 hr20 (by omega) (by omega) (by omega)) dX3_addSpan_88 k1116 k1117 k6 k1118 hd_X3_isOut rfl ⟨by decide, by decide⟩ (Nat.le_of_ble_eq_true rfl) ⟨by dsimp only; omega, by dsimp only; omega⟩ ?_
            have br20 : r20 = 0 ∨ r20 = 1 := hr20.elim (fun h => Or.inr h.1) (fun h => Or.inl h.1)
            refine q_ior hx hb dX3_addSpan_91 bz15 br20 (fun z21 bz21 hz21 => ?_)
            refine lv_istore (lv' := [(4, .int (iI z21)), (5, .int (iI 1)), (3, .ref H7.size), (0, .ref (w 0)), (1, .int (iI a)), (2, .int (iI b))]) hx hb dX3_addSpan_92 hl (by decide) rfl (fun ls hl => ?_)
            refine lv_iinc (v := iI (2)) (lv' := [(5, .int (iI 2)), (4, .int (iI z21)), (3, .ref H7.size), (0, .ref (w 0)), (1, .int (iI a)), (2, .int (iI b))]) hx hb dX3_addSpan_94 hl (k := 1) rfl rfl (by decide) rfl (fun ls hl => ?_)
            refine lv_goto (tgt := 40) hx hb dX3_addSpan_97 (by decide) ?_
            refine lv_iload hx hb dX3_addSpan_40 (lv_at hl 0 rfl) ?_
            refine q_con hx hb dX3_addSpan_42 ?_
            refine q_cge (tgt := 100) hx hb dX3_addSpan_43 (by decide) (by omega) (by omega) (fun c22 => ?_) (fun c22 => ?_)
            · exact (show False by omega).elim
            · refine lv_aload_n hx hb dX3_addSpan_46 rfl (lv_at hl 2 rfl) ?_
              refine lv_iload hx hb dX3_addSpan_47 (lv_at hl 0 rfl) ?_
              refine lv_aload_n hx hb dX3_addSpan_49 rfl (lv_at hl 3 rfl) ?_
              refine r_get (θ := θ) (C := RX3) (T := TX3) (N := 6) (ci := 9) hx hb hts gwX3 hown hK hmH19.1 rfl 5 (by decide) k1095 (fun _ h => h) (v := .ref (w 2)) rfl dX3_addSpan_50 ?_
              refine lv_iload_n hx hb dX3_addSpan_53 rfl (lv_at hl 4 rfl) ?_
              refine r_aald (θ := θ) hx hb hK hmH19.2.2.1 (i := a) (by omega) (by decide) dX3_addSpan_54 ?_
              have rw23 := (hmH19.2.2.2.2 (a.toNat) (by omega)).1
              have rw23t := hsv (a.toNat) (by omega)
              have rw23l := rw23.lt
              refine lv_iload hx hb dX3_addSpan_55 (lv_at hl 0 rfl) ?_
              refine r_iald (θ := θ) hx hb hK rw23 (i := 2) (by omega) (by decide) dX3_addSpan_57 ?_
              refine q_as ((sv a.toNat) 2) rfl ?_
              refine lv_aload_n hx hb dX3_addSpan_58 rfl (lv_at hl 3 rfl) ?_
              refine r_get (θ := θ) (C := RX3) (T := TX3) (N := 6) (ci := 9) hx hb hts gwX3 hown hK hmH19.1 rfl 5 (by decide) k1095 (fun _ h => h) (v := .ref (w 2)) rfl dX3_addSpan_59 ?_
              refine lv_iload_n hx hb dX3_addSpan_62 rfl (lv_at hl 5 rfl) ?_
              refine r_aald (θ := θ) hx hb hK hmH19.2.2.1 (i := b) (by omega) (by decide) dX3_addSpan_63 ?_
              have rw24 := (hmH19.2.2.2.2 (b.toNat) (by omega)).1
              have rw24t := hsv (b.toNat) (by omega)
              have rw24l := rw24.lt
              refine lv_iload hx hb dX3_addSpan_64 (lv_at hl 0 rfl) ?_
              refine r_iald (θ := θ) hx hb hK rw24 (i := 2) (by omega) (by decide) dX3_addSpan_66 ?_
              refine q_as ((sv b.toNat) 2) rfl ?_
              refine q_add hx hb dX3_addSpan_67 ?_
              refine r_iast (θ := θ) (a := H7.size) hx hb hK haH19 (hAn _ (by omega)) hS (i := 2) (x := (sv a.toNat 2) + (sv b.toNat 2)) (by omega) (by decide) dX3_addSpan_68 (fun H25 locs haH25 hszH25 hkH25 hS => ?_)
              have hzH25 := hz0.at hAB hS
              have hkkH25 : ∀ x : Nat, x < (H7).size → H25[x]? = (H7)[x]? := fun x hx => (hkH25 x (by omega)).trans (hkkH19 x hx)
              have hmH25 := hmH7.kept hkkH25
              refine lv_iload hx hb dX3_addSpan_69 (lv_at hl 1 rfl) ?_
              refine lv_aload_n hx hb dX3_addSpan_71 rfl (lv_at hl 2 rfl) ?_
              refine lv_iload hx hb dX3_addSpan_72 (lv_at hl 0 rfl) ?_
              refine r_iald (θ := θ) hx hb hK haH25 (i := 2) (by omega) (by decide) dX3_addSpan_74 ?_
              refine q_as ((sv a.toNat 2) + (sv b.toNat 2)) rfl ?_
              refine r_gets (θ := θ) hx hb fx.2 hz0.2.2.2.1.1 hAB hS hown (hts _ k1226) dX3_addSpan_75 ?_
              refine lv_iload hx hb dX3_addSpan_78 (lv_at hl 0 rfl) ?_
              refine r_ildz hx hb fx.2 hzH25.2.2.2.1.2.1 (i := 2) (by omega) (by decide) dX3_addSpan_80 ?_
              refine q_as (100000) rfl ?_
              refine q_neg hx hb dX3_addSpan_81 ?_
              refine r_gets (θ := θ) hx hb fx.2 hz0.2.2.2.1.1 hAB hS hown (hts _ k1226) dX3_addSpan_82 ?_
              refine lv_iload hx hb dX3_addSpan_85 (lv_at hl 0 rfl) ?_
              refine r_ildz hx hb fx.2 hzH25.2.2.2.1.2.1 (i := 2) (by omega) (by decide) dX3_addSpan_87 ?_
              refine q_as (100000) rfl ?_
              obtain ⟨r26, hr26⟩ := bex (((sv a.toNat 2) + (sv b.toNat 2)) < (-100000) ∨ 100000 < ((sv a.toNat 2) + (sv b.toNat 2)))
              refine c_P (As := [.int (iI ((sv a.toNat 2) + (sv b.toNat 2))), .int (iI (-100000)), .int (iI 100000)]) (rest := [.int (iI z21)]) fx hl (pm_X3_isOut l ((sv a.toNat 2) + (sv b.toNat 2)) (-100000) 100000 r26 hr26 (by omega) (by omega) (by omega)) dX3_addSpan_88 k1116 k1117 k6 k1118 hd_X3_isOut rfl ⟨by decide, by decide⟩ (Nat.le_of_ble_eq_true rfl) ⟨by dsimp only; omega, by dsimp only; omega⟩ ?_
              have br26 : r26 = 0 ∨ r26 = 1 := hr26.elim (fun h => Or.inr h.1) (fun h => Or.inl h.1)
              refine q_ior hx hb dX3_addSpan_91 bz21 br26 (fun z27 bz27 hz27 => ?_)
              refine lv_istore (lv' := [(4, .int (iI z27)), (5, .int (iI 2)), (3, .ref H7.size), (0, .ref (w 0)), (1, .int (iI a)), (2, .int (iI b))]) hx hb dX3_addSpan_92 hl (by decide) rfl (fun ls hl => ?_)
              refine lv_iinc (v := iI (3)) (lv' := [(5, .int (iI 3)), (4, .int (iI z27)), (3, .ref H7.size), (0, .ref (w 0)), (1, .int (iI a)), (2, .int (iI b))]) hx hb dX3_addSpan_94 hl (k := 1) rfl rfl (by decide) rfl (fun ls hl => ?_)
              refine lv_goto (tgt := 40) hx hb dX3_addSpan_97 (by decide) ?_
              refine lv_iload hx hb dX3_addSpan_40 (lv_at hl 0 rfl) ?_
              refine q_con hx hb dX3_addSpan_42 ?_
              refine q_cge (tgt := 100) hx hb dX3_addSpan_43 (by decide) (by omega) (by omega) (fun c28 => ?_) (fun c28 => ?_)
              · refine lv_aload_n hx hb dX3_addSpan_100 rfl (lv_at hl 3 rfl) ?_
                refine q_con hx hb dX3_addSpan_101 ?_
                refine lv_iload hx hb dX3_addSpan_102 (lv_at hl 1 rfl) ?_
                refine q_con hx hb dX3_addSpan_104 ?_
                obtain ⟨t29, f30, hq1t29, hq2t29⟩ := fails_ex 0 z27 0 (by omega) (by omega) (by omega)
                have hmw : MWR θ S0 w H25 r q dt sv t5 dn rf kn := ⟨hzH25, hu, hmH25, hd, hsv⟩
                refine c_M (w := w) (As := [.int (iI 0), .int (iI z27), .int (iI 0)]) (rest := []) (b := w 0) (C := RX3) fx hl (mw_fails θ l S0 _ w _ _ _ _ _ _ _ _ hmw 0 z27 0 t29 f30 (by omega) hq1t29 hq2t29) (ob_recv hK hmH25.1 rfl) dX3_addSpan_105 k1119 k1121 ks10 k6 k1122 hd_X3_fails rfl ⟨by decide, by decide⟩ (Nat.le_of_ble_eq_true rfl) ⟨by dsimp only; omega, by dsimp only; omega⟩ hS (fun x hx => hx ▸ Or.inl (Or.inl rfl)) (fun H31 locs hmH31 hszH31 hk0H31 hS => ?_)
                have hkH31 : ∀ x : Nat, x < (H25).size → ¬ x = w 0 → H31[x]? = (H25)[x]? := hk0H31
                have haH25_H31 := haH25.kept (hkH31 _ haH25.lt (by omega))
                have hzH31 := hz0.at hAB hS
                have hltH31 := hmH31.lt
                refine q_ieq (tgt := 113) hx hb dX3_addSpan_108 (by decide) (by omega) (fun c32 => ?_) (fun c32 => ?_)
                · exact (show False by omega).elim
                · refine q_con hx hb dX3_addSpan_111 ?_
                  obtain rfl : t29 = 2 := by omega
                  have hmw : MWR θ S0 w H31 r q dt sv 2 dn rf kn := ⟨hzH31, hu, hmH31, hd, hsv⟩
                  exact e_i hx hb hr hlk hS dX3_addSpan_112 (Nat.le_of_ble_eq_true rfl) (Nat.le_of_ble_eq_true rfl) ⟨ex_i (by omega), r, q, by first | exact hmw | (subst_vars; exact hmw) | (simp only [inI_self, inI_1, inI_31] at hmw; subst_vars; exact hmw), by first | exact nw_rf | exact nw_up (by omega) | exact nw_up2 (by omega), by first | exact nw_rf | exact nw_up (by omega) | exact nw_up2 (by omega)⟩
              · exact (show False by omega).elim
      · exact (show False by omega).elim
    · exact (show False by omega).elim

set_option maxHeartbeats 4000000 in
set_option maxRecDepth 100000 in
theorem mno5_addSpan (θ : TH) (l : Launch) (S0 : State) (H : Heap) (w : Nat → Nat) (r q : Nat → Nat) (dt : Nat → Int) (sv : Nat → Nat → Int) (th dn rf kn : Int) (hw : MWR θ S0 w H r q dt sv th dn rf kn) (a b : Int) (h_0 : -2147483648 ≤ a ∧ a < 2147483648) (h_1 : -2147483648 ≤ b ∧ b < 2147483648) (h_2 : 0 ≤ a ∧ a < 3) (h_3 : 0 ≤ b ∧ b < 3) (h_4 : -20000 ≤ sv a.toNat 0 + sv b.toNat 0 ∧ sv a.toNat 0 + sv b.toNat 0 ≤ 20000) (h_5 : -240000 ≤ sv a.toNat 1 + sv b.toNat 1 ∧ sv a.toNat 1 + sv b.toNat 1 ≤ 240000) (h_6 : ¬ (-100000 ≤ sv a.toNat 2 + sv b.toNat 2 ∧ sv a.toNat 2 + sv b.toNat 2 ≤ 100000)) : CT l yX3_addSpan cX3_addSpan 6 (some .int) 2 42 1 3 [.ref (w 0), .int (iI a), .int (iI b)] S0 H (fun v9 H1 => v9 = some (.int (iI 0)) ∧ ∃ r1 q1 : Nat → Nat, MWR θ S0 w H1 r1 q1 dt sv 2 dn rf kn ∧ NW 6 H.size r r1 ∧ NW 3 H.size q q1) (fun _ _ => False) (WA w H.size) := by
  refine ct_of (by decide +kernel) (Nat.le_of_ble_eq_true rfl) ?_
  intro pg en s mi args below meth co ls fx hs hr hlk hxt hin hl
  subst hs
  obtain ⟨hx, hb, hml, hown, hts⟩ := id fx.1
  have hS : va_S (WA w s.heap.size) s.heap s.heap [] := va_S.rf
  obtain ⟨hz, hu, hm, hd, hsv⟩ := id hw
  have hAB : ∀ x : Nat, (WA w s.heap.size) x → θ.2.2.2 ≤ x := wa_b hu hz.2.1
  have hz0 := hz
  have hK := sz_K fx.2 hz
  have hlt0 := hm.lt
  have hu1 := hu.1
  have hAn : ∀ x : Nat, s.heap.size ≤ x → (WA w s.heap.size) x := fun _ h => Or.inr h
  refine lv_aload_n hx hb dX3_addSpan_0 rfl (lv_at hl 0 rfl) ?_
  refine lv_iload_n hx hb dX3_addSpan_1 rfl (lv_at hl 1 rfl) ?_
  obtain ⟨r1, hr1⟩ := bex (a < 0 ∨ 2 < a)
  refine c_P (As := [.int (iI a)]) (rest := [.ref (w 0)]) fx hl (pm_X3_isNoSpan l a r1 hr1 (by omega)) dX3_addSpan_2 k1207 k1208 k6 k1209 hd_X3_isNoSpan rfl ⟨by decide, by decide⟩ (Nat.le_of_ble_eq_true rfl) ⟨by dsimp only; omega, by dsimp only; omega⟩ ?_
  have br1 : r1 = 0 ∨ r1 = 1 := hr1.elim (fun h => Or.inr h.1) (fun h => Or.inl h.1)
  refine q_ine (tgt := 15) hx hb dX3_addSpan_5 (by decide) (by omega) (fun c2 => ?_) (fun c2 => ?_)
  · exact (show False by omega).elim
  · refine lv_iload_n hx hb dX3_addSpan_8 rfl (lv_at hl 2 rfl) ?_
    obtain ⟨r3, hr3⟩ := bex (b < 0 ∨ 2 < b)
    refine c_P (As := [.int (iI b)]) (rest := [.ref (w 0)]) fx hl (pm_X3_isNoSpan l b r3 hr3 (by omega)) dX3_addSpan_9 k1207 k1208 k6 k1209 hd_X3_isNoSpan rfl ⟨by decide, by decide⟩ (Nat.le_of_ble_eq_true rfl) ⟨by dsimp only; omega, by dsimp only; omega⟩ ?_
    have br3 : r3 = 0 ∨ r3 = 1 := hr3.elim (fun h => Or.inr h.1) (fun h => Or.inl h.1)
    refine q_ieq (tgt := 19) hx hb dX3_addSpan_12 (by decide) (by omega) (fun c4 => ?_) (fun c4 => ?_)
    · refine q_con hx hb dX3_addSpan_19 ?_
      refine q_con hx hb dX3_addSpan_20 ?_
      refine q_con hx hb dX3_addSpan_21 ?_
      obtain ⟨t5, f6, hq1t5, hq2t5⟩ := fails_ex 0 0 0 (by omega) (by omega) (by omega)
      have hmw : MWR θ S0 w s.heap r q dt sv th dn rf kn := ⟨hz, hu, hm, hd, hsv⟩
      refine c_M (w := w) (As := [.int (iI 0), .int (iI 0), .int (iI 0)]) (rest := []) (b := w 0) (C := RX3) fx hl (mw_fails θ l S0 _ w _ _ _ _ _ _ _ _ hmw 0 0 0 t5 f6 (by omega) hq1t5 hq2t5) (ob_recv hK hm.1 rfl) dX3_addSpan_22 k1119 k1121 ks10 k6 k1122 hd_X3_fails rfl ⟨by decide, by decide⟩ (Nat.le_of_ble_eq_true rfl) ⟨by dsimp only; omega, by dsimp only; omega⟩ hS (fun x hx => hx ▸ Or.inl (Or.inl rfl)) (fun H7 locs hmH7 hszH7 hk0H7 hS => ?_)
      have hkH7 : ∀ x : Nat, x < (s.heap).size → ¬ x = w 0 → H7[x]? = (s.heap)[x]? := hk0H7
      have hzH7 := hz0.at hAB hS
      have hltH7 := hmH7.lt
      refine q_ieq (tgt := 30) hx hb dX3_addSpan_25 (by decide) (by omega) (fun c8 => ?_) (fun c8 => ?_)
      · refine q_con hx hb dX3_addSpan_30 ?_
        refine r_newI (θ := θ) hx hb hts hK k71 hS (by omega) (by dsimp only; omega) (by dsimp only; omega) dX3_addSpan_31 (fun H9 haH9 hszH9 hkH9 hS => ?_)
        have hzH9 := hz0.at hAB hS
        have hkkH9 := hkH9
        have hmH9 := hmH7.kept hkH9
        have hltmH9 := hmH7.lt
        refine lv_astore_n (lv' := [(3, .ref H7.size), (0, .ref (w 0)), (1, .int (iI a)), (2, .int (iI b))]) hx hb dX3_addSpan_33 rfl hl (by decide) rfl (fun ls hl => ?_)
        refine q_con hx hb dX3_addSpan_34 ?_
        refine lv_istore (lv' := [(4, .int (iI 0)), (3, .ref H7.size), (0, .ref (w 0)), (1, .int (iI a)), (2, .int (iI b))]) hx hb dX3_addSpan_35 hl (by decide) rfl (fun ls hl => ?_)
        refine q_con hx hb dX3_addSpan_37 ?_
        refine lv_istore (lv' := [(5, .int (iI 0)), (4, .int (iI 0)), (3, .ref H7.size), (0, .ref (w 0)), (1, .int (iI a)), (2, .int (iI b))]) hx hb dX3_addSpan_38 hl (by decide) rfl (fun ls hl => ?_)
        refine lv_iload hx hb dX3_addSpan_40 (lv_at hl 0 rfl) ?_
        refine q_con hx hb dX3_addSpan_42 ?_
        refine q_cge (tgt := 100) hx hb dX3_addSpan_43 (by decide) (by omega) (by omega) (fun c10 => ?_) (fun c10 => ?_)
        · exact (show False by omega).elim
        · refine lv_aload_n hx hb dX3_addSpan_46 rfl (lv_at hl 2 rfl) ?_
          refine lv_iload hx hb dX3_addSpan_47 (lv_at hl 0 rfl) ?_
          refine lv_aload_n hx hb dX3_addSpan_49 rfl (lv_at hl 3 rfl) ?_
          refine r_get (θ := θ) (C := RX3) (T := TX3) (N := 6) (ci := 9) hx hb hts gwX3 hown hK hmH9.1 rfl 5 (by decide) k1095 (fun _ h => h) (v := .ref (w 2)) rfl dX3_addSpan_50 ?_
          refine lv_iload_n hx hb dX3_addSpan_53 rfl (lv_at hl 4 rfl) ?_
          refine r_aald (θ := θ) hx hb hK hmH9.2.2.1 (i := a) (by omega) (by decide) dX3_addSpan_54 ?_
          have rw11 := (hmH9.2.2.2.2 (a.toNat) (by omega)).1
          have rw11t := hsv (a.toNat) (by omega)
          have rw11l := rw11.lt
          refine lv_iload hx hb dX3_addSpan_55 (lv_at hl 0 rfl) ?_
          refine r_iald (θ := θ) hx hb hK rw11 (i := 0) (by omega) (by decide) dX3_addSpan_57 ?_
          refine q_as ((sv a.toNat) 0) rfl ?_
          refine lv_aload_n hx hb dX3_addSpan_58 rfl (lv_at hl 3 rfl) ?_
          refine r_get (θ := θ) (C := RX3) (T := TX3) (N := 6) (ci := 9) hx hb hts gwX3 hown hK hmH9.1 rfl 5 (by decide) k1095 (fun _ h => h) (v := .ref (w 2)) rfl dX3_addSpan_59 ?_
          refine lv_iload_n hx hb dX3_addSpan_62 rfl (lv_at hl 5 rfl) ?_
          refine r_aald (θ := θ) hx hb hK hmH9.2.2.1 (i := b) (by omega) (by decide) dX3_addSpan_63 ?_
          have rw12 := (hmH9.2.2.2.2 (b.toNat) (by omega)).1
          have rw12t := hsv (b.toNat) (by omega)
          have rw12l := rw12.lt
          refine lv_iload hx hb dX3_addSpan_64 (lv_at hl 0 rfl) ?_
          refine r_iald (θ := θ) hx hb hK rw12 (i := 0) (by omega) (by decide) dX3_addSpan_66 ?_
          refine q_as ((sv b.toNat) 0) rfl ?_
          refine q_add hx hb dX3_addSpan_67 ?_
          refine r_iast (θ := θ) (a := H7.size) hx hb hK haH9 (hAn _ (by omega)) hS (i := 0) (x := (sv a.toNat 0) + (sv b.toNat 0)) (by omega) (by decide) dX3_addSpan_68 (fun H13 locs haH13 hszH13 hkH13 hS => ?_)
          have hzH13 := hz0.at hAB hS
          have hkkH13 : ∀ x : Nat, x < (H7).size → H13[x]? = (H7)[x]? := fun x hx => (hkH13 x (by omega)).trans (hkkH9 x hx)
          have hmH13 := hmH7.kept hkkH13
          refine lv_iload hx hb dX3_addSpan_69 (lv_at hl 1 rfl) ?_
          refine lv_aload_n hx hb dX3_addSpan_71 rfl (lv_at hl 2 rfl) ?_
          refine lv_iload hx hb dX3_addSpan_72 (lv_at hl 0 rfl) ?_
          refine r_iald (θ := θ) hx hb hK haH13 (i := 0) (by omega) (by decide) dX3_addSpan_74 ?_
          refine q_as ((sv a.toNat 0) + (sv b.toNat 0)) rfl ?_
          refine r_gets (θ := θ) hx hb fx.2 hz0.2.2.2.1.1 hAB hS hown (hts _ k1226) dX3_addSpan_75 ?_
          refine lv_iload hx hb dX3_addSpan_78 (lv_at hl 0 rfl) ?_
          refine r_ildz hx hb fx.2 hzH13.2.2.2.1.2.1 (i := 0) (by omega) (by decide) dX3_addSpan_80 ?_
          refine q_as (20000) rfl ?_
          refine q_neg hx hb dX3_addSpan_81 ?_
          refine r_gets (θ := θ) hx hb fx.2 hz0.2.2.2.1.1 hAB hS hown (hts _ k1226) dX3_addSpan_82 ?_
          refine lv_iload hx hb dX3_addSpan_85 (lv_at hl 0 rfl) ?_
          refine r_ildz hx hb fx.2 hzH13.2.2.2.1.2.1 (i := 0) (by omega) (by decide) dX3_addSpan_87 ?_
          refine q_as (20000) rfl ?_
          obtain ⟨r14, hr14⟩ := bex (((sv a.toNat 0) + (sv b.toNat 0)) < (-20000) ∨ 20000 < ((sv a.toNat 0) + (sv b.toNat 0)))
          refine c_P (As := [.int (iI ((sv a.toNat 0) + (sv b.toNat 0))), .int (iI (-20000)), .int (iI 20000)]) (rest := [.int (iI 0)]) fx hl (pm_X3_isOut l ((sv a.toNat 0) + (sv b.toNat 0)) (-20000) 20000 r14 hr14 (by omega) (by omega) (by omega)) dX3_addSpan_88 k1116 k1117 k6 k1118 hd_X3_isOut rfl ⟨by decide, by decide⟩ (Nat.le_of_ble_eq_true rfl) ⟨by dsimp only; omega, by dsimp only; omega⟩ ?_
          have br14 : r14 = 0 ∨ r14 = 1 := hr14.elim (fun h => Or.inr h.1) (fun h => Or.inl h.1)
          refine q_ior hx hb dX3_addSpan_91 (by decide) br14 (fun z15 bz15 hz15 => ?_)
          refine lv_istore (lv' := [(4, .int (iI z15)), (5, .int (iI 0)), (3, .ref H7.size), (0, .ref (w 0)), (1, .int (iI a)), (2, .int (iI b))]) hx hb dX3_addSpan_92 hl (by decide) rfl (fun ls hl => ?_)
          refine lv_iinc (v := iI (1)) (lv' := [(5, .int (iI 1)), (4, .int (iI z15)), (3, .ref H7.size), (0, .ref (w 0)), (1, .int (iI a)), (2, .int (iI b))]) hx hb dX3_addSpan_94 hl (k := 1) rfl rfl (by decide) rfl (fun ls hl => ?_)
          refine lv_goto (tgt := 40) hx hb dX3_addSpan_97 (by decide) ?_
          refine lv_iload hx hb dX3_addSpan_40 (lv_at hl 0 rfl) ?_
          refine q_con hx hb dX3_addSpan_42 ?_
          refine q_cge (tgt := 100) hx hb dX3_addSpan_43 (by decide) (by omega) (by omega) (fun c16 => ?_) (fun c16 => ?_)
          · exact (show False by omega).elim
          · refine lv_aload_n hx hb dX3_addSpan_46 rfl (lv_at hl 2 rfl) ?_
            refine lv_iload hx hb dX3_addSpan_47 (lv_at hl 0 rfl) ?_
            refine lv_aload_n hx hb dX3_addSpan_49 rfl (lv_at hl 3 rfl) ?_
            refine r_get (θ := θ) (C := RX3) (T := TX3) (N := 6) (ci := 9) hx hb hts gwX3 hown hK hmH13.1 rfl 5 (by decide) k1095 (fun _ h => h) (v := .ref (w 2)) rfl dX3_addSpan_50 ?_
            refine lv_iload_n hx hb dX3_addSpan_53 rfl (lv_at hl 4 rfl) ?_
            refine r_aald (θ := θ) hx hb hK hmH13.2.2.1 (i := a) (by omega) (by decide) dX3_addSpan_54 ?_
            have rw17 := (hmH13.2.2.2.2 (a.toNat) (by omega)).1
            have rw17t := hsv (a.toNat) (by omega)
            have rw17l := rw17.lt
            refine lv_iload hx hb dX3_addSpan_55 (lv_at hl 0 rfl) ?_
            refine r_iald (θ := θ) hx hb hK rw17 (i := 1) (by omega) (by decide) dX3_addSpan_57 ?_
            refine q_as ((sv a.toNat) 1) rfl ?_
            refine lv_aload_n hx hb dX3_addSpan_58 rfl (lv_at hl 3 rfl) ?_
            refine r_get (θ := θ) (C := RX3) (T := TX3) (N := 6) (ci := 9) hx hb hts gwX3 hown hK hmH13.1 rfl 5 (by decide) k1095 (fun _ h => h) (v := .ref (w 2)) rfl dX3_addSpan_59 ?_
            refine lv_iload_n hx hb dX3_addSpan_62 rfl (lv_at hl 5 rfl) ?_
            refine r_aald (θ := θ) hx hb hK hmH13.2.2.1 (i := b) (by omega) (by decide) dX3_addSpan_63 ?_
            have rw18 := (hmH13.2.2.2.2 (b.toNat) (by omega)).1
            have rw18t := hsv (b.toNat) (by omega)
            have rw18l := rw18.lt
            refine lv_iload hx hb dX3_addSpan_64 (lv_at hl 0 rfl) ?_
            refine r_iald (θ := θ) hx hb hK rw18 (i := 1) (by omega) (by decide) dX3_addSpan_66 ?_
            refine q_as ((sv b.toNat) 1) rfl ?_
            refine q_add hx hb dX3_addSpan_67 ?_
            refine r_iast (θ := θ) (a := H7.size) hx hb hK haH13 (hAn _ (by omega)) hS (i := 1) (x := (sv a.toNat 1) + (sv b.toNat 1)) (by omega) (by decide) dX3_addSpan_68 (fun H19 locs haH19 hszH19 hkH19 hS => ?_)
            have hzH19 := hz0.at hAB hS
            have hkkH19 : ∀ x : Nat, x < (H7).size → H19[x]? = (H7)[x]? := fun x hx => (hkH19 x (by omega)).trans (hkkH13 x hx)
            have hmH19 := hmH7.kept hkkH19
            refine lv_iload hx hb dX3_addSpan_69 (lv_at hl 1 rfl) ?_
            refine lv_aload_n hx hb dX3_addSpan_71 rfl (lv_at hl 2 rfl) ?_
            refine lv_iload hx hb dX3_addSpan_72 (lv_at hl 0 rfl) ?_
            refine r_iald (θ := θ) hx hb hK haH19 (i := 1) (by omega) (by decide) dX3_addSpan_74 ?_
            refine q_as ((sv a.toNat 1) + (sv b.toNat 1)) rfl ?_
            refine r_gets (θ := θ) hx hb fx.2 hz0.2.2.2.1.1 hAB hS hown (hts _ k1226) dX3_addSpan_75 ?_
            refine lv_iload hx hb dX3_addSpan_78 (lv_at hl 0 rfl) ?_
            refine r_ildz hx hb fx.2 hzH19.2.2.2.1.2.1 (i := 1) (by omega) (by decide) dX3_addSpan_80 ?_
            refine q_as (240000) rfl ?_
            refine q_neg hx hb dX3_addSpan_81 ?_
            refine r_gets (θ := θ) hx hb fx.2 hz0.2.2.2.1.1 hAB hS hown (hts _ k1226) dX3_addSpan_82 ?_
            refine lv_iload hx hb dX3_addSpan_85 (lv_at hl 0 rfl) ?_
            refine r_ildz hx hb fx.2 hzH19.2.2.2.1.2.1 (i := 1) (by omega) (by decide) dX3_addSpan_87 ?_
            refine q_as (240000) rfl ?_
            obtain ⟨r20, hr20⟩ := bex (((sv a.toNat 1) + (sv b.toNat 1)) < (-240000) ∨ 240000 < ((sv a.toNat 1) + (sv b.toNat 1)))
            refine c_P (As := [.int (iI ((sv a.toNat 1) + (sv b.toNat 1))), .int (iI (-240000)), .int (iI 240000)]) (rest := [.int (iI z15)]) fx hl (pm_X3_isOut l ((sv a.toNat 1) + (sv b.toNat 1)) (-240000) 240000 r20 hr20 (by omega) (by omega) (by omega)) dX3_addSpan_88 k1116 k1117 k6 k1118 hd_X3_isOut rfl ⟨by decide, by decide⟩ (Nat.le_of_ble_eq_true rfl) ⟨by dsimp only; omega, by dsimp only; omega⟩ ?_
            have br20 : r20 = 0 ∨ r20 = 1 := hr20.elim (fun h => Or.inr h.1) (fun h => Or.inl h.1)
            refine q_ior hx hb dX3_addSpan_91 bz15 br20 (fun z21 bz21 hz21 => ?_)
            refine lv_istore (lv' := [(4, .int (iI z21)), (5, .int (iI 1)), (3, .ref H7.size), (0, .ref (w 0)), (1, .int (iI a)), (2, .int (iI b))]) hx hb dX3_addSpan_92 hl (by decide) rfl (fun ls hl => ?_)
            refine lv_iinc (v := iI (2)) (lv' := [(5, .int (iI 2)), (4, .int (iI z21)), (3, .ref H7.size), (0, .ref (w 0)), (1, .int (iI a)), (2, .int (iI b))]) hx hb dX3_addSpan_94 hl (k := 1) rfl rfl (by decide) rfl (fun ls hl => ?_)
            refine lv_goto (tgt := 40) hx hb dX3_addSpan_97 (by decide) ?_
            refine lv_iload hx hb dX3_addSpan_40 (lv_at hl 0 rfl) ?_
            refine q_con hx hb dX3_addSpan_42 ?_
            refine q_cge (tgt := 100) hx hb dX3_addSpan_43 (by decide) (by omega) (by omega) (fun c22 => ?_) (fun c22 => ?_)
            · exact (show False by omega).elim
            · refine lv_aload_n hx hb dX3_addSpan_46 rfl (lv_at hl 2 rfl) ?_
              refine lv_iload hx hb dX3_addSpan_47 (lv_at hl 0 rfl) ?_
              refine lv_aload_n hx hb dX3_addSpan_49 rfl (lv_at hl 3 rfl) ?_
              refine r_get (θ := θ) (C := RX3) (T := TX3) (N := 6) (ci := 9) hx hb hts gwX3 hown hK hmH19.1 rfl 5 (by decide) k1095 (fun _ h => h) (v := .ref (w 2)) rfl dX3_addSpan_50 ?_
              refine lv_iload_n hx hb dX3_addSpan_53 rfl (lv_at hl 4 rfl) ?_
              refine r_aald (θ := θ) hx hb hK hmH19.2.2.1 (i := a) (by omega) (by decide) dX3_addSpan_54 ?_
              have rw23 := (hmH19.2.2.2.2 (a.toNat) (by omega)).1
              have rw23t := hsv (a.toNat) (by omega)
              have rw23l := rw23.lt
              refine lv_iload hx hb dX3_addSpan_55 (lv_at hl 0 rfl) ?_
              refine r_iald (θ := θ) hx hb hK rw23 (i := 2) (by omega) (by decide) dX3_addSpan_57 ?_
              refine q_as ((sv a.toNat) 2) rfl ?_
              refine lv_aload_n hx hb dX3_addSpan_58 rfl (lv_at hl 3 rfl) ?_
              refine r_get (θ := θ) (C := RX3) (T := TX3) (N := 6) (ci := 9) hx hb hts gwX3 hown hK hmH19.1 rfl 5 (by decide) k1095 (fun _ h => h) (v := .ref (w 2)) rfl dX3_addSpan_59 ?_
              refine lv_iload_n hx hb dX3_addSpan_62 rfl (lv_at hl 5 rfl) ?_
              refine r_aald (θ := θ) hx hb hK hmH19.2.2.1 (i := b) (by omega) (by decide) dX3_addSpan_63 ?_
              have rw24 := (hmH19.2.2.2.2 (b.toNat) (by omega)).1
              have rw24t := hsv (b.toNat) (by omega)
              have rw24l := rw24.lt
              refine lv_iload hx hb dX3_addSpan_64 (lv_at hl 0 rfl) ?_
              refine r_iald (θ := θ) hx hb hK rw24 (i := 2) (by omega) (by decide) dX3_addSpan_66 ?_
              refine q_as ((sv b.toNat) 2) rfl ?_
              refine q_add hx hb dX3_addSpan_67 ?_
              refine r_iast (θ := θ) (a := H7.size) hx hb hK haH19 (hAn _ (by omega)) hS (i := 2) (x := (sv a.toNat 2) + (sv b.toNat 2)) (by omega) (by decide) dX3_addSpan_68 (fun H25 locs haH25 hszH25 hkH25 hS => ?_)
              have hzH25 := hz0.at hAB hS
              have hkkH25 : ∀ x : Nat, x < (H7).size → H25[x]? = (H7)[x]? := fun x hx => (hkH25 x (by omega)).trans (hkkH19 x hx)
              have hmH25 := hmH7.kept hkkH25
              refine lv_iload hx hb dX3_addSpan_69 (lv_at hl 1 rfl) ?_
              refine lv_aload_n hx hb dX3_addSpan_71 rfl (lv_at hl 2 rfl) ?_
              refine lv_iload hx hb dX3_addSpan_72 (lv_at hl 0 rfl) ?_
              refine r_iald (θ := θ) hx hb hK haH25 (i := 2) (by omega) (by decide) dX3_addSpan_74 ?_
              refine q_as ((sv a.toNat 2) + (sv b.toNat 2)) rfl ?_
              refine r_gets (θ := θ) hx hb fx.2 hz0.2.2.2.1.1 hAB hS hown (hts _ k1226) dX3_addSpan_75 ?_
              refine lv_iload hx hb dX3_addSpan_78 (lv_at hl 0 rfl) ?_
              refine r_ildz hx hb fx.2 hzH25.2.2.2.1.2.1 (i := 2) (by omega) (by decide) dX3_addSpan_80 ?_
              refine q_as (100000) rfl ?_
              refine q_neg hx hb dX3_addSpan_81 ?_
              refine r_gets (θ := θ) hx hb fx.2 hz0.2.2.2.1.1 hAB hS hown (hts _ k1226) dX3_addSpan_82 ?_
              refine lv_iload hx hb dX3_addSpan_85 (lv_at hl 0 rfl) ?_
              refine r_ildz hx hb fx.2 hzH25.2.2.2.1.2.1 (i := 2) (by omega) (by decide) dX3_addSpan_87 ?_
              refine q_as (100000) rfl ?_
              obtain ⟨r26, hr26⟩ := bex (((sv a.toNat 2) + (sv b.toNat 2)) < (-100000) ∨ 100000 < ((sv a.toNat 2) + (sv b.toNat 2)))
              refine c_P (As := [.int (iI ((sv a.toNat 2) + (sv b.toNat 2))), .int (iI (-100000)), .int (iI 100000)]) (rest := [.int (iI z21)]) fx hl (pm_X3_isOut l ((sv a.toNat 2) + (sv b.toNat 2)) (-100000) 100000 r26 hr26 (by omega) (by omega) (by omega)) dX3_addSpan_88 k1116 k1117 k6 k1118 hd_X3_isOut rfl ⟨by decide, by decide⟩ (Nat.le_of_ble_eq_true rfl) ⟨by dsimp only; omega, by dsimp only; omega⟩ ?_
              have br26 : r26 = 0 ∨ r26 = 1 := hr26.elim (fun h => Or.inr h.1) (fun h => Or.inl h.1)
              refine q_ior hx hb dX3_addSpan_91 bz21 br26 (fun z27 bz27 hz27 => ?_)
              refine lv_istore (lv' := [(4, .int (iI z27)), (5, .int (iI 2)), (3, .ref H7.size), (0, .ref (w 0)), (1, .int (iI a)), (2, .int (iI b))]) hx hb dX3_addSpan_92 hl (by decide) rfl (fun ls hl => ?_)
              refine lv_iinc (v := iI (3)) (lv' := [(5, .int (iI 3)), (4, .int (iI z27)), (3, .ref H7.size), (0, .ref (w 0)), (1, .int (iI a)), (2, .int (iI b))]) hx hb dX3_addSpan_94 hl (k := 1) rfl rfl (by decide) rfl (fun ls hl => ?_)
              refine lv_goto (tgt := 40) hx hb dX3_addSpan_97 (by decide) ?_
              refine lv_iload hx hb dX3_addSpan_40 (lv_at hl 0 rfl) ?_
              refine q_con hx hb dX3_addSpan_42 ?_
              refine q_cge (tgt := 100) hx hb dX3_addSpan_43 (by decide) (by omega) (by omega) (fun c28 => ?_) (fun c28 => ?_)
              · refine lv_aload_n hx hb dX3_addSpan_100 rfl (lv_at hl 3 rfl) ?_
                refine q_con hx hb dX3_addSpan_101 ?_
                refine lv_iload hx hb dX3_addSpan_102 (lv_at hl 1 rfl) ?_
                refine q_con hx hb dX3_addSpan_104 ?_
                obtain ⟨t29, f30, hq1t29, hq2t29⟩ := fails_ex 0 z27 0 (by omega) (by omega) (by omega)
                have hmw : MWR θ S0 w H25 r q dt sv t5 dn rf kn := ⟨hzH25, hu, hmH25, hd, hsv⟩
                refine c_M (w := w) (As := [.int (iI 0), .int (iI z27), .int (iI 0)]) (rest := []) (b := w 0) (C := RX3) fx hl (mw_fails θ l S0 _ w _ _ _ _ _ _ _ _ hmw 0 z27 0 t29 f30 (by omega) hq1t29 hq2t29) (ob_recv hK hmH25.1 rfl) dX3_addSpan_105 k1119 k1121 ks10 k6 k1122 hd_X3_fails rfl ⟨by decide, by decide⟩ (Nat.le_of_ble_eq_true rfl) ⟨by dsimp only; omega, by dsimp only; omega⟩ hS (fun x hx => hx ▸ Or.inl (Or.inl rfl)) (fun H31 locs hmH31 hszH31 hk0H31 hS => ?_)
                have hkH31 : ∀ x : Nat, x < (H25).size → ¬ x = w 0 → H31[x]? = (H25)[x]? := hk0H31
                have haH25_H31 := haH25.kept (hkH31 _ haH25.lt (by omega))
                have hzH31 := hz0.at hAB hS
                have hltH31 := hmH31.lt
                refine q_ieq (tgt := 113) hx hb dX3_addSpan_108 (by decide) (by omega) (fun c32 => ?_) (fun c32 => ?_)
                · exact (show False by omega).elim
                · refine q_con hx hb dX3_addSpan_111 ?_
                  obtain rfl : t29 = 2 := by omega
                  have hmw : MWR θ S0 w H31 r q dt sv 2 dn rf kn := ⟨hzH31, hu, hmH31, hd, hsv⟩
                  exact e_i hx hb hr hlk hS dX3_addSpan_112 (Nat.le_of_ble_eq_true rfl) (Nat.le_of_ble_eq_true rfl) ⟨ex_i (by omega), r, q, by first | exact hmw | (subst_vars; exact hmw) | (simp only [inI_self, inI_1, inI_31] at hmw; subst_vars; exact hmw), by first | exact nw_rf | exact nw_up (by omega) | exact nw_up2 (by omega), by first | exact nw_rf | exact nw_up (by omega) | exact nw_up2 (by omega)⟩
              · exact (show False by omega).elim
      · exact (show False by omega).elim
    · exact (show False by omega).elim

set_option maxHeartbeats 4000000 in
set_option maxRecDepth 100000 in
theorem mr_spanNow (θ : TH) (l : Launch) (S0 : State) (H : Heap) (w : Nat → Nat) (r q : Nat → Nat) (dt : Nat → Int) (sv : Nat → Nat → Int) (th dn rf kn : Int) (hw : MWR θ S0 w H r q dt sv th dn rf kn) (a k : Int) (h_0 : 0 ≤ a ∧ a < 3) (h_1 : 0 ≤ k ∧ k ≤ 3) : CT l yX3_spanNow cX3_spanNow 3 (some .int) 1 21 0 0 [.ref (w 0), .int (iI a), .int (iI k)] S0 H (fun v H1 => v = some (.int (iI (if k = 3 then 12 * sv a.toNat 0 + sv a.toNat 1 else sv a.toNat k.toNat))) ∧ H1 = H) (fun _ _ => False) (fun _ => False) := by
  refine ct_of (by decide +kernel) (Nat.le_of_ble_eq_true rfl) ?_
  intro pg en s mi args below meth co ls fx hs hr hlk hxt hin hl
  subst hs
  obtain ⟨hx, hb, hml, hown, hts⟩ := id fx.1
  have hS : va_S (fun _ : Nat => False) s.heap s.heap [] := va_S.rf
  obtain ⟨hz, hu, hm, hd, hsv⟩ := id hw
  have hAB : ∀ x : Nat, (fun _ : Nat => False) x → θ.2.2.2 ≤ x := fun _ h => h.elim
  have hz0 := hz
  have hK := sz_K fx.2 hz
  have hlt0 := hm.lt
  have hu1 := hu.1
  refine lv_iload_n hx hb dX3_spanNow_0 rfl (lv_at hl 2 rfl) ?_
  refine q_con hx hb dX3_spanNow_1 ?_
  refine q_cne (tgt := 13) hx hb dX3_spanNow_2 (by decide) (by omega) (by omega) (fun c1 => ?_) (fun c1 => ?_)
  · refine lv_aload_n hx hb dX3_spanNow_13 rfl (lv_at hl 0 rfl) ?_
    refine r_get (θ := θ) (C := RX3) (T := TX3) (N := 6) (ci := 9) hx hb hts gwX3 hown hK hm.1 rfl 5 (by decide) k1095 (fun _ h => h) (v := .ref (w 2)) rfl dX3_spanNow_14 ?_
    refine lv_iload_n hx hb dX3_spanNow_17 rfl (lv_at hl 1 rfl) ?_
    refine r_aald (θ := θ) hx hb hK hm.2.2.1 (i := a) (by omega) (by decide) dX3_spanNow_18 ?_
    have rw2 := (hm.2.2.2.2 (a.toNat) (by omega)).1
    have rw2t := hsv (a.toNat) (by omega)
    have rw2l := rw2.lt
    refine lv_iload_n hx hb dX3_spanNow_19 rfl (lv_at hl 2 rfl) ?_
    refine r_iald (θ := θ) hx hb hK rw2 (i := k) (by omega) (by decide) dX3_spanNow_20 ?_
    exact e_i hx hb hr hlk hS dX3_spanNow_21 (Nat.le_refl _) (Nat.le_refl _) ⟨ex_i (by subst_vars; split <;> omega), rfl⟩
  · refine lv_aload_n hx hb dX3_spanNow_5 rfl (lv_at hl 0 rfl) ?_
    refine lv_iload_n hx hb dX3_spanNow_6 rfl (lv_at hl 1 rfl) ?_
    have hmw : MWR θ S0 w s.heap r q dt sv th dn rf kn := ⟨hz, hu, hm, hd, hsv⟩
    refine c_HV (As := [.int (iI a)]) (rest := []) (b := w 0) (C := RX3) fx hl (mr_all θ l S0 _ w _ _ _ _ _ _ _ _ hmw a (by omega)) (ob_recv hK hm.1 rfl) dX3_spanNow_7 k1214 k1216 ks14 k6 k1217 hd_X3_all rfl ⟨by decide, by decide⟩ (Nat.le_of_ble_eq_true rfl) ⟨by dsimp only; omega, by dsimp only; omega⟩ ?_
    refine q_nm (fun z3 ez3 => ?_)
    refine lv_goto (tgt := 21) hx hb dX3_spanNow_10 (by decide) ?_
    exact e_i hx hb hr hlk hS dX3_spanNow_21 (Nat.le_refl _) (Nat.le_refl _) ⟨ex_i (by subst_vars; split <;> omega), rfl⟩

set_option maxHeartbeats 4000000 in
set_option maxRecDepth 100000 in
theorem mok_ofSpan (θ : TH) (l : Launch) (S0 : State) (H : Heap) (w : Nat → Nat) (r q : Nat → Nat) (dt : Nat → Int) (sv : Nat → Nat → Int) (th dn rf kn : Int) (hw : MWR θ S0 w H r q dt sv th dn rf kn) (a k : Int) (h_0 : -2147483648 ≤ a ∧ a < 2147483648) (h_1 : -2147483648 ≤ k ∧ k < 2147483648) (h_2 : 0 ≤ a ∧ a < 3) (h_3 : 0 ≤ k ∧ k ≤ 3) : CT l yX3_ofSpan cX3_ofSpan 3 (some .int) 2 43 0 0 [.ref (w 0), .int (iI a), .int (iI k)] S0 H (fun v9 H1 => v9 = some (.int (iI (if k = 3 then 12 * sv a.toNat 0 + sv a.toNat 1 else sv a.toNat k.toNat))) ∧ ∃ r1 q1 : Nat → Nat, MWR θ S0 w H1 r1 q1 dt sv 0 dn rf kn ∧ NW 6 H.size r r1 ∧ NW 3 H.size q q1) (fun _ _ => False) (WA w H.size) := by
  refine ct_of (by decide +kernel) (Nat.le_of_ble_eq_true rfl) ?_
  intro pg en s mi args below meth co ls fx hs hr hlk hxt hin hl
  subst hs
  obtain ⟨hx, hb, hml, hown, hts⟩ := id fx.1
  have hS : va_S (WA w s.heap.size) s.heap s.heap [] := va_S.rf
  obtain ⟨hz, hu, hm, hd, hsv⟩ := id hw
  have hAB : ∀ x : Nat, (WA w s.heap.size) x → θ.2.2.2 ≤ x := wa_b hu hz.2.1
  have hz0 := hz
  have hK := sz_K fx.2 hz
  have hlt0 := hm.lt
  have hu1 := hu.1
  have hAn : ∀ x : Nat, s.heap.size ≤ x → (WA w s.heap.size) x := fun _ h => Or.inr h
  refine lv_aload_n hx hb dX3_ofSpan_0 rfl (lv_at hl 0 rfl) ?_
  refine lv_iload_n hx hb dX3_ofSpan_1 rfl (lv_at hl 1 rfl) ?_
  obtain ⟨r1, hr1⟩ := bex (a < 0 ∨ 2 < a)
  refine c_P (As := [.int (iI a)]) (rest := [.ref (w 0)]) fx hl (pm_X3_isNoSpan l a r1 hr1 (by omega)) dX3_ofSpan_2 k1207 k1208 k6 k1209 hd_X3_isNoSpan rfl ⟨by decide, by decide⟩ (Nat.le_of_ble_eq_true rfl) ⟨by dsimp only; omega, by dsimp only; omega⟩ ?_
  have br1 : r1 = 0 ∨ r1 = 1 := hr1.elim (fun h => Or.inr h.1) (fun h => Or.inl h.1)
  refine lv_iload_n hx hb dX3_ofSpan_5 rfl (lv_at hl 2 rfl) ?_
  refine q_con hx hb dX3_ofSpan_6 ?_
  refine q_con hx hb dX3_ofSpan_7 ?_
  obtain ⟨r2, hr2⟩ := bex (k < 0 ∨ 3 < k)
  refine c_P (As := [.int (iI k), .int (iI 0), .int (iI 3)]) (rest := [.int (iI r1), .ref (w 0)]) fx hl (pm_X3_isOut l k 0 3 r2 hr2 (by omega) (by omega) (by omega)) dX3_ofSpan_8 k1116 k1117 k6 k1118 hd_X3_isOut rfl ⟨by decide, by decide⟩ (Nat.le_of_ble_eq_true rfl) ⟨by dsimp only; omega, by dsimp only; omega⟩ ?_
  have br2 : r2 = 0 ∨ r2 = 1 := hr2.elim (fun h => Or.inr h.1) (fun h => Or.inl h.1)
  refine q_con hx hb dX3_ofSpan_11 ?_
  obtain ⟨t3, f4, hq1t3, hq2t3⟩ := fails_ex r1 r2 0 (by omega) (by omega) (by omega)
  have hmw : MWR θ S0 w s.heap r q dt sv th dn rf kn := ⟨hz, hu, hm, hd, hsv⟩
  refine c_M (w := w) (As := [.int (iI r1), .int (iI r2), .int (iI 0)]) (rest := []) (b := w 0) (C := RX3) fx hl (mw_fails θ l S0 _ w _ _ _ _ _ _ _ _ hmw r1 r2 0 t3 f4 (by omega) hq1t3 hq2t3) (ob_recv hK hm.1 rfl) dX3_ofSpan_12 k1119 k1121 ks10 k6 k1122 hd_X3_fails rfl ⟨by decide, by decide⟩ (Nat.le_of_ble_eq_true rfl) ⟨by dsimp only; omega, by dsimp only; omega⟩ hS (fun x hx => hx ▸ Or.inl (Or.inl rfl)) (fun H5 locs hmH5 hszH5 hk0H5 hS => ?_)
  have hkH5 : ∀ x : Nat, x < (s.heap).size → ¬ x = w 0 → H5[x]? = (s.heap)[x]? := hk0H5
  have hzH5 := hz0.at hAB hS
  have hltH5 := hmH5.lt
  refine q_ieq (tgt := 22) hx hb dX3_ofSpan_15 (by decide) (by omega) (fun c6 => ?_) (fun c6 => ?_)
  · refine lv_aload_n hx hb dX3_ofSpan_22 rfl (lv_at hl 0 rfl) ?_
    refine lv_iload_n hx hb dX3_ofSpan_23 rfl (lv_at hl 1 rfl) ?_
    refine lv_iload_n hx hb dX3_ofSpan_24 rfl (lv_at hl 2 rfl) ?_
    have hmw : MWR θ S0 w H5 r q dt sv t3 dn rf kn := ⟨hzH5, hu, hmH5, hd, hsv⟩
    refine c_HV (As := [.int (iI a), .int (iI k)]) (rest := []) (b := w 0) (C := RX3) fx hl (mr_spanNow θ l S0 _ w _ _ _ _ _ _ _ _ hmw a k (by omega) (by omega)) (ob_recv hK hmH5.1 rfl) dX3_ofSpan_25 k1254 k1256 ks16 k6 k1257 hd_X3_spanNow rfl ⟨by decide, by decide⟩ (Nat.le_of_ble_eq_true rfl) ⟨by dsimp only; omega, by dsimp only; omega⟩ ?_
    refine q_nm (fun z7 ez7 => ?_)
    obtain rfl : t3 = 0 := by omega
    have hmw : MWR θ S0 w H5 r q dt sv 0 dn rf kn := ⟨hzH5, hu, hmH5, hd, hsv⟩
    exact e_i hx hb hr hlk hS dX3_ofSpan_28 (Nat.le_of_ble_eq_true rfl) (Nat.le_of_ble_eq_true rfl) ⟨ex_i (by subst_vars; first | omega | (simp only [up_s, tri_0, tri_1, tri_2, inI_self, inI_1, inI_31]; done) | (simp only [up_s, tri_0, tri_1, tri_2, inI_self, inI_1, inI_31]; omega) | (simp only [up_s, tri_0, tri_1, tri_2]; subst_vars; first | rfl | omega)), r, q, by first | exact hmw | (subst_vars; exact hmw) | (simp only [inI_self, inI_1, inI_31] at hmw; subst_vars; exact hmw), by first | exact nw_rf | exact nw_up (by omega) | exact nw_up2 (by omega), by first | exact nw_rf | exact nw_up (by omega) | exact nw_up2 (by omega)⟩
  · exact (show False by omega).elim

set_option maxHeartbeats 4000000 in
set_option maxRecDepth 100000 in
theorem mno1_ofSpan (θ : TH) (l : Launch) (S0 : State) (H : Heap) (w : Nat → Nat) (r q : Nat → Nat) (dt : Nat → Int) (sv : Nat → Nat → Int) (th dn rf kn : Int) (hw : MWR θ S0 w H r q dt sv th dn rf kn) (a k : Int) (h_0 : -2147483648 ≤ a ∧ a < 2147483648) (h_1 : -2147483648 ≤ k ∧ k < 2147483648) (h_2 : ¬ (0 ≤ a ∧ a < 3)) : CT l yX3_ofSpan cX3_ofSpan 3 (some .int) 2 42 0 0 [.ref (w 0), .int (iI a), .int (iI k)] S0 H (fun v9 H1 => v9 = some (.int (iI 0)) ∧ ∃ r1 q1 : Nat → Nat, MWR θ S0 w H1 r1 q1 dt sv 1 dn rf kn ∧ NW 6 H.size r r1 ∧ NW 3 H.size q q1) (fun _ _ => False) (WA w H.size) := by
  refine ct_of (by decide +kernel) (Nat.le_of_ble_eq_true rfl) ?_
  intro pg en s mi args below meth co ls fx hs hr hlk hxt hin hl
  subst hs
  obtain ⟨hx, hb, hml, hown, hts⟩ := id fx.1
  have hS : va_S (WA w s.heap.size) s.heap s.heap [] := va_S.rf
  obtain ⟨hz, hu, hm, hd, hsv⟩ := id hw
  have hAB : ∀ x : Nat, (WA w s.heap.size) x → θ.2.2.2 ≤ x := wa_b hu hz.2.1
  have hz0 := hz
  have hK := sz_K fx.2 hz
  have hlt0 := hm.lt
  have hu1 := hu.1
  have hAn : ∀ x : Nat, s.heap.size ≤ x → (WA w s.heap.size) x := fun _ h => Or.inr h
  refine lv_aload_n hx hb dX3_ofSpan_0 rfl (lv_at hl 0 rfl) ?_
  refine lv_iload_n hx hb dX3_ofSpan_1 rfl (lv_at hl 1 rfl) ?_
  obtain ⟨r1, hr1⟩ := bex (a < 0 ∨ 2 < a)
  refine c_P (As := [.int (iI a)]) (rest := [.ref (w 0)]) fx hl (pm_X3_isNoSpan l a r1 hr1 (by omega)) dX3_ofSpan_2 k1207 k1208 k6 k1209 hd_X3_isNoSpan rfl ⟨by decide, by decide⟩ (Nat.le_of_ble_eq_true rfl) ⟨by dsimp only; omega, by dsimp only; omega⟩ ?_
  have br1 : r1 = 0 ∨ r1 = 1 := hr1.elim (fun h => Or.inr h.1) (fun h => Or.inl h.1)
  refine lv_iload_n hx hb dX3_ofSpan_5 rfl (lv_at hl 2 rfl) ?_
  refine q_con hx hb dX3_ofSpan_6 ?_
  refine q_con hx hb dX3_ofSpan_7 ?_
  obtain ⟨r2, hr2⟩ := bex (k < 0 ∨ 3 < k)
  refine c_P (As := [.int (iI k), .int (iI 0), .int (iI 3)]) (rest := [.int (iI r1), .ref (w 0)]) fx hl (pm_X3_isOut l k 0 3 r2 hr2 (by omega) (by omega) (by omega)) dX3_ofSpan_8 k1116 k1117 k6 k1118 hd_X3_isOut rfl ⟨by decide, by decide⟩ (Nat.le_of_ble_eq_true rfl) ⟨by dsimp only; omega, by dsimp only; omega⟩ ?_
  have br2 : r2 = 0 ∨ r2 = 1 := hr2.elim (fun h => Or.inr h.1) (fun h => Or.inl h.1)
  refine q_con hx hb dX3_ofSpan_11 ?_
  obtain ⟨t3, f4, hq1t3, hq2t3⟩ := fails_ex r1 r2 0 (by omega) (by omega) (by omega)
  have hmw : MWR θ S0 w s.heap r q dt sv th dn rf kn := ⟨hz, hu, hm, hd, hsv⟩
  refine c_M (w := w) (As := [.int (iI r1), .int (iI r2), .int (iI 0)]) (rest := []) (b := w 0) (C := RX3) fx hl (mw_fails θ l S0 _ w _ _ _ _ _ _ _ _ hmw r1 r2 0 t3 f4 (by omega) hq1t3 hq2t3) (ob_recv hK hm.1 rfl) dX3_ofSpan_12 k1119 k1121 ks10 k6 k1122 hd_X3_fails rfl ⟨by decide, by decide⟩ (Nat.le_of_ble_eq_true rfl) ⟨by dsimp only; omega, by dsimp only; omega⟩ hS (fun x hx => hx ▸ Or.inl (Or.inl rfl)) (fun H5 locs hmH5 hszH5 hk0H5 hS => ?_)
  have hkH5 : ∀ x : Nat, x < (s.heap).size → ¬ x = w 0 → H5[x]? = (s.heap)[x]? := hk0H5
  have hzH5 := hz0.at hAB hS
  have hltH5 := hmH5.lt
  refine q_ieq (tgt := 22) hx hb dX3_ofSpan_15 (by decide) (by omega) (fun c6 => ?_) (fun c6 => ?_)
  · exact (show False by omega).elim
  · refine q_con hx hb dX3_ofSpan_18 ?_
    refine lv_goto (tgt := 28) hx hb dX3_ofSpan_19 (by decide) ?_
    obtain rfl : t3 = 1 := by omega
    have hmw : MWR θ S0 w H5 r q dt sv 1 dn rf kn := ⟨hzH5, hu, hmH5, hd, hsv⟩
    exact e_i hx hb hr hlk hS dX3_ofSpan_28 (Nat.le_of_ble_eq_true rfl) (Nat.le_of_ble_eq_true rfl) ⟨ex_i (by omega), r, q, by first | exact hmw | (subst_vars; exact hmw) | (simp only [inI_self, inI_1, inI_31] at hmw; subst_vars; exact hmw), by first | exact nw_rf | exact nw_up (by omega) | exact nw_up2 (by omega), by first | exact nw_rf | exact nw_up (by omega) | exact nw_up2 (by omega)⟩

set_option maxHeartbeats 4000000 in
set_option maxRecDepth 100000 in
theorem mno2_ofSpan (θ : TH) (l : Launch) (S0 : State) (H : Heap) (w : Nat → Nat) (r q : Nat → Nat) (dt : Nat → Int) (sv : Nat → Nat → Int) (th dn rf kn : Int) (hw : MWR θ S0 w H r q dt sv th dn rf kn) (a k : Int) (h_0 : -2147483648 ≤ a ∧ a < 2147483648) (h_1 : -2147483648 ≤ k ∧ k < 2147483648) (h_2 : 0 ≤ a ∧ a < 3) (h_3 : ¬ (0 ≤ k ∧ k ≤ 3)) : CT l yX3_ofSpan cX3_ofSpan 3 (some .int) 2 42 0 0 [.ref (w 0), .int (iI a), .int (iI k)] S0 H (fun v9 H1 => v9 = some (.int (iI 0)) ∧ ∃ r1 q1 : Nat → Nat, MWR θ S0 w H1 r1 q1 dt sv 2 dn rf kn ∧ NW 6 H.size r r1 ∧ NW 3 H.size q q1) (fun _ _ => False) (WA w H.size) := by
  refine ct_of (by decide +kernel) (Nat.le_of_ble_eq_true rfl) ?_
  intro pg en s mi args below meth co ls fx hs hr hlk hxt hin hl
  subst hs
  obtain ⟨hx, hb, hml, hown, hts⟩ := id fx.1
  have hS : va_S (WA w s.heap.size) s.heap s.heap [] := va_S.rf
  obtain ⟨hz, hu, hm, hd, hsv⟩ := id hw
  have hAB : ∀ x : Nat, (WA w s.heap.size) x → θ.2.2.2 ≤ x := wa_b hu hz.2.1
  have hz0 := hz
  have hK := sz_K fx.2 hz
  have hlt0 := hm.lt
  have hu1 := hu.1
  have hAn : ∀ x : Nat, s.heap.size ≤ x → (WA w s.heap.size) x := fun _ h => Or.inr h
  refine lv_aload_n hx hb dX3_ofSpan_0 rfl (lv_at hl 0 rfl) ?_
  refine lv_iload_n hx hb dX3_ofSpan_1 rfl (lv_at hl 1 rfl) ?_
  obtain ⟨r1, hr1⟩ := bex (a < 0 ∨ 2 < a)
  refine c_P (As := [.int (iI a)]) (rest := [.ref (w 0)]) fx hl (pm_X3_isNoSpan l a r1 hr1 (by omega)) dX3_ofSpan_2 k1207 k1208 k6 k1209 hd_X3_isNoSpan rfl ⟨by decide, by decide⟩ (Nat.le_of_ble_eq_true rfl) ⟨by dsimp only; omega, by dsimp only; omega⟩ ?_
  have br1 : r1 = 0 ∨ r1 = 1 := hr1.elim (fun h => Or.inr h.1) (fun h => Or.inl h.1)
  refine lv_iload_n hx hb dX3_ofSpan_5 rfl (lv_at hl 2 rfl) ?_
  refine q_con hx hb dX3_ofSpan_6 ?_
  refine q_con hx hb dX3_ofSpan_7 ?_
  obtain ⟨r2, hr2⟩ := bex (k < 0 ∨ 3 < k)
  refine c_P (As := [.int (iI k), .int (iI 0), .int (iI 3)]) (rest := [.int (iI r1), .ref (w 0)]) fx hl (pm_X3_isOut l k 0 3 r2 hr2 (by omega) (by omega) (by omega)) dX3_ofSpan_8 k1116 k1117 k6 k1118 hd_X3_isOut rfl ⟨by decide, by decide⟩ (Nat.le_of_ble_eq_true rfl) ⟨by dsimp only; omega, by dsimp only; omega⟩ ?_
  have br2 : r2 = 0 ∨ r2 = 1 := hr2.elim (fun h => Or.inr h.1) (fun h => Or.inl h.1)
  refine q_con hx hb dX3_ofSpan_11 ?_
  obtain ⟨t3, f4, hq1t3, hq2t3⟩ := fails_ex r1 r2 0 (by omega) (by omega) (by omega)
  have hmw : MWR θ S0 w s.heap r q dt sv th dn rf kn := ⟨hz, hu, hm, hd, hsv⟩
  refine c_M (w := w) (As := [.int (iI r1), .int (iI r2), .int (iI 0)]) (rest := []) (b := w 0) (C := RX3) fx hl (mw_fails θ l S0 _ w _ _ _ _ _ _ _ _ hmw r1 r2 0 t3 f4 (by omega) hq1t3 hq2t3) (ob_recv hK hm.1 rfl) dX3_ofSpan_12 k1119 k1121 ks10 k6 k1122 hd_X3_fails rfl ⟨by decide, by decide⟩ (Nat.le_of_ble_eq_true rfl) ⟨by dsimp only; omega, by dsimp only; omega⟩ hS (fun x hx => hx ▸ Or.inl (Or.inl rfl)) (fun H5 locs hmH5 hszH5 hk0H5 hS => ?_)
  have hkH5 : ∀ x : Nat, x < (s.heap).size → ¬ x = w 0 → H5[x]? = (s.heap)[x]? := hk0H5
  have hzH5 := hz0.at hAB hS
  have hltH5 := hmH5.lt
  refine q_ieq (tgt := 22) hx hb dX3_ofSpan_15 (by decide) (by omega) (fun c6 => ?_) (fun c6 => ?_)
  · exact (show False by omega).elim
  · refine q_con hx hb dX3_ofSpan_18 ?_
    refine lv_goto (tgt := 28) hx hb dX3_ofSpan_19 (by decide) ?_
    obtain rfl : t3 = 2 := by omega
    have hmw : MWR θ S0 w H5 r q dt sv 2 dn rf kn := ⟨hzH5, hu, hmH5, hd, hsv⟩
    exact e_i hx hb hr hlk hS dX3_ofSpan_28 (Nat.le_of_ble_eq_true rfl) (Nat.le_of_ble_eq_true rfl) ⟨ex_i (by omega), r, q, by first | exact hmw | (subst_vars; exact hmw) | (simp only [inI_self, inI_1, inI_31] at hmw; subst_vars; exact hmw), by first | exact nw_rf | exact nw_up (by omega) | exact nw_up2 (by omega), by first | exact nw_rf | exact nw_up (by omega) | exact nw_up2 (by omega)⟩

set_option maxHeartbeats 4000000 in
set_option maxRecDepth 100000 in
theorem mr_isAhead (θ : TH) (l : Launch) (S0 : State) (H : Heap) (w : Nat → Nat) (r q : Nat → Nat) (dt : Nat → Int) (sv : Nat → Nat → Int) (th dn rf kn : Int) (hw : MWR θ S0 w H r q dt sv th dn rf kn) (a b : Int) (r9 : Int) (hr0 : (r9 = 1 ∧ (dt a.toNat < dt b.toNat)) ∨ (r9 = 0 ∧ ¬ (dt a.toNat < dt b.toNat))) (h_0 : 0 ≤ a ∧ a < 6) (h_1 : 0 ≤ b ∧ b < 6) : CT l yX3_isAhead cX3_isAhead 3 (some .boolean) 7 148 0 0 [.ref (w 0), .int (iI a), .int (iI b)] S0 H (fun v H1 => v = some (.int (iI r9)) ∧ H1 = H) (fun _ _ => False) (fun _ => False) := by
  refine ct_of (by decide +kernel) (Nat.le_of_ble_eq_true rfl) ?_
  intro pg en s mi args below meth co ls fx hs hr hlk hxt hin hl
  subst hs
  obtain ⟨hx, hb, hml, hown, hts⟩ := id fx.1
  have hS : va_S (fun _ : Nat => False) s.heap s.heap [] := va_S.rf
  obtain ⟨hz, hu, hm, hd, hsv⟩ := id hw
  have hAB : ∀ x : Nat, (fun _ : Nat => False) x → θ.2.2.2 ≤ x := fun _ h => h.elim
  have hz0 := hz
  have hK := sz_K fx.2 hz
  have hlt0 := hm.lt
  have hu1 := hu.1
  refine lv_aload_n hx hb dX3_isAhead_0 rfl (lv_at hl 0 rfl) ?_
  refine lv_iload_n hx hb dX3_isAhead_1 rfl (lv_at hl 1 rfl) ?_
  have hmw : MWR θ S0 w s.heap r q dt sv th dn rf kn := ⟨hz, hu, hm, hd, hsv⟩
  refine c_HV (As := [.int (iI a)]) (rest := []) (b := w 0) (C := RX3) fx hl (mr_became θ l S0 _ w _ _ _ _ _ _ _ _ hmw a (by omega)) (ob_recv hK hm.1 rfl) dX3_isAhead_2 k1141 k1143 ks12 k6 k1144 hd_X3_became rfl ⟨by decide, by decide⟩ (Nat.le_of_ble_eq_true rfl) ⟨by dsimp only; omega, by dsimp only; omega⟩ ?_
  have t0z1 := hd a.toNat (by omega)
  refine lv_aload_n hx hb dX3_isAhead_5 rfl (lv_at hl 0 rfl) ?_
  refine lv_iload_n hx hb dX3_isAhead_6 rfl (lv_at hl 2 rfl) ?_
  have hmw : MWR θ S0 w s.heap r q dt sv th dn rf kn := ⟨hz, hu, hm, hd, hsv⟩
  refine c_HV (As := [.int (iI b)]) (rest := [.int (iI (dt a.toNat))]) (b := w 0) (C := RX3) fx hl (mr_became θ l S0 _ w _ _ _ _ _ _ _ _ hmw b (by omega)) (ob_recv hK hm.1 rfl) dX3_isAhead_7 k1141 k1143 ks12 k6 k1144 hd_X3_became rfl ⟨by decide, by decide⟩ (Nat.le_of_ble_eq_true rfl) ⟨by dsimp only; omega, by dsimp only; omega⟩ ?_
  have t0z2 := hd b.toNat (by omega)
  refine q_cge (tgt := 17) hx hb dX3_isAhead_10 (by decide) (by omega) (by omega) (fun c3 => ?_) (fun c3 => ?_)
  · refine q_con hx hb dX3_isAhead_17 ?_
    exact e_z hx hb hr hlk (by decide) hS dX3_isAhead_18 (Nat.le_refl _) (Nat.le_refl _) ⟨ex_i (by omega), rfl⟩
  · refine q_con hx hb dX3_isAhead_13 ?_
    refine lv_goto (tgt := 18) hx hb dX3_isAhead_14 (by decide) ?_
    exact e_z hx hb hr hlk (by decide) hS dX3_isAhead_18 (Nat.le_refl _) (Nat.le_refl _) ⟨ex_i (by omega), rfl⟩

set_option maxHeartbeats 4000000 in
set_option maxRecDepth 100000 in
theorem mok_until (θ : TH) (l : Launch) (S0 : State) (H : Heap) (w : Nat → Nat) (r q : Nat → Nat) (dt : Nat → Int) (sv : Nat → Nat → Int) (th dn rf kn : Int) (hw : MWR θ S0 w H r q dt sv th dn rf kn) (a b c : Int) (h_0 : -2147483648 ≤ a ∧ a < 2147483648) (h_1 : -2147483648 ≤ b ∧ b < 2147483648) (h_2 : -2147483648 ≤ c ∧ c < 2147483648) (h_3 : 0 ≤ a ∧ a < 3) (h_4 : 0 ≤ b ∧ b < 6) (h_5 : 0 ≤ c ∧ c < 6) (h_6 : dt b.toNat ≤ dt c.toNat) : CT l yX3_until cX3_until 6 (some .int) 8 170 2 5 [.ref (w 0), .int (iI a), .int (iI b), .int (iI c)] S0 H (fun v9 H1 => v9 = some (.int (iI (dt c.toNat - shI (dt b.toNat) (muI (dt b.toNat) (dt c.toNat))))) ∧ ∃ r1 q1 : Nat → Nat, MWR θ S0 w H1 r1 q1 dt (up sv a.toNat (tri (muI (dt b.toNat) (dt c.toNat) / 12) (muI (dt b.toNat) (dt c.toNat) % 12) (dt c.toNat - shI (dt b.toNat) (muI (dt b.toNat) (dt c.toNat))))) 0 (dn + 1) rf kn ∧ NW 6 H.size r r1 ∧ NW 3 H.size q q1) (fun _ _ => False) (WA w H.size) := by
  refine ct_of (by decide +kernel) (Nat.le_of_ble_eq_true rfl) ?_
  intro pg en s mi args below meth co ls fx hs hr hlk hxt hin hl
  subst hs
  obtain ⟨hx, hb, hml, hown, hts⟩ := id fx.1
  have hS : va_S (WA w s.heap.size) s.heap s.heap [] := va_S.rf
  obtain ⟨hz, hu, hm, hd, hsv⟩ := id hw
  have hAB : ∀ x : Nat, (WA w s.heap.size) x → θ.2.2.2 ≤ x := wa_b hu hz.2.1
  have hz0 := hz
  have hK := sz_K fx.2 hz
  have hlt0 := hm.lt
  have hu1 := hu.1
  have hAn : ∀ x : Nat, s.heap.size ≤ x → (WA w s.heap.size) x := fun _ h => Or.inr h
  have tm := mu_b (dt b.toNat) (dt c.toNat)
  have tm2 : muI (dt b.toNat) (dt c.toNat) = (if dI (dt c.toNat) < dI (dt b.toNat) then mI (dt c.toNat) - mI (dt b.toNat) - 1 else mI (dt c.toNat) - mI (dt b.toNat)) := rfl
  have tm3 := shI_s (dt b.toNat) (muI (dt b.toNat) (dt c.toNat))
  have tm4 := fI_mono (a := mI (dt b.toNat) + muI (dt b.toNat) (dt c.toNat)) (b := mI (dt c.toNat)) (by omega)
  have tm5 := mI_s (dt c.toNat)
  have tm6 := len_b (mI (dt b.toNat) + muI (dt b.toNat) (dt c.toNat))
  refine lv_aload_n hx hb dX3_until_0 rfl (lv_at hl 0 rfl) ?_
  refine lv_iload_n hx hb dX3_until_1 rfl (lv_at hl 1 rfl) ?_
  obtain ⟨r1, hr1⟩ := bex (a < 0 ∨ 2 < a)
  refine c_P (As := [.int (iI a)]) (rest := [.ref (w 0)]) fx hl (pm_X3_isNoSpan l a r1 hr1 (by omega)) dX3_until_2 k1207 k1208 k6 k1209 hd_X3_isNoSpan rfl ⟨by decide, by decide⟩ (Nat.le_of_ble_eq_true rfl) ⟨by dsimp only; omega, by dsimp only; omega⟩ ?_
  have br1 : r1 = 0 ∨ r1 = 1 := hr1.elim (fun h => Or.inr h.1) (fun h => Or.inl h.1)
  refine q_ine (tgt := 16) hx hb dX3_until_5 (by decide) (by omega) (fun c2 => ?_) (fun c2 => ?_)
  · exact (show False by omega).elim
  · refine lv_iload_n hx hb dX3_until_8 rfl (lv_at hl 2 rfl) ?_
    refine lv_iload_n hx hb dX3_until_9 rfl (lv_at hl 3 rfl) ?_
    obtain ⟨r3, hr3⟩ := bex ((b < 0 ∨ 5 < b) ∨ (c < 0 ∨ 5 < c))
    refine c_P (As := [.int (iI b), .int (iI c)]) (rest := [.ref (w 0)]) fx hl (pm_X3_areNo l b c r3 hr3 (by omega) (by omega)) dX3_until_10 k1162 k1163 k6 k1164 hd_X3_areNo rfl ⟨by decide, by decide⟩ (Nat.le_of_ble_eq_true rfl) ⟨by dsimp only; omega, by dsimp only; omega⟩ ?_
    have br3 : r3 = 0 ∨ r3 = 1 := hr3.elim (fun h => Or.inr h.1) (fun h => Or.inl h.1)
    refine q_ieq (tgt := 20) hx hb dX3_until_13 (by decide) (by omega) (fun c4 => ?_) (fun c4 => ?_)
    · refine q_con hx hb dX3_until_20 ?_
      refine lv_iload_n hx hb dX3_until_21 rfl (lv_at hl 2 rfl) ?_
      refine lv_iload_n hx hb dX3_until_22 rfl (lv_at hl 3 rfl) ?_
      obtain ⟨r5, hr5⟩ := bex ((b < 0 ∨ 5 < b) ∨ (c < 0 ∨ 5 < c))
      refine c_P (As := [.int (iI b), .int (iI c)]) (rest := [.int (iI 0), .ref (w 0)]) fx hl (pm_X3_areNo l b c r5 hr5 (by omega) (by omega)) dX3_until_23 k1162 k1163 k6 k1164 hd_X3_areNo rfl ⟨by decide, by decide⟩ (Nat.le_of_ble_eq_true rfl) ⟨by dsimp only; omega, by dsimp only; omega⟩ ?_
      have br5 : r5 = 0 ∨ r5 = 1 := hr5.elim (fun h => Or.inr h.1) (fun h => Or.inl h.1)
      refine q_ine (tgt := 42) hx hb dX3_until_26 (by decide) (by omega) (fun c6 => ?_) (fun c6 => ?_)
      · exact (show False by omega).elim
      · refine lv_aload_n hx hb dX3_until_29 rfl (lv_at hl 0 rfl) ?_
        refine lv_iload_n hx hb dX3_until_30 rfl (lv_at hl 3 rfl) ?_
        refine lv_iload_n hx hb dX3_until_31 rfl (lv_at hl 2 rfl) ?_
        obtain ⟨r7, hr7⟩ := bex (dt c.toNat < dt b.toNat)
        have hmw : MWR θ S0 w s.heap r q dt sv th dn rf kn := ⟨hz, hu, hm, hd, hsv⟩
        refine c_HV (As := [.int (iI c), .int (iI b)]) (rest := [.int (iI 0), .ref (w 0)]) (b := w 0) (C := RX3) fx hl (mr_isAhead θ l S0 _ w _ _ _ _ _ _ _ _ hmw c b r7 hr7 (by omega) (by omega)) (ob_recv hK hm.1 rfl) dX3_until_32 k1232 k1234 ks15 k6 k1235 hd_X3_isAhead rfl ⟨by decide, by decide⟩ (Nat.le_of_ble_eq_true rfl) ⟨by dsimp only; omega, by dsimp only; omega⟩ ?_
        have br7 : r7 = 0 ∨ r7 = 1 := hr7.elim (fun h => Or.inr h.1) (fun h => Or.inl h.1)
        refine q_ieq (tgt := 42) hx hb dX3_until_35 (by decide) (by omega) (fun c8 => ?_) (fun c8 => ?_)
        · refine q_con hx hb dX3_until_42 ?_
          refine q_con hx hb dX3_until_43 ?_
          obtain ⟨t9, f10, hq1t9, hq2t9⟩ := fails_ex 0 0 0 (by omega) (by omega) (by omega)
          have hmw : MWR θ S0 w s.heap r q dt sv th dn rf kn := ⟨hz, hu, hm, hd, hsv⟩
          refine c_M (w := w) (As := [.int (iI 0), .int (iI 0), .int (iI 0)]) (rest := []) (b := w 0) (C := RX3) fx hl (mw_fails θ l S0 _ w _ _ _ _ _ _ _ _ hmw 0 0 0 t9 f10 (by omega) hq1t9 hq2t9) (ob_recv hK hm.1 rfl) dX3_until_44 k1119 k1121 ks10 k6 k1122 hd_X3_fails rfl ⟨by decide, by decide⟩ (Nat.le_of_ble_eq_true rfl) ⟨by dsimp only; omega, by dsimp only; omega⟩ hS (fun x hx => hx ▸ Or.inl (Or.inl rfl)) (fun H11 locs hmH11 hszH11 hk0H11 hS => ?_)
          have hkH11 : ∀ x : Nat, x < (s.heap).size → ¬ x = w 0 → H11[x]? = (s.heap)[x]? := hk0H11
          have hzH11 := hz0.at hAB hS
          have hltH11 := hmH11.lt
          refine q_ieq (tgt := 52) hx hb dX3_until_47 (by decide) (by omega) (fun c12 => ?_) (fun c12 => ?_)
          · refine lv_aload_n hx hb dX3_until_52 rfl (lv_at hl 0 rfl) ?_
            refine r_get (θ := θ) (C := RX3) (T := TX3) (N := 6) (ci := 9) hx hb hts gwX3 hown hK hmH11.1 rfl 4 (by decide) k1094 (fun _ h => h) (v := .ref (w 1)) rfl dX3_until_53 ?_
            refine lv_iload_n hx hb dX3_until_56 rfl (lv_at hl 2 rfl) ?_
            refine r_aald (θ := θ) hx hb hK hmH11.2.1 (i := b) (by omega) (by decide) dX3_until_57 ?_
            have rw13 := (hmH11.2.2.2.1 (b.toNat) (by omega)).1
            have rw13n := (hmH11.2.2.2.1 (b.toNat) (by omega)).2
            have rw13t := hd (b.toNat) (by omega)
            have rw13l := rw13.lt
            have rw13i := inR rw13t
            have rw13m := inM rw13i
            have rw13d := dI_b (dt b.toNat)
            refine lv_aload_n hx hb dX3_until_58 rfl (lv_at hl 0 rfl) ?_
            refine r_get (θ := θ) (C := RX3) (T := TX3) (N := 6) (ci := 9) hx hb hts gwX3 hown hK hmH11.1 rfl 4 (by decide) k1094 (fun _ h => h) (v := .ref (w 1)) rfl dX3_until_59 ?_
            refine lv_iload_n hx hb dX3_until_62 rfl (lv_at hl 3 rfl) ?_
            refine r_aald (θ := θ) hx hb hK hmH11.2.1 (i := c) (by omega) (by decide) dX3_until_63 ?_
            have rw14 := (hmH11.2.2.2.1 (c.toNat) (by omega)).1
            have rw14n := (hmH11.2.2.2.1 (c.toNat) (by omega)).2
            have rw14t := hd (c.toNat) (by omega)
            have rw14l := rw14.lt
            have rw14i := inR rw14t
            have rw14m := inM rw14i
            have rw14d := dI_b (dt c.toNat)
            refine c_H (As := [.ref (r b.toNat), .ref (r c.toNat)]) (rest := []) fx hl (pm_X3_wholeOf θ l S0 _ hzH11 (r b.toNat) (r c.toNat) (dt b.toNat) rw13 (dt c.toNat) rw14 (by omega) (by omega)) dX3_until_64 k1236 k1237 k6 k1238 hd_X3_wholeOf rfl ⟨by decide, by decide⟩ (Nat.le_of_ble_eq_true rfl) ⟨by dsimp only; omega, by dsimp only; omega⟩ ?_
            refine q_nm (fun z15 ez15 => ?_)
            refine q_as (muI (dt b.toNat) (dt c.toNat)) (by first | omega | (subst_vars; rfl)) ?_
            refine lv_istore (lv' := [(4, .int (iI (muI (dt b.toNat) (dt c.toNat)))), (0, .ref (w 0)), (1, .int (iI a)), (2, .int (iI b)), (3, .int (iI c))]) hx hb dX3_until_67 hl (by decide) rfl (fun ls hl => ?_)
            refine lv_aload_n hx hb dX3_until_69 rfl (lv_at hl 1 rfl) ?_
            refine lv_iload_n hx hb dX3_until_70 rfl (lv_at hl 4 rfl) ?_
            have hmw : MWR θ S0 w H11 r q dt sv t9 dn rf kn := ⟨hzH11, hu, hmH11, hd, hsv⟩
            refine c_HV (As := [.int (iI c)]) (rest := []) (b := w 0) (C := RX3) fx hl (mr_became θ l S0 _ w _ _ _ _ _ _ _ _ hmw c (by omega)) (ob_recv hK hmH11.1 rfl) dX3_until_71 k1141 k1143 ks12 k6 k1144 hd_X3_became rfl ⟨by decide, by decide⟩ (Nat.le_of_ble_eq_true rfl) ⟨by dsimp only; omega, by dsimp only; omega⟩ ?_
            have t0z16 := hd c.toNat (by omega)
            refine lv_aload_n hx hb dX3_until_74 rfl (lv_at hl 1 rfl) ?_
            refine r_get (θ := θ) (C := RX3) (T := TX3) (N := 6) (ci := 9) hx hb hts gwX3 hown hK hmH11.1 rfl 4 (by decide) k1094 (fun _ h => h) (v := .ref (w 1)) rfl dX3_until_75 ?_
            refine lv_iload_n hx hb dX3_until_78 rfl (lv_at hl 3 rfl) ?_
            refine r_aald (θ := θ) hx hb hK hmH11.2.1 (i := b) (by omega) (by decide) dX3_until_79 ?_
            have rw17 := (hmH11.2.2.2.1 (b.toNat) (by omega)).1
            have rw17n := (hmH11.2.2.2.1 (b.toNat) (by omega)).2
            have rw17t := hd (b.toNat) (by omega)
            have rw17l := rw17.lt
            have rw17i := inR rw17t
            have rw17m := inM rw17i
            have rw17d := dI_b (dt b.toNat)
            refine lv_iload hx hb dX3_until_80 (lv_at hl 0 rfl) ?_
            refine c_NR (θ := θ) (As := [.ref (r b.toNat), .int (iI (muI (dt b.toNat) (dt c.toNat)))]) (rest := [.int (iI (dt c.toNat))]) fx hl (pm_X3_shifted θ l S0 _ hzH11 (r b.toNat) (muI (dt b.toNat) (dt c.toNat)) (dt b.toNat) rw17 (by omega) (by omega)) dX3_until_82 k1183 k1184 k6 k1185 hd_X3_shifted rfl ⟨by decide, by decide⟩ (Nat.le_of_ble_eq_true rfl) ⟨by dsimp only; omega, by dsimp only; omega⟩ hS (fun x hx => hAn x (Nat.le_trans hS.1 hx)) (fun q19 H18 locs hqH18 haH18 hszH18 hkH18 hS => ?_)
            have rw17_H18 := rw17.kept (hkH18 _ rw17.lt)
            have rw14_H18 := rw14.kept (hkH18 _ rw14.lt)
            have hzH18 := hz0.at hAB hS
            have hmH18 := hmH11.kept hkH18
            have hltH18 := haH18.lt
            have t0q19 := shI_s (dt b.toNat) (muI (dt b.toNat) (dt c.toNat))
            have t1q19 := shI_bd (dt b.toNat) (muI (dt b.toNat) (dt c.toNat))
            refine c_H (As := [.ref q19]) (rest := [.int (iI (dt c.toNat))]) fx hl (pm_X3_numberOf θ l S0 _ hzH18 q19 (shI (dt b.toNat) (muI (dt b.toNat) (dt c.toNat))) haH18 (by omega)) dX3_until_85 k1133 k1134 k6 k1135 hd_X3_numberOf rfl ⟨by decide, by decide⟩ (Nat.le_of_ble_eq_true rfl) ⟨by dsimp only; omega, by dsimp only; omega⟩ ?_
            refine q_sub hx hb dX3_until_88 ?_
            refine q_nm (fun z21 ez21 => ?_)
            refine lv_istore (lv' := [(5, .int (iI z21)), (4, .int (iI (muI (dt b.toNat) (dt c.toNat)))), (0, .ref (w 0)), (1, .int (iI a)), (2, .int (iI b)), (3, .int (iI c))]) hx hb dX3_until_89 hl (by decide) rfl (fun ls hl => ?_)
            refine lv_aload_n hx hb dX3_until_91 rfl (lv_at hl 2 rfl) ?_
            refine r_get (θ := θ) (C := RX3) (T := TX3) (N := 6) (ci := 9) hx hb hts gwX3 hown hK hmH18.1 rfl 5 (by decide) k1095 (fun _ h => h) (v := .ref (w 2)) rfl dX3_until_92 ?_
            refine lv_iload_n hx hb dX3_until_95 rfl (lv_at hl 3 rfl) ?_
            refine q_con hx hb dX3_until_96 ?_
            refine r_newI (θ := θ) hx hb hts hK k71 hS (by omega) (by dsimp only; omega) (by dsimp only; omega) dX3_until_97 (fun H22 haH22 hszH22 hkH22 hS => ?_)
            have hzH22 := hz0.at hAB hS
            have hkkH22 := hkH22
            have hmH22 := hmH18.kept hkH22
            have hltmH22 := hmH18.lt
            have rw17_H22 := rw17_H18.kept (hkH22 _ rw17_H18.lt)
            have rw14_H22 := rw14_H18.kept (hkH22 _ rw14_H18.lt)
            have haH18_H22 := haH18.kept (hkH22 _ haH18.lt)
            refine lv_dup hx hb dX3_until_99 rfl ?_
            refine q_con hx hb dX3_until_100 ?_
            refine lv_iload hx hb dX3_until_101 (lv_at hl 1 rfl) ?_
            refine q_bip hx hb dX3_until_103 (by decide) ?_
            refine q_div hx hb dX3_until_105 (by omega) (by omega) ?_
            refine q_nm (fun z23 ez23 => ?_)
            have fz23 : 0 ≤ (muI (dt b.toNat) (dt c.toNat)) → z23 = (muI (dt b.toNat) (dt c.toNat)) / 12 := fun h => by rw [ez23, tdiv_pos h (by omega)]
            have gz23 : (muI (dt b.toNat) (dt c.toNat)) < 0 → z23 = -((-(muI (dt b.toNat) (dt c.toNat))) / 12) := fun h => by rw [ez23, tdiv_neg' h]
            clear ez23
            refine r_iast (θ := θ) (a := H18.size) hx hb hK haH22 (hAn _ (by omega)) hS (i := 0) (x := z23) (by omega) (by decide) dX3_until_106 (fun H24 locs haH24 hszH24 hkH24 hS => ?_)
            have hzH24 := hz0.at hAB hS
            have hkkH24 : ∀ x : Nat, x < (H18).size → H24[x]? = (H18)[x]? := fun x hx => (hkH24 x (by omega)).trans (hkkH22 x hx)
            have hmH24 := hmH18.kept hkkH24
            refine lv_dup hx hb dX3_until_107 rfl ?_
            refine q_con hx hb dX3_until_108 ?_
            refine lv_iload hx hb dX3_until_109 (lv_at hl 1 rfl) ?_
            refine q_bip hx hb dX3_until_111 (by decide) ?_
            refine q_rem hx hb dX3_until_113 (by omega) (by omega) ?_
            refine q_nm (fun z25 ez25 => ?_)
            have fz25 : 0 ≤ (muI (dt b.toNat) (dt c.toNat)) → z25 = (muI (dt b.toNat) (dt c.toNat)) % 12 := fun h => by rw [ez25, tdiv_pos h (by omega)]; omega
            have gz25 : (muI (dt b.toNat) (dt c.toNat)) < 0 → z25 = -((-(muI (dt b.toNat) (dt c.toNat))) % 12) := fun h => by rw [ez25, tdiv_neg' h]; omega
            clear ez25
            refine r_iast (θ := θ) (a := H18.size) hx hb hK haH24 (hAn _ (by omega)) hS (i := 1) (x := z25) (by omega) (by decide) dX3_until_114 (fun H26 locs haH26 hszH26 hkH26 hS => ?_)
            have hzH26 := hz0.at hAB hS
            have hkkH26 : ∀ x : Nat, x < (H18).size → H26[x]? = (H18)[x]? := fun x hx => (hkH26 x (by omega)).trans (hkkH24 x hx)
            have hmH26 := hmH18.kept hkkH26
            refine lv_dup hx hb dX3_until_115 rfl ?_
            refine q_con hx hb dX3_until_116 ?_
            refine lv_iload hx hb dX3_until_117 (lv_at hl 0 rfl) ?_
            refine r_iast (θ := θ) (a := H18.size) hx hb hK haH26 (hAn _ (by omega)) hS (i := 2) (x := z21) (by omega) (by decide) dX3_until_119 (fun H27 locs haH27 hszH27 hkH27 hS => ?_)
            have hzH27 := hz0.at hAB hS
            have hkkH27 : ∀ x : Nat, x < (H18).size → H27[x]? = (H18)[x]? := fun x hx => (hkH27 x (by omega)).trans (hkkH26 x hx)
            have hmH27 := hmH18.kept hkkH27
            have tr28 := mk_row3 (x := muI (dt b.toNat) (dt c.toNat) / 12) (y := muI (dt b.toNat) (dt c.toNat) % 12) (z := dt c.toNat - shI (dt b.toNat) (muI (dt b.toNat) (dt c.toNat))) haH27 (by first | rfl | (subst_vars; rfl) | (simp only [up_s, up]; omega)) (by first | rfl | (subst_vars; rfl) | (simp only [up_s, up]; omega)) (by first | rfl | (subst_vars; rfl) | (simp only [up_s, up]; omega))
            refine r_aast (θ := θ) (a := (w 2)) hx hb fx.2 hz0 hmH27.2.2.1 tr28 (Or.inl (Or.inr (Or.inr rfl))) hS (i := a) (by omega) (by decide) dX3_until_120 (fun H29 locs haH29 hszH29 hkH29 hS => ?_)
            have hmH29 : MW θ w H29 r (up q a.toNat H18.size) dt (up sv a.toNat (tri (muI (dt b.toNat) (dt c.toNat) / 12) (muI (dt b.toNat) (dt c.toNat) % 12) (dt c.toNat - shI (dt b.toNat) (muI (dt b.toNat) (dt c.toNat))))) t9 dn rf kn := hmH27.span hu haH29 tr28 ⟨by omega, by omega, by omega⟩ hkH29
            have hzH29 := hz0.at hAB hS
            have tr28_H29 := tr28.kept (hkH29 _ (by omega))
            refine lv_aload_n hx hb dX3_until_121 rfl (lv_at hl 2 rfl) ?_
            refine lv_dup hx hb dX3_until_122 rfl ?_
            refine r_get (θ := θ) (C := RX3) (T := TX3) (N := 6) (ci := 9) hx hb hts gwX3 hown hK hmH29.1 rfl 1 (by decide) k1091 (fun _ h => h) (v := .int (iI dn)) rfl dX3_until_123 ?_
            refine q_con hx hb dX3_until_126 ?_
            refine q_add hx hb dX3_until_127 ?_
            refine r_put (θ := θ) (C := RX3) (T := TX3) (N := 6) (ci := 9) (v := .int (iI (dn + 1))) (ty := .int) hx hb hts gwX3 tyX3 tyX3_ok nmX3 hown hK hmH29.1 (Or.inl (Or.inl rfl)) hS rfl 1 (by decide) k1091 (fun _ h => h) rfl (by decide +kernel) rfl rfl (Nat.le_of_ble_eq_true rfl) dX3_until_128 (fun H30 locs hoH30 hszH30 hkH30 hS => ?_)
            have hmH30 : MW θ w H30 r (up q a.toNat H18.size) dt (up sv a.toNat (tri (muI (dt b.toNat) (dt c.toNat) / 12) (muI (dt b.toNat) (dt c.toNat) % 12) (dt c.toNat - shI (dt b.toNat) (muI (dt b.toNat) (dt c.toNat))))) t9 (dn + 1) rf kn := hmH29.obj hu hoH30 hkH30
            have hzH30 := hz0.at hAB hS
            have tr28_H30 := tr28_H29.kept (hkH30 _ (by omega))
            refine lv_iload hx hb dX3_until_131 (lv_at hl 0 rfl) ?_
            obtain rfl : t9 = 0 := by omega
            have hmw : MWR θ S0 w H30 r (up q a.toNat H18.size) dt (up sv a.toNat (tri (muI (dt b.toNat) (dt c.toNat) / 12) (muI (dt b.toNat) (dt c.toNat) % 12) (dt c.toNat - shI (dt b.toNat) (muI (dt b.toNat) (dt c.toNat))))) 0 (dn + 1) rf kn := ⟨hzH30, hu, hmH30, hd, (svr_up hsv ⟨by omega, by omega, by omega, by omega, by omega, by omega⟩)⟩
            exact e_i hx hb hr hlk hS dX3_until_133 (Nat.le_of_ble_eq_true rfl) (Nat.le_of_ble_eq_true rfl) ⟨ex_i (by subst_vars; first | omega | (simp only [up_s, tri_0, tri_1, tri_2, inI_self, inI_1, inI_31]; done) | (simp only [up_s, tri_0, tri_1, tri_2, inI_self, inI_1, inI_31]; omega) | (simp only [up_s, tri_0, tri_1, tri_2]; subst_vars; first | rfl | omega)), r, (up q a.toNat H18.size), by first | exact hmw | (subst_vars; exact hmw) | (simp only [inI_self, inI_1, inI_31] at hmw; subst_vars; exact hmw), by first | exact nw_rf | exact nw_up (by omega) | exact nw_up2 (by omega), by first | exact nw_rf | exact nw_up (by omega) | exact nw_up2 (by omega)⟩
          · exact (show False by omega).elim
        · refine q_con hx hb dX3_until_38 ?_
          refine lv_goto (tgt := 43) hx hb dX3_until_39 (by decide) ?_
          refine q_con hx hb dX3_until_43 ?_
          obtain ⟨t31, f32, hq1t31, hq2t31⟩ := fails_ex 0 1 0 (by omega) (by omega) (by omega)
          have hmw : MWR θ S0 w s.heap r q dt sv th dn rf kn := ⟨hz, hu, hm, hd, hsv⟩
          refine c_M (w := w) (As := [.int (iI 0), .int (iI 1), .int (iI 0)]) (rest := []) (b := w 0) (C := RX3) fx hl (mw_fails θ l S0 _ w _ _ _ _ _ _ _ _ hmw 0 1 0 t31 f32 (by omega) hq1t31 hq2t31) (ob_recv hK hm.1 rfl) dX3_until_44 k1119 k1121 ks10 k6 k1122 hd_X3_fails rfl ⟨by decide, by decide⟩ (Nat.le_of_ble_eq_true rfl) ⟨by dsimp only; omega, by dsimp only; omega⟩ hS (fun x hx => hx ▸ Or.inl (Or.inl rfl)) (fun H33 locs hmH33 hszH33 hk0H33 hS => ?_)
          have hkH33 : ∀ x : Nat, x < (s.heap).size → ¬ x = w 0 → H33[x]? = (s.heap)[x]? := hk0H33
          have hzH33 := hz0.at hAB hS
          have hltH33 := hmH33.lt
          refine q_ieq (tgt := 52) hx hb dX3_until_47 (by decide) (by omega) (fun c34 => ?_) (fun c34 => ?_)
          · refine lv_aload_n hx hb dX3_until_52 rfl (lv_at hl 0 rfl) ?_
            refine r_get (θ := θ) (C := RX3) (T := TX3) (N := 6) (ci := 9) hx hb hts gwX3 hown hK hmH33.1 rfl 4 (by decide) k1094 (fun _ h => h) (v := .ref (w 1)) rfl dX3_until_53 ?_
            refine lv_iload_n hx hb dX3_until_56 rfl (lv_at hl 2 rfl) ?_
            refine r_aald (θ := θ) hx hb hK hmH33.2.1 (i := b) (by omega) (by decide) dX3_until_57 ?_
            have rw35 := (hmH33.2.2.2.1 (b.toNat) (by omega)).1
            have rw35n := (hmH33.2.2.2.1 (b.toNat) (by omega)).2
            have rw35t := hd (b.toNat) (by omega)
            have rw35l := rw35.lt
            have rw35i := inR rw35t
            have rw35m := inM rw35i
            have rw35d := dI_b (dt b.toNat)
            refine lv_aload_n hx hb dX3_until_58 rfl (lv_at hl 0 rfl) ?_
            refine r_get (θ := θ) (C := RX3) (T := TX3) (N := 6) (ci := 9) hx hb hts gwX3 hown hK hmH33.1 rfl 4 (by decide) k1094 (fun _ h => h) (v := .ref (w 1)) rfl dX3_until_59 ?_
            refine lv_iload_n hx hb dX3_until_62 rfl (lv_at hl 3 rfl) ?_
            refine r_aald (θ := θ) hx hb hK hmH33.2.1 (i := c) (by omega) (by decide) dX3_until_63 ?_
            have rw36 := (hmH33.2.2.2.1 (c.toNat) (by omega)).1
            have rw36n := (hmH33.2.2.2.1 (c.toNat) (by omega)).2
            have rw36t := hd (c.toNat) (by omega)
            have rw36l := rw36.lt
            have rw36i := inR rw36t
            have rw36m := inM rw36i
            have rw36d := dI_b (dt c.toNat)
            refine c_H (As := [.ref (r b.toNat), .ref (r c.toNat)]) (rest := []) fx hl (pm_X3_wholeOf θ l S0 _ hzH33 (r b.toNat) (r c.toNat) (dt b.toNat) rw35 (dt c.toNat) rw36 (by omega) (by omega)) dX3_until_64 k1236 k1237 k6 k1238 hd_X3_wholeOf rfl ⟨by decide, by decide⟩ (Nat.le_of_ble_eq_true rfl) ⟨by dsimp only; omega, by dsimp only; omega⟩ ?_
            refine q_nm (fun z37 ez37 => ?_)
            refine q_as (muI (dt b.toNat) (dt c.toNat)) (by first | omega | (subst_vars; rfl)) ?_
            refine lv_istore (lv' := [(4, .int (iI (muI (dt b.toNat) (dt c.toNat)))), (0, .ref (w 0)), (1, .int (iI a)), (2, .int (iI b)), (3, .int (iI c))]) hx hb dX3_until_67 hl (by decide) rfl (fun ls hl => ?_)
            refine lv_aload_n hx hb dX3_until_69 rfl (lv_at hl 1 rfl) ?_
            refine lv_iload_n hx hb dX3_until_70 rfl (lv_at hl 4 rfl) ?_
            have hmw : MWR θ S0 w H33 r q dt sv t31 dn rf kn := ⟨hzH33, hu, hmH33, hd, hsv⟩
            refine c_HV (As := [.int (iI c)]) (rest := []) (b := w 0) (C := RX3) fx hl (mr_became θ l S0 _ w _ _ _ _ _ _ _ _ hmw c (by omega)) (ob_recv hK hmH33.1 rfl) dX3_until_71 k1141 k1143 ks12 k6 k1144 hd_X3_became rfl ⟨by decide, by decide⟩ (Nat.le_of_ble_eq_true rfl) ⟨by dsimp only; omega, by dsimp only; omega⟩ ?_
            have t0z38 := hd c.toNat (by omega)
            refine lv_aload_n hx hb dX3_until_74 rfl (lv_at hl 1 rfl) ?_
            refine r_get (θ := θ) (C := RX3) (T := TX3) (N := 6) (ci := 9) hx hb hts gwX3 hown hK hmH33.1 rfl 4 (by decide) k1094 (fun _ h => h) (v := .ref (w 1)) rfl dX3_until_75 ?_
            refine lv_iload_n hx hb dX3_until_78 rfl (lv_at hl 3 rfl) ?_
            refine r_aald (θ := θ) hx hb hK hmH33.2.1 (i := b) (by omega) (by decide) dX3_until_79 ?_
            have rw39 := (hmH33.2.2.2.1 (b.toNat) (by omega)).1
            have rw39n := (hmH33.2.2.2.1 (b.toNat) (by omega)).2
            have rw39t := hd (b.toNat) (by omega)
            have rw39l := rw39.lt
            have rw39i := inR rw39t
            have rw39m := inM rw39i
            have rw39d := dI_b (dt b.toNat)
            refine lv_iload hx hb dX3_until_80 (lv_at hl 0 rfl) ?_
            refine c_NR (θ := θ) (As := [.ref (r b.toNat), .int (iI (muI (dt b.toNat) (dt c.toNat)))]) (rest := [.int (iI (dt c.toNat))]) fx hl (pm_X3_shifted θ l S0 _ hzH33 (r b.toNat) (muI (dt b.toNat) (dt c.toNat)) (dt b.toNat) rw39 (by omega) (by omega)) dX3_until_82 k1183 k1184 k6 k1185 hd_X3_shifted rfl ⟨by decide, by decide⟩ (Nat.le_of_ble_eq_true rfl) ⟨by dsimp only; omega, by dsimp only; omega⟩ hS (fun x hx => hAn x (Nat.le_trans hS.1 hx)) (fun q41 H40 locs hqH40 haH40 hszH40 hkH40 hS => ?_)
            have rw39_H40 := rw39.kept (hkH40 _ rw39.lt)
            have rw36_H40 := rw36.kept (hkH40 _ rw36.lt)
            have hzH40 := hz0.at hAB hS
            have hmH40 := hmH33.kept hkH40
            have hltH40 := haH40.lt
            have t0q41 := shI_s (dt b.toNat) (muI (dt b.toNat) (dt c.toNat))
            have t1q41 := shI_bd (dt b.toNat) (muI (dt b.toNat) (dt c.toNat))
            refine c_H (As := [.ref q41]) (rest := [.int (iI (dt c.toNat))]) fx hl (pm_X3_numberOf θ l S0 _ hzH40 q41 (shI (dt b.toNat) (muI (dt b.toNat) (dt c.toNat))) haH40 (by omega)) dX3_until_85 k1133 k1134 k6 k1135 hd_X3_numberOf rfl ⟨by decide, by decide⟩ (Nat.le_of_ble_eq_true rfl) ⟨by dsimp only; omega, by dsimp only; omega⟩ ?_
            refine q_sub hx hb dX3_until_88 ?_
            refine q_nm (fun z43 ez43 => ?_)
            refine lv_istore (lv' := [(5, .int (iI z43)), (4, .int (iI (muI (dt b.toNat) (dt c.toNat)))), (0, .ref (w 0)), (1, .int (iI a)), (2, .int (iI b)), (3, .int (iI c))]) hx hb dX3_until_89 hl (by decide) rfl (fun ls hl => ?_)
            refine lv_aload_n hx hb dX3_until_91 rfl (lv_at hl 2 rfl) ?_
            refine r_get (θ := θ) (C := RX3) (T := TX3) (N := 6) (ci := 9) hx hb hts gwX3 hown hK hmH40.1 rfl 5 (by decide) k1095 (fun _ h => h) (v := .ref (w 2)) rfl dX3_until_92 ?_
            refine lv_iload_n hx hb dX3_until_95 rfl (lv_at hl 3 rfl) ?_
            refine q_con hx hb dX3_until_96 ?_
            refine r_newI (θ := θ) hx hb hts hK k71 hS (by omega) (by dsimp only; omega) (by dsimp only; omega) dX3_until_97 (fun H44 haH44 hszH44 hkH44 hS => ?_)
            have hzH44 := hz0.at hAB hS
            have hkkH44 := hkH44
            have hmH44 := hmH40.kept hkH44
            have hltmH44 := hmH40.lt
            have rw39_H44 := rw39_H40.kept (hkH44 _ rw39_H40.lt)
            have rw36_H44 := rw36_H40.kept (hkH44 _ rw36_H40.lt)
            have haH40_H44 := haH40.kept (hkH44 _ haH40.lt)
            refine lv_dup hx hb dX3_until_99 rfl ?_
            refine q_con hx hb dX3_until_100 ?_
            refine lv_iload hx hb dX3_until_101 (lv_at hl 1 rfl) ?_
            refine q_bip hx hb dX3_until_103 (by decide) ?_
            refine q_div hx hb dX3_until_105 (by omega) (by omega) ?_
            refine q_nm (fun z45 ez45 => ?_)
            have fz45 : 0 ≤ (muI (dt b.toNat) (dt c.toNat)) → z45 = (muI (dt b.toNat) (dt c.toNat)) / 12 := fun h => by rw [ez45, tdiv_pos h (by omega)]
            have gz45 : (muI (dt b.toNat) (dt c.toNat)) < 0 → z45 = -((-(muI (dt b.toNat) (dt c.toNat))) / 12) := fun h => by rw [ez45, tdiv_neg' h]
            clear ez45
            refine r_iast (θ := θ) (a := H40.size) hx hb hK haH44 (hAn _ (by omega)) hS (i := 0) (x := z45) (by omega) (by decide) dX3_until_106 (fun H46 locs haH46 hszH46 hkH46 hS => ?_)
            have hzH46 := hz0.at hAB hS
            have hkkH46 : ∀ x : Nat, x < (H40).size → H46[x]? = (H40)[x]? := fun x hx => (hkH46 x (by omega)).trans (hkkH44 x hx)
            have hmH46 := hmH40.kept hkkH46
            refine lv_dup hx hb dX3_until_107 rfl ?_
            refine q_con hx hb dX3_until_108 ?_
            refine lv_iload hx hb dX3_until_109 (lv_at hl 1 rfl) ?_
            refine q_bip hx hb dX3_until_111 (by decide) ?_
            refine q_rem hx hb dX3_until_113 (by omega) (by omega) ?_
            refine q_nm (fun z47 ez47 => ?_)
            have fz47 : 0 ≤ (muI (dt b.toNat) (dt c.toNat)) → z47 = (muI (dt b.toNat) (dt c.toNat)) % 12 := fun h => by rw [ez47, tdiv_pos h (by omega)]; omega
            have gz47 : (muI (dt b.toNat) (dt c.toNat)) < 0 → z47 = -((-(muI (dt b.toNat) (dt c.toNat))) % 12) := fun h => by rw [ez47, tdiv_neg' h]; omega
            clear ez47
            refine r_iast (θ := θ) (a := H40.size) hx hb hK haH46 (hAn _ (by omega)) hS (i := 1) (x := z47) (by omega) (by decide) dX3_until_114 (fun H48 locs haH48 hszH48 hkH48 hS => ?_)
            have hzH48 := hz0.at hAB hS
            have hkkH48 : ∀ x : Nat, x < (H40).size → H48[x]? = (H40)[x]? := fun x hx => (hkH48 x (by omega)).trans (hkkH46 x hx)
            have hmH48 := hmH40.kept hkkH48
            refine lv_dup hx hb dX3_until_115 rfl ?_
            refine q_con hx hb dX3_until_116 ?_
            refine lv_iload hx hb dX3_until_117 (lv_at hl 0 rfl) ?_
            refine r_iast (θ := θ) (a := H40.size) hx hb hK haH48 (hAn _ (by omega)) hS (i := 2) (x := z43) (by omega) (by decide) dX3_until_119 (fun H49 locs haH49 hszH49 hkH49 hS => ?_)
            have hzH49 := hz0.at hAB hS
            have hkkH49 : ∀ x : Nat, x < (H40).size → H49[x]? = (H40)[x]? := fun x hx => (hkH49 x (by omega)).trans (hkkH48 x hx)
            have hmH49 := hmH40.kept hkkH49
            have tr50 := mk_row3 (x := muI (dt b.toNat) (dt c.toNat) / 12) (y := muI (dt b.toNat) (dt c.toNat) % 12) (z := dt c.toNat - shI (dt b.toNat) (muI (dt b.toNat) (dt c.toNat))) haH49 (by first | rfl | (subst_vars; rfl) | (simp only [up_s, up]; omega)) (by first | rfl | (subst_vars; rfl) | (simp only [up_s, up]; omega)) (by first | rfl | (subst_vars; rfl) | (simp only [up_s, up]; omega))
            refine r_aast (θ := θ) (a := (w 2)) hx hb fx.2 hz0 hmH49.2.2.1 tr50 (Or.inl (Or.inr (Or.inr rfl))) hS (i := a) (by omega) (by decide) dX3_until_120 (fun H51 locs haH51 hszH51 hkH51 hS => ?_)
            have hmH51 : MW θ w H51 r (up q a.toNat H40.size) dt (up sv a.toNat (tri (muI (dt b.toNat) (dt c.toNat) / 12) (muI (dt b.toNat) (dt c.toNat) % 12) (dt c.toNat - shI (dt b.toNat) (muI (dt b.toNat) (dt c.toNat))))) t31 dn rf kn := hmH49.span hu haH51 tr50 ⟨by omega, by omega, by omega⟩ hkH51
            have hzH51 := hz0.at hAB hS
            have tr50_H51 := tr50.kept (hkH51 _ (by omega))
            refine lv_aload_n hx hb dX3_until_121 rfl (lv_at hl 2 rfl) ?_
            refine lv_dup hx hb dX3_until_122 rfl ?_
            refine r_get (θ := θ) (C := RX3) (T := TX3) (N := 6) (ci := 9) hx hb hts gwX3 hown hK hmH51.1 rfl 1 (by decide) k1091 (fun _ h => h) (v := .int (iI dn)) rfl dX3_until_123 ?_
            refine q_con hx hb dX3_until_126 ?_
            refine q_add hx hb dX3_until_127 ?_
            refine r_put (θ := θ) (C := RX3) (T := TX3) (N := 6) (ci := 9) (v := .int (iI (dn + 1))) (ty := .int) hx hb hts gwX3 tyX3 tyX3_ok nmX3 hown hK hmH51.1 (Or.inl (Or.inl rfl)) hS rfl 1 (by decide) k1091 (fun _ h => h) rfl (by decide +kernel) rfl rfl (Nat.le_of_ble_eq_true rfl) dX3_until_128 (fun H52 locs hoH52 hszH52 hkH52 hS => ?_)
            have hmH52 : MW θ w H52 r (up q a.toNat H40.size) dt (up sv a.toNat (tri (muI (dt b.toNat) (dt c.toNat) / 12) (muI (dt b.toNat) (dt c.toNat) % 12) (dt c.toNat - shI (dt b.toNat) (muI (dt b.toNat) (dt c.toNat))))) t31 (dn + 1) rf kn := hmH51.obj hu hoH52 hkH52
            have hzH52 := hz0.at hAB hS
            have tr50_H52 := tr50_H51.kept (hkH52 _ (by omega))
            refine lv_iload hx hb dX3_until_131 (lv_at hl 0 rfl) ?_
            obtain rfl : t31 = 0 := by omega
            have hmw : MWR θ S0 w H52 r (up q a.toNat H40.size) dt (up sv a.toNat (tri (muI (dt b.toNat) (dt c.toNat) / 12) (muI (dt b.toNat) (dt c.toNat) % 12) (dt c.toNat - shI (dt b.toNat) (muI (dt b.toNat) (dt c.toNat))))) 0 (dn + 1) rf kn := ⟨hzH52, hu, hmH52, hd, (svr_up hsv ⟨by omega, by omega, by omega, by omega, by omega, by omega⟩)⟩
            exact e_i hx hb hr hlk hS dX3_until_133 (Nat.le_of_ble_eq_true rfl) (Nat.le_of_ble_eq_true rfl) ⟨ex_i (by subst_vars; first | omega | (simp only [up_s, tri_0, tri_1, tri_2, inI_self, inI_1, inI_31]; done) | (simp only [up_s, tri_0, tri_1, tri_2, inI_self, inI_1, inI_31]; omega) | (simp only [up_s, tri_0, tri_1, tri_2]; subst_vars; first | rfl | omega)), r, (up q a.toNat H40.size), by first | exact hmw | (subst_vars; exact hmw) | (simp only [inI_self, inI_1, inI_31] at hmw; subst_vars; exact hmw), by first | exact nw_rf | exact nw_up (by omega) | exact nw_up2 (by omega), by first | exact nw_rf | exact nw_up (by omega) | exact nw_up2 (by omega)⟩
          · exact (show False by omega).elim
    · exact (show False by omega).elim

set_option maxHeartbeats 4000000 in
set_option maxRecDepth 100000 in
theorem mno1_until (θ : TH) (l : Launch) (S0 : State) (H : Heap) (w : Nat → Nat) (r q : Nat → Nat) (dt : Nat → Int) (sv : Nat → Nat → Int) (th dn rf kn : Int) (hw : MWR θ S0 w H r q dt sv th dn rf kn) (a b c : Int) (h_0 : -2147483648 ≤ a ∧ a < 2147483648) (h_1 : -2147483648 ≤ b ∧ b < 2147483648) (h_2 : -2147483648 ≤ c ∧ c < 2147483648) (h_3 : ¬ (0 ≤ a ∧ a < 3)) : CT l yX3_until cX3_until 6 (some .int) 8 170 0 0 [.ref (w 0), .int (iI a), .int (iI b), .int (iI c)] S0 H (fun v9 H1 => v9 = some (.int (iI 0)) ∧ ∃ r1 q1 : Nat → Nat, MWR θ S0 w H1 r1 q1 dt sv 1 dn rf kn ∧ NW 6 H.size r r1 ∧ NW 3 H.size q q1) (fun _ _ => False) (WA w H.size) := by
  refine ct_of (by decide +kernel) (Nat.le_of_ble_eq_true rfl) ?_
  intro pg en s mi args below meth co ls fx hs hr hlk hxt hin hl
  subst hs
  obtain ⟨hx, hb, hml, hown, hts⟩ := id fx.1
  have hS : va_S (WA w s.heap.size) s.heap s.heap [] := va_S.rf
  obtain ⟨hz, hu, hm, hd, hsv⟩ := id hw
  have hAB : ∀ x : Nat, (WA w s.heap.size) x → θ.2.2.2 ≤ x := wa_b hu hz.2.1
  have hz0 := hz
  have hK := sz_K fx.2 hz
  have hlt0 := hm.lt
  have hu1 := hu.1
  have hAn : ∀ x : Nat, s.heap.size ≤ x → (WA w s.heap.size) x := fun _ h => Or.inr h
  refine lv_aload_n hx hb dX3_until_0 rfl (lv_at hl 0 rfl) ?_
  refine lv_iload_n hx hb dX3_until_1 rfl (lv_at hl 1 rfl) ?_
  obtain ⟨r1, hr1⟩ := bex (a < 0 ∨ 2 < a)
  refine c_P (As := [.int (iI a)]) (rest := [.ref (w 0)]) fx hl (pm_X3_isNoSpan l a r1 hr1 (by omega)) dX3_until_2 k1207 k1208 k6 k1209 hd_X3_isNoSpan rfl ⟨by decide, by decide⟩ (Nat.le_of_ble_eq_true rfl) ⟨by dsimp only; omega, by dsimp only; omega⟩ ?_
  have br1 : r1 = 0 ∨ r1 = 1 := hr1.elim (fun h => Or.inr h.1) (fun h => Or.inl h.1)
  refine q_ine (tgt := 16) hx hb dX3_until_5 (by decide) (by omega) (fun c2 => ?_) (fun c2 => ?_)
  · refine q_con hx hb dX3_until_16 ?_
    refine lv_goto (tgt := 21) hx hb dX3_until_17 (by decide) ?_
    refine lv_iload_n hx hb dX3_until_21 rfl (lv_at hl 2 rfl) ?_
    refine lv_iload_n hx hb dX3_until_22 rfl (lv_at hl 3 rfl) ?_
    obtain ⟨r3, hr3⟩ := bex ((b < 0 ∨ 5 < b) ∨ (c < 0 ∨ 5 < c))
    refine c_P (As := [.int (iI b), .int (iI c)]) (rest := [.int (iI 1), .ref (w 0)]) fx hl (pm_X3_areNo l b c r3 hr3 (by omega) (by omega)) dX3_until_23 k1162 k1163 k6 k1164 hd_X3_areNo rfl ⟨by decide, by decide⟩ (Nat.le_of_ble_eq_true rfl) ⟨by dsimp only; omega, by dsimp only; omega⟩ ?_
    have br3 : r3 = 0 ∨ r3 = 1 := hr3.elim (fun h => Or.inr h.1) (fun h => Or.inl h.1)
    refine q_ine (tgt := 42) hx hb dX3_until_26 (by decide) (by omega) (fun c4 => ?_) (fun c4 => ?_)
    · refine q_con hx hb dX3_until_42 ?_
      refine q_con hx hb dX3_until_43 ?_
      obtain ⟨t5, f6, hq1t5, hq2t5⟩ := fails_ex 1 0 0 (by omega) (by omega) (by omega)
      have hmw : MWR θ S0 w s.heap r q dt sv th dn rf kn := ⟨hz, hu, hm, hd, hsv⟩
      refine c_M (w := w) (As := [.int (iI 1), .int (iI 0), .int (iI 0)]) (rest := []) (b := w 0) (C := RX3) fx hl (mw_fails θ l S0 _ w _ _ _ _ _ _ _ _ hmw 1 0 0 t5 f6 (by omega) hq1t5 hq2t5) (ob_recv hK hm.1 rfl) dX3_until_44 k1119 k1121 ks10 k6 k1122 hd_X3_fails rfl ⟨by decide, by decide⟩ (Nat.le_of_ble_eq_true rfl) ⟨by dsimp only; omega, by dsimp only; omega⟩ hS (fun x hx => hx ▸ Or.inl (Or.inl rfl)) (fun H7 locs hmH7 hszH7 hk0H7 hS => ?_)
      have hkH7 : ∀ x : Nat, x < (s.heap).size → ¬ x = w 0 → H7[x]? = (s.heap)[x]? := hk0H7
      have hzH7 := hz0.at hAB hS
      have hltH7 := hmH7.lt
      refine q_ieq (tgt := 52) hx hb dX3_until_47 (by decide) (by omega) (fun c8 => ?_) (fun c8 => ?_)
      · exact (show False by omega).elim
      · refine q_con hx hb dX3_until_50 ?_
        obtain rfl : t5 = 1 := by omega
        have hmw : MWR θ S0 w H7 r q dt sv 1 dn rf kn := ⟨hzH7, hu, hmH7, hd, hsv⟩
        exact e_i hx hb hr hlk hS dX3_until_51 (Nat.le_of_ble_eq_true rfl) (Nat.le_of_ble_eq_true rfl) ⟨ex_i (by omega), r, q, by first | exact hmw | (subst_vars; exact hmw) | (simp only [inI_self, inI_1, inI_31] at hmw; subst_vars; exact hmw), by first | exact nw_rf | exact nw_up (by omega) | exact nw_up2 (by omega), by first | exact nw_rf | exact nw_up (by omega) | exact nw_up2 (by omega)⟩
    · refine lv_aload_n hx hb dX3_until_29 rfl (lv_at hl 0 rfl) ?_
      refine lv_iload_n hx hb dX3_until_30 rfl (lv_at hl 3 rfl) ?_
      refine lv_iload_n hx hb dX3_until_31 rfl (lv_at hl 2 rfl) ?_
      obtain ⟨r9, hr9⟩ := bex (dt c.toNat < dt b.toNat)
      have hmw : MWR θ S0 w s.heap r q dt sv th dn rf kn := ⟨hz, hu, hm, hd, hsv⟩
      refine c_HV (As := [.int (iI c), .int (iI b)]) (rest := [.int (iI 1), .ref (w 0)]) (b := w 0) (C := RX3) fx hl (mr_isAhead θ l S0 _ w _ _ _ _ _ _ _ _ hmw c b r9 hr9 (by omega) (by omega)) (ob_recv hK hm.1 rfl) dX3_until_32 k1232 k1234 ks15 k6 k1235 hd_X3_isAhead rfl ⟨by decide, by decide⟩ (Nat.le_of_ble_eq_true rfl) ⟨by dsimp only; omega, by dsimp only; omega⟩ ?_
      have br9 : r9 = 0 ∨ r9 = 1 := hr9.elim (fun h => Or.inr h.1) (fun h => Or.inl h.1)
      refine q_ieq (tgt := 42) hx hb dX3_until_35 (by decide) (by omega) (fun c10 => ?_) (fun c10 => ?_)
      · refine q_con hx hb dX3_until_42 ?_
        refine q_con hx hb dX3_until_43 ?_
        obtain ⟨t11, f12, hq1t11, hq2t11⟩ := fails_ex 1 0 0 (by omega) (by omega) (by omega)
        have hmw : MWR θ S0 w s.heap r q dt sv th dn rf kn := ⟨hz, hu, hm, hd, hsv⟩
        refine c_M (w := w) (As := [.int (iI 1), .int (iI 0), .int (iI 0)]) (rest := []) (b := w 0) (C := RX3) fx hl (mw_fails θ l S0 _ w _ _ _ _ _ _ _ _ hmw 1 0 0 t11 f12 (by omega) hq1t11 hq2t11) (ob_recv hK hm.1 rfl) dX3_until_44 k1119 k1121 ks10 k6 k1122 hd_X3_fails rfl ⟨by decide, by decide⟩ (Nat.le_of_ble_eq_true rfl) ⟨by dsimp only; omega, by dsimp only; omega⟩ hS (fun x hx => hx ▸ Or.inl (Or.inl rfl)) (fun H13 locs hmH13 hszH13 hk0H13 hS => ?_)
        have hkH13 : ∀ x : Nat, x < (s.heap).size → ¬ x = w 0 → H13[x]? = (s.heap)[x]? := hk0H13
        have hzH13 := hz0.at hAB hS
        have hltH13 := hmH13.lt
        refine q_ieq (tgt := 52) hx hb dX3_until_47 (by decide) (by omega) (fun c14 => ?_) (fun c14 => ?_)
        · exact (show False by omega).elim
        · refine q_con hx hb dX3_until_50 ?_
          obtain rfl : t11 = 1 := by omega
          have hmw : MWR θ S0 w H13 r q dt sv 1 dn rf kn := ⟨hzH13, hu, hmH13, hd, hsv⟩
          exact e_i hx hb hr hlk hS dX3_until_51 (Nat.le_of_ble_eq_true rfl) (Nat.le_of_ble_eq_true rfl) ⟨ex_i (by omega), r, q, by first | exact hmw | (subst_vars; exact hmw) | (simp only [inI_self, inI_1, inI_31] at hmw; subst_vars; exact hmw), by first | exact nw_rf | exact nw_up (by omega) | exact nw_up2 (by omega), by first | exact nw_rf | exact nw_up (by omega) | exact nw_up2 (by omega)⟩
      · refine q_con hx hb dX3_until_38 ?_
        refine lv_goto (tgt := 43) hx hb dX3_until_39 (by decide) ?_
        refine q_con hx hb dX3_until_43 ?_
        obtain ⟨t15, f16, hq1t15, hq2t15⟩ := fails_ex 1 1 0 (by omega) (by omega) (by omega)
        have hmw : MWR θ S0 w s.heap r q dt sv th dn rf kn := ⟨hz, hu, hm, hd, hsv⟩
        refine c_M (w := w) (As := [.int (iI 1), .int (iI 1), .int (iI 0)]) (rest := []) (b := w 0) (C := RX3) fx hl (mw_fails θ l S0 _ w _ _ _ _ _ _ _ _ hmw 1 1 0 t15 f16 (by omega) hq1t15 hq2t15) (ob_recv hK hm.1 rfl) dX3_until_44 k1119 k1121 ks10 k6 k1122 hd_X3_fails rfl ⟨by decide, by decide⟩ (Nat.le_of_ble_eq_true rfl) ⟨by dsimp only; omega, by dsimp only; omega⟩ hS (fun x hx => hx ▸ Or.inl (Or.inl rfl)) (fun H17 locs hmH17 hszH17 hk0H17 hS => ?_)
        have hkH17 : ∀ x : Nat, x < (s.heap).size → ¬ x = w 0 → H17[x]? = (s.heap)[x]? := hk0H17
        have hzH17 := hz0.at hAB hS
        have hltH17 := hmH17.lt
        refine q_ieq (tgt := 52) hx hb dX3_until_47 (by decide) (by omega) (fun c18 => ?_) (fun c18 => ?_)
        · exact (show False by omega).elim
        · refine q_con hx hb dX3_until_50 ?_
          obtain rfl : t15 = 1 := by omega
          have hmw : MWR θ S0 w H17 r q dt sv 1 dn rf kn := ⟨hzH17, hu, hmH17, hd, hsv⟩
          exact e_i hx hb hr hlk hS dX3_until_51 (Nat.le_of_ble_eq_true rfl) (Nat.le_of_ble_eq_true rfl) ⟨ex_i (by omega), r, q, by first | exact hmw | (subst_vars; exact hmw) | (simp only [inI_self, inI_1, inI_31] at hmw; subst_vars; exact hmw), by first | exact nw_rf | exact nw_up (by omega) | exact nw_up2 (by omega), by first | exact nw_rf | exact nw_up (by omega) | exact nw_up2 (by omega)⟩
  · exact (show False by omega).elim

set_option maxHeartbeats 4000000 in
set_option maxRecDepth 100000 in
theorem mno2_until (θ : TH) (l : Launch) (S0 : State) (H : Heap) (w : Nat → Nat) (r q : Nat → Nat) (dt : Nat → Int) (sv : Nat → Nat → Int) (th dn rf kn : Int) (hw : MWR θ S0 w H r q dt sv th dn rf kn) (a b c : Int) (h_0 : -2147483648 ≤ a ∧ a < 2147483648) (h_1 : -2147483648 ≤ b ∧ b < 2147483648) (h_2 : -2147483648 ≤ c ∧ c < 2147483648) (h_3 : 0 ≤ a ∧ a < 3) (h_4 : ¬ (0 ≤ b ∧ b < 6)) : CT l yX3_until cX3_until 6 (some .int) 3 63 0 0 [.ref (w 0), .int (iI a), .int (iI b), .int (iI c)] S0 H (fun v9 H1 => v9 = some (.int (iI 0)) ∧ ∃ r1 q1 : Nat → Nat, MWR θ S0 w H1 r1 q1 dt sv 1 dn rf kn ∧ NW 6 H.size r r1 ∧ NW 3 H.size q q1) (fun _ _ => False) (WA w H.size) := by
  refine ct_of (by decide +kernel) (Nat.le_of_ble_eq_true rfl) ?_
  intro pg en s mi args below meth co ls fx hs hr hlk hxt hin hl
  subst hs
  obtain ⟨hx, hb, hml, hown, hts⟩ := id fx.1
  have hS : va_S (WA w s.heap.size) s.heap s.heap [] := va_S.rf
  obtain ⟨hz, hu, hm, hd, hsv⟩ := id hw
  have hAB : ∀ x : Nat, (WA w s.heap.size) x → θ.2.2.2 ≤ x := wa_b hu hz.2.1
  have hz0 := hz
  have hK := sz_K fx.2 hz
  have hlt0 := hm.lt
  have hu1 := hu.1
  have hAn : ∀ x : Nat, s.heap.size ≤ x → (WA w s.heap.size) x := fun _ h => Or.inr h
  refine lv_aload_n hx hb dX3_until_0 rfl (lv_at hl 0 rfl) ?_
  refine lv_iload_n hx hb dX3_until_1 rfl (lv_at hl 1 rfl) ?_
  obtain ⟨r1, hr1⟩ := bex (a < 0 ∨ 2 < a)
  refine c_P (As := [.int (iI a)]) (rest := [.ref (w 0)]) fx hl (pm_X3_isNoSpan l a r1 hr1 (by omega)) dX3_until_2 k1207 k1208 k6 k1209 hd_X3_isNoSpan rfl ⟨by decide, by decide⟩ (Nat.le_of_ble_eq_true rfl) ⟨by dsimp only; omega, by dsimp only; omega⟩ ?_
  have br1 : r1 = 0 ∨ r1 = 1 := hr1.elim (fun h => Or.inr h.1) (fun h => Or.inl h.1)
  refine q_ine (tgt := 16) hx hb dX3_until_5 (by decide) (by omega) (fun c2 => ?_) (fun c2 => ?_)
  · exact (show False by omega).elim
  · refine lv_iload_n hx hb dX3_until_8 rfl (lv_at hl 2 rfl) ?_
    refine lv_iload_n hx hb dX3_until_9 rfl (lv_at hl 3 rfl) ?_
    obtain ⟨r3, hr3⟩ := bex ((b < 0 ∨ 5 < b) ∨ (c < 0 ∨ 5 < c))
    refine c_P (As := [.int (iI b), .int (iI c)]) (rest := [.ref (w 0)]) fx hl (pm_X3_areNo l b c r3 hr3 (by omega) (by omega)) dX3_until_10 k1162 k1163 k6 k1164 hd_X3_areNo rfl ⟨by decide, by decide⟩ (Nat.le_of_ble_eq_true rfl) ⟨by dsimp only; omega, by dsimp only; omega⟩ ?_
    have br3 : r3 = 0 ∨ r3 = 1 := hr3.elim (fun h => Or.inr h.1) (fun h => Or.inl h.1)
    refine q_ieq (tgt := 20) hx hb dX3_until_13 (by decide) (by omega) (fun c4 => ?_) (fun c4 => ?_)
    · exact (show False by omega).elim
    · refine q_con hx hb dX3_until_16 ?_
      refine lv_goto (tgt := 21) hx hb dX3_until_17 (by decide) ?_
      refine lv_iload_n hx hb dX3_until_21 rfl (lv_at hl 2 rfl) ?_
      refine lv_iload_n hx hb dX3_until_22 rfl (lv_at hl 3 rfl) ?_
      obtain ⟨r5, hr5⟩ := bex ((b < 0 ∨ 5 < b) ∨ (c < 0 ∨ 5 < c))
      refine c_P (As := [.int (iI b), .int (iI c)]) (rest := [.int (iI 1), .ref (w 0)]) fx hl (pm_X3_areNo l b c r5 hr5 (by omega) (by omega)) dX3_until_23 k1162 k1163 k6 k1164 hd_X3_areNo rfl ⟨by decide, by decide⟩ (Nat.le_of_ble_eq_true rfl) ⟨by dsimp only; omega, by dsimp only; omega⟩ ?_
      have br5 : r5 = 0 ∨ r5 = 1 := hr5.elim (fun h => Or.inr h.1) (fun h => Or.inl h.1)
      refine q_ine (tgt := 42) hx hb dX3_until_26 (by decide) (by omega) (fun c6 => ?_) (fun c6 => ?_)
      · refine q_con hx hb dX3_until_42 ?_
        refine q_con hx hb dX3_until_43 ?_
        obtain ⟨t7, f8, hq1t7, hq2t7⟩ := fails_ex 1 0 0 (by omega) (by omega) (by omega)
        have hmw : MWR θ S0 w s.heap r q dt sv th dn rf kn := ⟨hz, hu, hm, hd, hsv⟩
        refine c_M (w := w) (As := [.int (iI 1), .int (iI 0), .int (iI 0)]) (rest := []) (b := w 0) (C := RX3) fx hl (mw_fails θ l S0 _ w _ _ _ _ _ _ _ _ hmw 1 0 0 t7 f8 (by omega) hq1t7 hq2t7) (ob_recv hK hm.1 rfl) dX3_until_44 k1119 k1121 ks10 k6 k1122 hd_X3_fails rfl ⟨by decide, by decide⟩ (Nat.le_of_ble_eq_true rfl) ⟨by dsimp only; omega, by dsimp only; omega⟩ hS (fun x hx => hx ▸ Or.inl (Or.inl rfl)) (fun H9 locs hmH9 hszH9 hk0H9 hS => ?_)
        have hkH9 : ∀ x : Nat, x < (s.heap).size → ¬ x = w 0 → H9[x]? = (s.heap)[x]? := hk0H9
        have hzH9 := hz0.at hAB hS
        have hltH9 := hmH9.lt
        refine q_ieq (tgt := 52) hx hb dX3_until_47 (by decide) (by omega) (fun c10 => ?_) (fun c10 => ?_)
        · exact (show False by omega).elim
        · refine q_con hx hb dX3_until_50 ?_
          obtain rfl : t7 = 1 := by omega
          have hmw : MWR θ S0 w H9 r q dt sv 1 dn rf kn := ⟨hzH9, hu, hmH9, hd, hsv⟩
          exact e_i hx hb hr hlk hS dX3_until_51 (Nat.le_of_ble_eq_true rfl) (Nat.le_of_ble_eq_true rfl) ⟨ex_i (by omega), r, q, by first | exact hmw | (subst_vars; exact hmw) | (simp only [inI_self, inI_1, inI_31] at hmw; subst_vars; exact hmw), by first | exact nw_rf | exact nw_up (by omega) | exact nw_up2 (by omega), by first | exact nw_rf | exact nw_up (by omega) | exact nw_up2 (by omega)⟩
      · exact (show False by omega).elim

set_option maxHeartbeats 4000000 in
set_option maxRecDepth 100000 in
theorem mno3_until (θ : TH) (l : Launch) (S0 : State) (H : Heap) (w : Nat → Nat) (r q : Nat → Nat) (dt : Nat → Int) (sv : Nat → Nat → Int) (th dn rf kn : Int) (hw : MWR θ S0 w H r q dt sv th dn rf kn) (a b c : Int) (h_0 : -2147483648 ≤ a ∧ a < 2147483648) (h_1 : -2147483648 ≤ b ∧ b < 2147483648) (h_2 : -2147483648 ≤ c ∧ c < 2147483648) (h_3 : 0 ≤ a ∧ a < 3) (h_4 : 0 ≤ b ∧ b < 6) (h_5 : ¬ (0 ≤ c ∧ c < 6)) : CT l yX3_until cX3_until 6 (some .int) 3 63 0 0 [.ref (w 0), .int (iI a), .int (iI b), .int (iI c)] S0 H (fun v9 H1 => v9 = some (.int (iI 0)) ∧ ∃ r1 q1 : Nat → Nat, MWR θ S0 w H1 r1 q1 dt sv 1 dn rf kn ∧ NW 6 H.size r r1 ∧ NW 3 H.size q q1) (fun _ _ => False) (WA w H.size) := by
  refine ct_of (by decide +kernel) (Nat.le_of_ble_eq_true rfl) ?_
  intro pg en s mi args below meth co ls fx hs hr hlk hxt hin hl
  subst hs
  obtain ⟨hx, hb, hml, hown, hts⟩ := id fx.1
  have hS : va_S (WA w s.heap.size) s.heap s.heap [] := va_S.rf
  obtain ⟨hz, hu, hm, hd, hsv⟩ := id hw
  have hAB : ∀ x : Nat, (WA w s.heap.size) x → θ.2.2.2 ≤ x := wa_b hu hz.2.1
  have hz0 := hz
  have hK := sz_K fx.2 hz
  have hlt0 := hm.lt
  have hu1 := hu.1
  have hAn : ∀ x : Nat, s.heap.size ≤ x → (WA w s.heap.size) x := fun _ h => Or.inr h
  refine lv_aload_n hx hb dX3_until_0 rfl (lv_at hl 0 rfl) ?_
  refine lv_iload_n hx hb dX3_until_1 rfl (lv_at hl 1 rfl) ?_
  obtain ⟨r1, hr1⟩ := bex (a < 0 ∨ 2 < a)
  refine c_P (As := [.int (iI a)]) (rest := [.ref (w 0)]) fx hl (pm_X3_isNoSpan l a r1 hr1 (by omega)) dX3_until_2 k1207 k1208 k6 k1209 hd_X3_isNoSpan rfl ⟨by decide, by decide⟩ (Nat.le_of_ble_eq_true rfl) ⟨by dsimp only; omega, by dsimp only; omega⟩ ?_
  have br1 : r1 = 0 ∨ r1 = 1 := hr1.elim (fun h => Or.inr h.1) (fun h => Or.inl h.1)
  refine q_ine (tgt := 16) hx hb dX3_until_5 (by decide) (by omega) (fun c2 => ?_) (fun c2 => ?_)
  · exact (show False by omega).elim
  · refine lv_iload_n hx hb dX3_until_8 rfl (lv_at hl 2 rfl) ?_
    refine lv_iload_n hx hb dX3_until_9 rfl (lv_at hl 3 rfl) ?_
    obtain ⟨r3, hr3⟩ := bex ((b < 0 ∨ 5 < b) ∨ (c < 0 ∨ 5 < c))
    refine c_P (As := [.int (iI b), .int (iI c)]) (rest := [.ref (w 0)]) fx hl (pm_X3_areNo l b c r3 hr3 (by omega) (by omega)) dX3_until_10 k1162 k1163 k6 k1164 hd_X3_areNo rfl ⟨by decide, by decide⟩ (Nat.le_of_ble_eq_true rfl) ⟨by dsimp only; omega, by dsimp only; omega⟩ ?_
    have br3 : r3 = 0 ∨ r3 = 1 := hr3.elim (fun h => Or.inr h.1) (fun h => Or.inl h.1)
    refine q_ieq (tgt := 20) hx hb dX3_until_13 (by decide) (by omega) (fun c4 => ?_) (fun c4 => ?_)
    · exact (show False by omega).elim
    · refine q_con hx hb dX3_until_16 ?_
      refine lv_goto (tgt := 21) hx hb dX3_until_17 (by decide) ?_
      refine lv_iload_n hx hb dX3_until_21 rfl (lv_at hl 2 rfl) ?_
      refine lv_iload_n hx hb dX3_until_22 rfl (lv_at hl 3 rfl) ?_
      obtain ⟨r5, hr5⟩ := bex ((b < 0 ∨ 5 < b) ∨ (c < 0 ∨ 5 < c))
      refine c_P (As := [.int (iI b), .int (iI c)]) (rest := [.int (iI 1), .ref (w 0)]) fx hl (pm_X3_areNo l b c r5 hr5 (by omega) (by omega)) dX3_until_23 k1162 k1163 k6 k1164 hd_X3_areNo rfl ⟨by decide, by decide⟩ (Nat.le_of_ble_eq_true rfl) ⟨by dsimp only; omega, by dsimp only; omega⟩ ?_
      have br5 : r5 = 0 ∨ r5 = 1 := hr5.elim (fun h => Or.inr h.1) (fun h => Or.inl h.1)
      refine q_ine (tgt := 42) hx hb dX3_until_26 (by decide) (by omega) (fun c6 => ?_) (fun c6 => ?_)
      · refine q_con hx hb dX3_until_42 ?_
        refine q_con hx hb dX3_until_43 ?_
        obtain ⟨t7, f8, hq1t7, hq2t7⟩ := fails_ex 1 0 0 (by omega) (by omega) (by omega)
        have hmw : MWR θ S0 w s.heap r q dt sv th dn rf kn := ⟨hz, hu, hm, hd, hsv⟩
        refine c_M (w := w) (As := [.int (iI 1), .int (iI 0), .int (iI 0)]) (rest := []) (b := w 0) (C := RX3) fx hl (mw_fails θ l S0 _ w _ _ _ _ _ _ _ _ hmw 1 0 0 t7 f8 (by omega) hq1t7 hq2t7) (ob_recv hK hm.1 rfl) dX3_until_44 k1119 k1121 ks10 k6 k1122 hd_X3_fails rfl ⟨by decide, by decide⟩ (Nat.le_of_ble_eq_true rfl) ⟨by dsimp only; omega, by dsimp only; omega⟩ hS (fun x hx => hx ▸ Or.inl (Or.inl rfl)) (fun H9 locs hmH9 hszH9 hk0H9 hS => ?_)
        have hkH9 : ∀ x : Nat, x < (s.heap).size → ¬ x = w 0 → H9[x]? = (s.heap)[x]? := hk0H9
        have hzH9 := hz0.at hAB hS
        have hltH9 := hmH9.lt
        refine q_ieq (tgt := 52) hx hb dX3_until_47 (by decide) (by omega) (fun c10 => ?_) (fun c10 => ?_)
        · exact (show False by omega).elim
        · refine q_con hx hb dX3_until_50 ?_
          obtain rfl : t7 = 1 := by omega
          have hmw : MWR θ S0 w H9 r q dt sv 1 dn rf kn := ⟨hzH9, hu, hmH9, hd, hsv⟩
          exact e_i hx hb hr hlk hS dX3_until_51 (Nat.le_of_ble_eq_true rfl) (Nat.le_of_ble_eq_true rfl) ⟨ex_i (by omega), r, q, by first | exact hmw | (subst_vars; exact hmw) | (simp only [inI_self, inI_1, inI_31] at hmw; subst_vars; exact hmw), by first | exact nw_rf | exact nw_up (by omega) | exact nw_up2 (by omega), by first | exact nw_rf | exact nw_up (by omega) | exact nw_up2 (by omega)⟩
      · exact (show False by omega).elim

set_option maxHeartbeats 4000000 in
set_option maxRecDepth 100000 in
theorem mno4_until (θ : TH) (l : Launch) (S0 : State) (H : Heap) (w : Nat → Nat) (r q : Nat → Nat) (dt : Nat → Int) (sv : Nat → Nat → Int) (th dn rf kn : Int) (hw : MWR θ S0 w H r q dt sv th dn rf kn) (a b c : Int) (h_0 : -2147483648 ≤ a ∧ a < 2147483648) (h_1 : -2147483648 ≤ b ∧ b < 2147483648) (h_2 : -2147483648 ≤ c ∧ c < 2147483648) (h_3 : 0 ≤ a ∧ a < 3) (h_4 : 0 ≤ b ∧ b < 6) (h_5 : 0 ≤ c ∧ c < 6) (h_6 : ¬ (dt b.toNat ≤ dt c.toNat)) : CT l yX3_until cX3_until 6 (some .int) 8 170 0 0 [.ref (w 0), .int (iI a), .int (iI b), .int (iI c)] S0 H (fun v9 H1 => v9 = some (.int (iI 0)) ∧ ∃ r1 q1 : Nat → Nat, MWR θ S0 w H1 r1 q1 dt sv 2 dn rf kn ∧ NW 6 H.size r r1 ∧ NW 3 H.size q q1) (fun _ _ => False) (WA w H.size) := by
  refine ct_of (by decide +kernel) (Nat.le_of_ble_eq_true rfl) ?_
  intro pg en s mi args below meth co ls fx hs hr hlk hxt hin hl
  subst hs
  obtain ⟨hx, hb, hml, hown, hts⟩ := id fx.1
  have hS : va_S (WA w s.heap.size) s.heap s.heap [] := va_S.rf
  obtain ⟨hz, hu, hm, hd, hsv⟩ := id hw
  have hAB : ∀ x : Nat, (WA w s.heap.size) x → θ.2.2.2 ≤ x := wa_b hu hz.2.1
  have hz0 := hz
  have hK := sz_K fx.2 hz
  have hlt0 := hm.lt
  have hu1 := hu.1
  have hAn : ∀ x : Nat, s.heap.size ≤ x → (WA w s.heap.size) x := fun _ h => Or.inr h
  refine lv_aload_n hx hb dX3_until_0 rfl (lv_at hl 0 rfl) ?_
  refine lv_iload_n hx hb dX3_until_1 rfl (lv_at hl 1 rfl) ?_
  obtain ⟨r1, hr1⟩ := bex (a < 0 ∨ 2 < a)
  refine c_P (As := [.int (iI a)]) (rest := [.ref (w 0)]) fx hl (pm_X3_isNoSpan l a r1 hr1 (by omega)) dX3_until_2 k1207 k1208 k6 k1209 hd_X3_isNoSpan rfl ⟨by decide, by decide⟩ (Nat.le_of_ble_eq_true rfl) ⟨by dsimp only; omega, by dsimp only; omega⟩ ?_
  have br1 : r1 = 0 ∨ r1 = 1 := hr1.elim (fun h => Or.inr h.1) (fun h => Or.inl h.1)
  refine q_ine (tgt := 16) hx hb dX3_until_5 (by decide) (by omega) (fun c2 => ?_) (fun c2 => ?_)
  · exact (show False by omega).elim
  · refine lv_iload_n hx hb dX3_until_8 rfl (lv_at hl 2 rfl) ?_
    refine lv_iload_n hx hb dX3_until_9 rfl (lv_at hl 3 rfl) ?_
    obtain ⟨r3, hr3⟩ := bex ((b < 0 ∨ 5 < b) ∨ (c < 0 ∨ 5 < c))
    refine c_P (As := [.int (iI b), .int (iI c)]) (rest := [.ref (w 0)]) fx hl (pm_X3_areNo l b c r3 hr3 (by omega) (by omega)) dX3_until_10 k1162 k1163 k6 k1164 hd_X3_areNo rfl ⟨by decide, by decide⟩ (Nat.le_of_ble_eq_true rfl) ⟨by dsimp only; omega, by dsimp only; omega⟩ ?_
    have br3 : r3 = 0 ∨ r3 = 1 := hr3.elim (fun h => Or.inr h.1) (fun h => Or.inl h.1)
    refine q_ieq (tgt := 20) hx hb dX3_until_13 (by decide) (by omega) (fun c4 => ?_) (fun c4 => ?_)
    · refine q_con hx hb dX3_until_20 ?_
      refine lv_iload_n hx hb dX3_until_21 rfl (lv_at hl 2 rfl) ?_
      refine lv_iload_n hx hb dX3_until_22 rfl (lv_at hl 3 rfl) ?_
      obtain ⟨r5, hr5⟩ := bex ((b < 0 ∨ 5 < b) ∨ (c < 0 ∨ 5 < c))
      refine c_P (As := [.int (iI b), .int (iI c)]) (rest := [.int (iI 0), .ref (w 0)]) fx hl (pm_X3_areNo l b c r5 hr5 (by omega) (by omega)) dX3_until_23 k1162 k1163 k6 k1164 hd_X3_areNo rfl ⟨by decide, by decide⟩ (Nat.le_of_ble_eq_true rfl) ⟨by dsimp only; omega, by dsimp only; omega⟩ ?_
      have br5 : r5 = 0 ∨ r5 = 1 := hr5.elim (fun h => Or.inr h.1) (fun h => Or.inl h.1)
      refine q_ine (tgt := 42) hx hb dX3_until_26 (by decide) (by omega) (fun c6 => ?_) (fun c6 => ?_)
      · exact (show False by omega).elim
      · refine lv_aload_n hx hb dX3_until_29 rfl (lv_at hl 0 rfl) ?_
        refine lv_iload_n hx hb dX3_until_30 rfl (lv_at hl 3 rfl) ?_
        refine lv_iload_n hx hb dX3_until_31 rfl (lv_at hl 2 rfl) ?_
        obtain ⟨r7, hr7⟩ := bex (dt c.toNat < dt b.toNat)
        have hmw : MWR θ S0 w s.heap r q dt sv th dn rf kn := ⟨hz, hu, hm, hd, hsv⟩
        refine c_HV (As := [.int (iI c), .int (iI b)]) (rest := [.int (iI 0), .ref (w 0)]) (b := w 0) (C := RX3) fx hl (mr_isAhead θ l S0 _ w _ _ _ _ _ _ _ _ hmw c b r7 hr7 (by omega) (by omega)) (ob_recv hK hm.1 rfl) dX3_until_32 k1232 k1234 ks15 k6 k1235 hd_X3_isAhead rfl ⟨by decide, by decide⟩ (Nat.le_of_ble_eq_true rfl) ⟨by dsimp only; omega, by dsimp only; omega⟩ ?_
        have br7 : r7 = 0 ∨ r7 = 1 := hr7.elim (fun h => Or.inr h.1) (fun h => Or.inl h.1)
        refine q_ieq (tgt := 42) hx hb dX3_until_35 (by decide) (by omega) (fun c8 => ?_) (fun c8 => ?_)
        · refine q_con hx hb dX3_until_42 ?_
          refine q_con hx hb dX3_until_43 ?_
          obtain ⟨t9, f10, hq1t9, hq2t9⟩ := fails_ex 0 0 0 (by omega) (by omega) (by omega)
          have hmw : MWR θ S0 w s.heap r q dt sv th dn rf kn := ⟨hz, hu, hm, hd, hsv⟩
          refine c_M (w := w) (As := [.int (iI 0), .int (iI 0), .int (iI 0)]) (rest := []) (b := w 0) (C := RX3) fx hl (mw_fails θ l S0 _ w _ _ _ _ _ _ _ _ hmw 0 0 0 t9 f10 (by omega) hq1t9 hq2t9) (ob_recv hK hm.1 rfl) dX3_until_44 k1119 k1121 ks10 k6 k1122 hd_X3_fails rfl ⟨by decide, by decide⟩ (Nat.le_of_ble_eq_true rfl) ⟨by dsimp only; omega, by dsimp only; omega⟩ hS (fun x hx => hx ▸ Or.inl (Or.inl rfl)) (fun H11 locs hmH11 hszH11 hk0H11 hS => ?_)
          have hkH11 : ∀ x : Nat, x < (s.heap).size → ¬ x = w 0 → H11[x]? = (s.heap)[x]? := hk0H11
          have hzH11 := hz0.at hAB hS
          have hltH11 := hmH11.lt
          refine q_ieq (tgt := 52) hx hb dX3_until_47 (by decide) (by omega) (fun c12 => ?_) (fun c12 => ?_)
          · exact (show False by omega).elim
          · refine q_con hx hb dX3_until_50 ?_
            obtain rfl : t9 = 2 := by omega
            have hmw : MWR θ S0 w H11 r q dt sv 2 dn rf kn := ⟨hzH11, hu, hmH11, hd, hsv⟩
            exact e_i hx hb hr hlk hS dX3_until_51 (Nat.le_of_ble_eq_true rfl) (Nat.le_of_ble_eq_true rfl) ⟨ex_i (by omega), r, q, by first | exact hmw | (subst_vars; exact hmw) | (simp only [inI_self, inI_1, inI_31] at hmw; subst_vars; exact hmw), by first | exact nw_rf | exact nw_up (by omega) | exact nw_up2 (by omega), by first | exact nw_rf | exact nw_up (by omega) | exact nw_up2 (by omega)⟩
        · refine q_con hx hb dX3_until_38 ?_
          refine lv_goto (tgt := 43) hx hb dX3_until_39 (by decide) ?_
          refine q_con hx hb dX3_until_43 ?_
          obtain ⟨t13, f14, hq1t13, hq2t13⟩ := fails_ex 0 1 0 (by omega) (by omega) (by omega)
          have hmw : MWR θ S0 w s.heap r q dt sv th dn rf kn := ⟨hz, hu, hm, hd, hsv⟩
          refine c_M (w := w) (As := [.int (iI 0), .int (iI 1), .int (iI 0)]) (rest := []) (b := w 0) (C := RX3) fx hl (mw_fails θ l S0 _ w _ _ _ _ _ _ _ _ hmw 0 1 0 t13 f14 (by omega) hq1t13 hq2t13) (ob_recv hK hm.1 rfl) dX3_until_44 k1119 k1121 ks10 k6 k1122 hd_X3_fails rfl ⟨by decide, by decide⟩ (Nat.le_of_ble_eq_true rfl) ⟨by dsimp only; omega, by dsimp only; omega⟩ hS (fun x hx => hx ▸ Or.inl (Or.inl rfl)) (fun H15 locs hmH15 hszH15 hk0H15 hS => ?_)
          have hkH15 : ∀ x : Nat, x < (s.heap).size → ¬ x = w 0 → H15[x]? = (s.heap)[x]? := hk0H15
          have hzH15 := hz0.at hAB hS
          have hltH15 := hmH15.lt
          refine q_ieq (tgt := 52) hx hb dX3_until_47 (by decide) (by omega) (fun c16 => ?_) (fun c16 => ?_)
          · exact (show False by omega).elim
          · refine q_con hx hb dX3_until_50 ?_
            obtain rfl : t13 = 2 := by omega
            have hmw : MWR θ S0 w H15 r q dt sv 2 dn rf kn := ⟨hzH15, hu, hmH15, hd, hsv⟩
            exact e_i hx hb hr hlk hS dX3_until_51 (Nat.le_of_ble_eq_true rfl) (Nat.le_of_ble_eq_true rfl) ⟨ex_i (by omega), r, q, by first | exact hmw | (subst_vars; exact hmw) | (simp only [inI_self, inI_1, inI_31] at hmw; subst_vars; exact hmw), by first | exact nw_rf | exact nw_up (by omega) | exact nw_up2 (by omega), by first | exact nw_rf | exact nw_up (by omega) | exact nw_up2 (by omega)⟩
    · exact (show False by omega).elim

set_option maxHeartbeats 4000000 in
set_option maxRecDepth 100000 in
theorem mw_failsShift (θ : TH) (l : Launch) (S0 : State) (H : Heap) (w : Nat → Nat) (r q : Nat → Nat) (dt : Nat → Int) (sv : Nat → Nat → Int) (th dn rf kn : Int) (hw : MWR θ S0 w H r q dt sv th dn rf kn) (a n t f : Int) (h_0 : -2147483648 ≤ a ∧ a < 2147483648) (h_1 : -2147483648 ≤ n ∧ n < 2147483648) (h_p : (¬ (0 ≤ a ∧ a < 6) ∧ t = 1) ∨ ((0 ≤ a ∧ a < 6) ∧ ¬ (-240000 ≤ n ∧ n ≤ 240000) ∧ t = 2) ∨ ((0 ≤ a ∧ a < 6) ∧ (-240000 ≤ n ∧ n ≤ 240000) ∧ t = 0)) (h_q : (t = 0 ∧ f = 0) ∨ (0 < t ∧ f = 1)) : CT l yX3_failsShift cX3_failsShift 3 (some .boolean) 2 42 0 0 [.ref (w 0), .int (iI a), .int (iI n)] S0 H (fun v9 H1 => v9 = some (.int (iI f)) ∧ MW θ w H1 r q dt sv t dn rf kn) (fun _ _ => False) (fun x => x = w 0) := by
  refine ct_of (by decide +kernel) (Nat.le_of_ble_eq_true rfl) ?_
  intro pg en s mi args below meth co ls fx hs hr hlk hxt hin hl
  subst hs
  obtain ⟨hx, hb, hml, hown, hts⟩ := id fx.1
  have hS : va_S (fun x : Nat => x = w 0) s.heap s.heap [] := va_S.rf
  obtain ⟨hz, hu, hm, hd, hsv⟩ := id hw
  have hAB : ∀ x : Nat, (fun x : Nat => x = w 0) x → θ.2.2.2 ≤ x := fun x h => h ▸ hu.2.1
  have hz0 := hz
  have hK := sz_K fx.2 hz
  have hlt0 := hm.lt
  have hu1 := hu.1
  refine lv_aload_n hx hb dX3_failsShift_0 rfl (lv_at hl 0 rfl) ?_
  refine lv_iload_n hx hb dX3_failsShift_1 rfl (lv_at hl 1 rfl) ?_
  obtain ⟨r1, hr1⟩ := bex (a < 0 ∨ 5 < a)
  refine c_P (As := [.int (iI a)]) (rest := [.ref (w 0)]) fx hl (pm_X3_isNo l a r1 hr1 (by omega)) dX3_failsShift_2 k1113 k1114 k6 k1115 hd_X3_isNo rfl ⟨by decide, by decide⟩ (Nat.le_of_ble_eq_true rfl) ⟨by dsimp only; omega, by dsimp only; omega⟩ ?_
  have br1 : r1 = 0 ∨ r1 = 1 := hr1.elim (fun h => Or.inr h.1) (fun h => Or.inl h.1)
  refine lv_iload_n hx hb dX3_failsShift_5 rfl (lv_at hl 2 rfl) ?_
  refine q_ldc (n := -240000) hx hb hown (hts _ k1181) (by decide) dX3_failsShift_6 ?_
  refine q_ldc (n := 240000) hx hb hown (hts _ k1182) (by decide) dX3_failsShift_8 ?_
  obtain ⟨r2, hr2⟩ := bex (n < (-240000) ∨ 240000 < n)
  refine c_P (As := [.int (iI n), .int (iI (-240000)), .int (iI 240000)]) (rest := [.int (iI r1), .ref (w 0)]) fx hl (pm_X3_isOut l n (-240000) 240000 r2 hr2 (by omega) (by omega) (by omega)) dX3_failsShift_10 k1116 k1117 k6 k1118 hd_X3_isOut rfl ⟨by decide, by decide⟩ (Nat.le_of_ble_eq_true rfl) ⟨by dsimp only; omega, by dsimp only; omega⟩ ?_
  have br2 : r2 = 0 ∨ r2 = 1 := hr2.elim (fun h => Or.inr h.1) (fun h => Or.inl h.1)
  refine q_con hx hb dX3_failsShift_13 ?_
  obtain ⟨t3, f4, hq1t3, hq2t3⟩ := fails_ex r1 r2 0 (by omega) (by omega) (by omega)
  have hmw : MWR θ S0 w s.heap r q dt sv th dn rf kn := ⟨hz, hu, hm, hd, hsv⟩
  refine c_M (w := w) (As := [.int (iI r1), .int (iI r2), .int (iI 0)]) (rest := []) (b := w 0) (C := RX3) fx hl (mw_fails θ l S0 _ w _ _ _ _ _ _ _ _ hmw r1 r2 0 t3 f4 (by omega) hq1t3 hq2t3) (ob_recv hK hm.1 rfl) dX3_failsShift_14 k1119 k1121 ks10 k6 k1122 hd_X3_fails rfl ⟨by decide, by decide⟩ (Nat.le_of_ble_eq_true rfl) ⟨by dsimp only; omega, by dsimp only; omega⟩ hS (fun _ h => h) (fun H5 locs hmH5 hszH5 hk0H5 hS => ?_)
  have hkH5 : ∀ x : Nat, x < (s.heap).size → ¬ x = w 0 → H5[x]? = (s.heap)[x]? := hk0H5
  have hzH5 := hz0.at hAB hS
  have hltH5 := hmH5.lt
  obtain rfl : t3 = t := by omega
  obtain rfl : f4 = f := by omega
  exact e_z hx hb hr hlk (by omega) hS dX3_failsShift_17 (Nat.le_refl _) (Nat.le_refl _) ⟨rfl, hmH5⟩

set_option maxHeartbeats 4000000 in
set_option maxRecDepth 100000 in
theorem mw_failsWay (θ : TH) (l : Launch) (S0 : State) (H : Heap) (w : Nat → Nat) (r q : Nat → Nat) (dt : Nat → Int) (sv : Nat → Nat → Int) (th dn rf kn : Int) (hw : MWR θ S0 w H r q dt sv th dn rf kn) (a n k t f : Int) (h_0 : -2147483648 ≤ a ∧ a < 2147483648) (h_1 : -2147483648 ≤ n ∧ n < 2147483648) (h_2 : -2147483648 ≤ k ∧ k < 2147483648) (h_p : (¬ (0 ≤ a ∧ a < 6) ∧ t = 1) ∨ ((0 ≤ a ∧ a < 6) ∧ ¬ ((-1200 ≤ n ∧ n ≤ 1200) ∧ 0 ≤ k ∧ k ≤ 48) ∧ t = 2) ∨ ((0 ≤ a ∧ a < 6) ∧ ((-1200 ≤ n ∧ n ≤ 1200) ∧ 0 ≤ k ∧ k ≤ 48) ∧ t = 0)) (h_q : (t = 0 ∧ f = 0) ∨ (0 < t ∧ f = 1)) : CT l yX3_failsWay cX3_failsWay 4 (some .boolean) 2 42 0 0 [.ref (w 0), .int (iI a), .int (iI n), .int (iI k)] S0 H (fun v9 H1 => v9 = some (.int (iI f)) ∧ MW θ w H1 r q dt sv t dn rf kn) (fun _ _ => False) (fun x => x = w 0) := by
  refine ct_of (by decide +kernel) (Nat.le_of_ble_eq_true rfl) ?_
  intro pg en s mi args below meth co ls fx hs hr hlk hxt hin hl
  subst hs
  obtain ⟨hx, hb, hml, hown, hts⟩ := id fx.1
  have hS : va_S (fun x : Nat => x = w 0) s.heap s.heap [] := va_S.rf
  obtain ⟨hz, hu, hm, hd, hsv⟩ := id hw
  have hAB : ∀ x : Nat, (fun x : Nat => x = w 0) x → θ.2.2.2 ≤ x := fun x h => h ▸ hu.2.1
  have hz0 := hz
  have hK := sz_K fx.2 hz
  have hlt0 := hm.lt
  have hu1 := hu.1
  refine lv_aload_n hx hb dX3_failsWay_0 rfl (lv_at hl 0 rfl) ?_
  refine lv_iload_n hx hb dX3_failsWay_1 rfl (lv_at hl 1 rfl) ?_
  obtain ⟨r1, hr1⟩ := bex (a < 0 ∨ 5 < a)
  refine c_P (As := [.int (iI a)]) (rest := [.ref (w 0)]) fx hl (pm_X3_isNo l a r1 hr1 (by omega)) dX3_failsWay_2 k1113 k1114 k6 k1115 hd_X3_isNo rfl ⟨by decide, by decide⟩ (Nat.le_of_ble_eq_true rfl) ⟨by dsimp only; omega, by dsimp only; omega⟩ ?_
  have br1 : r1 = 0 ∨ r1 = 1 := hr1.elim (fun h => Or.inr h.1) (fun h => Or.inl h.1)
  refine lv_iload_n hx hb dX3_failsWay_5 rfl (lv_at hl 2 rfl) ?_
  refine q_sip hx hb dX3_failsWay_6 (by decide) ?_
  refine q_sip hx hb dX3_failsWay_9 (by decide) ?_
  obtain ⟨r2, hr2⟩ := bex (n < (-1200) ∨ 1200 < n)
  refine c_P (As := [.int (iI n), .int (iI (-1200)), .int (iI 1200)]) (rest := [.int (iI r1), .ref (w 0)]) fx hl (pm_X3_isOut l n (-1200) 1200 r2 hr2 (by omega) (by omega) (by omega)) dX3_failsWay_12 k1116 k1117 k6 k1118 hd_X3_isOut rfl ⟨by decide, by decide⟩ (Nat.le_of_ble_eq_true rfl) ⟨by dsimp only; omega, by dsimp only; omega⟩ ?_
  have br2 : r2 = 0 ∨ r2 = 1 := hr2.elim (fun h => Or.inr h.1) (fun h => Or.inl h.1)
  refine q_ine (tgt := 28) hx hb dX3_failsWay_15 (by decide) (by omega) (fun c3 => ?_) (fun c3 => ?_)
  · refine q_con hx hb dX3_failsWay_28 ?_
    refine lv_goto (tgt := 33) hx hb dX3_failsWay_29 (by decide) ?_
    refine q_con hx hb dX3_failsWay_33 ?_
    obtain ⟨t4, f5, hq1t4, hq2t4⟩ := fails_ex r1 1 0 (by omega) (by omega) (by omega)
    have hmw : MWR θ S0 w s.heap r q dt sv th dn rf kn := ⟨hz, hu, hm, hd, hsv⟩
    refine c_M (w := w) (As := [.int (iI r1), .int (iI 1), .int (iI 0)]) (rest := []) (b := w 0) (C := RX3) fx hl (mw_fails θ l S0 _ w _ _ _ _ _ _ _ _ hmw r1 1 0 t4 f5 (by omega) hq1t4 hq2t4) (ob_recv hK hm.1 rfl) dX3_failsWay_34 k1119 k1121 ks10 k6 k1122 hd_X3_fails rfl ⟨by decide, by decide⟩ (Nat.le_of_ble_eq_true rfl) ⟨by dsimp only; omega, by dsimp only; omega⟩ hS (fun _ h => h) (fun H6 locs hmH6 hszH6 hk0H6 hS => ?_)
    have hkH6 : ∀ x : Nat, x < (s.heap).size → ¬ x = w 0 → H6[x]? = (s.heap)[x]? := hk0H6
    have hzH6 := hz0.at hAB hS
    have hltH6 := hmH6.lt
    obtain rfl : t4 = t := by omega
    obtain rfl : f5 = f := by omega
    exact e_z hx hb hr hlk (by omega) hS dX3_failsWay_37 (Nat.le_refl _) (Nat.le_refl _) ⟨rfl, hmH6⟩
  · refine lv_iload_n hx hb dX3_failsWay_18 rfl (lv_at hl 3 rfl) ?_
    refine q_con hx hb dX3_failsWay_19 ?_
    refine q_bip hx hb dX3_failsWay_20 (by decide) ?_
    obtain ⟨r7, hr7⟩ := bex (k < 0 ∨ 48 < k)
    refine c_P (As := [.int (iI k), .int (iI 0), .int (iI 48)]) (rest := [.int (iI r1), .ref (w 0)]) fx hl (pm_X3_isOut l k 0 48 r7 hr7 (by omega) (by omega) (by omega)) dX3_failsWay_22 k1116 k1117 k6 k1118 hd_X3_isOut rfl ⟨by decide, by decide⟩ (Nat.le_of_ble_eq_true rfl) ⟨by dsimp only; omega, by dsimp only; omega⟩ ?_
    have br7 : r7 = 0 ∨ r7 = 1 := hr7.elim (fun h => Or.inr h.1) (fun h => Or.inl h.1)
    refine q_ieq (tgt := 32) hx hb dX3_failsWay_25 (by decide) (by omega) (fun c8 => ?_) (fun c8 => ?_)
    · refine q_con hx hb dX3_failsWay_32 ?_
      refine q_con hx hb dX3_failsWay_33 ?_
      obtain ⟨t9, f10, hq1t9, hq2t9⟩ := fails_ex r1 0 0 (by omega) (by omega) (by omega)
      have hmw : MWR θ S0 w s.heap r q dt sv th dn rf kn := ⟨hz, hu, hm, hd, hsv⟩
      refine c_M (w := w) (As := [.int (iI r1), .int (iI 0), .int (iI 0)]) (rest := []) (b := w 0) (C := RX3) fx hl (mw_fails θ l S0 _ w _ _ _ _ _ _ _ _ hmw r1 0 0 t9 f10 (by omega) hq1t9 hq2t9) (ob_recv hK hm.1 rfl) dX3_failsWay_34 k1119 k1121 ks10 k6 k1122 hd_X3_fails rfl ⟨by decide, by decide⟩ (Nat.le_of_ble_eq_true rfl) ⟨by dsimp only; omega, by dsimp only; omega⟩ hS (fun _ h => h) (fun H11 locs hmH11 hszH11 hk0H11 hS => ?_)
      have hkH11 : ∀ x : Nat, x < (s.heap).size → ¬ x = w 0 → H11[x]? = (s.heap)[x]? := hk0H11
      have hzH11 := hz0.at hAB hS
      have hltH11 := hmH11.lt
      obtain rfl : t9 = t := by omega
      obtain rfl : f10 = f := by omega
      exact e_z hx hb hr hlk (by omega) hS dX3_failsWay_37 (Nat.le_refl _) (Nat.le_refl _) ⟨rfl, hmH11⟩
    · refine q_con hx hb dX3_failsWay_28 ?_
      refine lv_goto (tgt := 33) hx hb dX3_failsWay_29 (by decide) ?_
      refine q_con hx hb dX3_failsWay_33 ?_
      obtain ⟨t12, f13, hq1t12, hq2t12⟩ := fails_ex r1 1 0 (by omega) (by omega) (by omega)
      have hmw : MWR θ S0 w s.heap r q dt sv th dn rf kn := ⟨hz, hu, hm, hd, hsv⟩
      refine c_M (w := w) (As := [.int (iI r1), .int (iI 1), .int (iI 0)]) (rest := []) (b := w 0) (C := RX3) fx hl (mw_fails θ l S0 _ w _ _ _ _ _ _ _ _ hmw r1 1 0 t12 f13 (by omega) hq1t12 hq2t12) (ob_recv hK hm.1 rfl) dX3_failsWay_34 k1119 k1121 ks10 k6 k1122 hd_X3_fails rfl ⟨by decide, by decide⟩ (Nat.le_of_ble_eq_true rfl) ⟨by dsimp only; omega, by dsimp only; omega⟩ hS (fun _ h => h) (fun H14 locs hmH14 hszH14 hk0H14 hS => ?_)
      have hkH14 : ∀ x : Nat, x < (s.heap).size → ¬ x = w 0 → H14[x]? = (s.heap)[x]? := hk0H14
      have hzH14 := hz0.at hAB hS
      have hltH14 := hmH14.lt
      obtain rfl : t12 = t := by omega
      obtain rfl : f13 = f := by omega
      exact e_z hx hb hr hlk (by omega) hS dX3_failsWay_37 (Nat.le_refl _) (Nat.le_refl _) ⟨rfl, hmH14⟩

set_option maxHeartbeats 4000000 in
set_option maxRecDepth 100000 in
theorem ma_lossNow (θ : TH) (l : Launch) (S0 : State) (H : Heap) (w : Nat → Nat) (r q : Nat → Nat) (dt : Nat → Int) (sv : Nat → Nat → Int) (th dn rf kn : Int) (hw : MWR θ S0 w H r q dt sv th dn rf kn) (a n : Int) (h_0 : 0 ≤ a ∧ a < 6) (h_1 : -240000 ≤ n ∧ n ≤ 240000) : CT l yX3_lossNow cX3_lossNow 3 (some .int) 6 125 1 2 [.ref (w 0), .int (iI a), .int (iI n)] S0 H (fun v9 H1 => v9 = some (.int (iI (dI (dt a.toNat) - dI (shI (dt a.toNat) n)))) ∧ True) (fun _ _ => False) (fun x => H.size ≤ x) := by
  refine ct_of (by decide +kernel) (Nat.le_of_ble_eq_true rfl) ?_
  intro pg en s mi args below meth co ls fx hs hr hlk hxt hin hl
  subst hs
  obtain ⟨hx, hb, hml, hown, hts⟩ := id fx.1
  have hS : va_S (fun x : Nat => s.heap.size ≤ x) s.heap s.heap [] := va_S.rf
  obtain ⟨hz, hu, hm, hd, hsv⟩ := id hw
  have hAB : ∀ x : Nat, (fun x : Nat => s.heap.size ≤ x) x → θ.2.2.2 ≤ x := fun x h => Nat.le_trans hz.2.1 h
  have hz0 := hz
  have hK := sz_K fx.2 hz
  have hlt0 := hm.lt
  have hu1 := hu.1
  have hAn : ∀ x : Nat, s.heap.size ≤ x → (fun x : Nat => s.heap.size ≤ x) x := fun _ h => h
  refine lv_aload_n hx hb dX3_lossNow_0 rfl (lv_at hl 0 rfl) ?_
  refine r_get (θ := θ) (C := RX3) (T := TX3) (N := 6) (ci := 9) hx hb hts gwX3 hown hK hm.1 rfl 4 (by decide) k1094 (fun _ h => h) (v := .ref (w 1)) rfl dX3_lossNow_1 ?_
  refine lv_iload_n hx hb dX3_lossNow_4 rfl (lv_at hl 1 rfl) ?_
  refine r_aald (θ := θ) hx hb hK hm.2.1 (i := a) (by omega) (by decide) dX3_lossNow_5 ?_
  have rw1 := (hm.2.2.2.1 (a.toNat) (by omega)).1
  have rw1n := (hm.2.2.2.1 (a.toNat) (by omega)).2
  have rw1t := hd (a.toNat) (by omega)
  have rw1l := rw1.lt
  have rw1i := inR rw1t
  have rw1m := inM rw1i
  have rw1d := dI_b (dt a.toNat)
  refine q_con hx hb dX3_lossNow_6 ?_
  refine r_iald (θ := θ) hx hb hK rw1 (i := 1) (by omega) (by decide) dX3_lossNow_7 ?_
  refine q_as (dI (dt a.toNat)) rfl ?_
  refine lv_aload_n hx hb dX3_lossNow_8 rfl (lv_at hl 0 rfl) ?_
  refine r_get (θ := θ) (C := RX3) (T := TX3) (N := 6) (ci := 9) hx hb hts gwX3 hown hK hm.1 rfl 4 (by decide) k1094 (fun _ h => h) (v := .ref (w 1)) rfl dX3_lossNow_9 ?_
  refine lv_iload_n hx hb dX3_lossNow_12 rfl (lv_at hl 1 rfl) ?_
  refine r_aald (θ := θ) hx hb hK hm.2.1 (i := a) (by omega) (by decide) dX3_lossNow_13 ?_
  have rw2 := (hm.2.2.2.1 (a.toNat) (by omega)).1
  have rw2n := (hm.2.2.2.1 (a.toNat) (by omega)).2
  have rw2t := hd (a.toNat) (by omega)
  have rw2l := rw2.lt
  have rw2i := inR rw2t
  have rw2m := inM rw2i
  have rw2d := dI_b (dt a.toNat)
  refine lv_iload_n hx hb dX3_lossNow_14 rfl (lv_at hl 2 rfl) ?_
  refine c_NR (θ := θ) (As := [.ref (r a.toNat), .int (iI n)]) (rest := [.int (iI (dI (dt a.toNat)))]) fx hl (pm_X3_shifted θ l S0 _ hz (r a.toNat) n (dt a.toNat) rw2 (by omega) (by omega)) dX3_lossNow_15 k1183 k1184 k6 k1185 hd_X3_shifted rfl ⟨by decide, by decide⟩ (Nat.le_of_ble_eq_true rfl) ⟨by dsimp only; omega, by dsimp only; omega⟩ hS (fun x hx => hAn x (Nat.le_trans hS.1 hx)) (fun q4 H3 locs hqH3 haH3 hszH3 hkH3 hS => ?_)
  have rw2_H3 := rw2.kept (hkH3 _ rw2.lt)
  have hzH3 := hz0.at hAB hS
  have hmH3 := hm.kept hkH3
  have hltH3 := haH3.lt
  have t0q4 := shI_s (dt a.toNat) n
  have t1q4 := shI_bd (dt a.toNat) n
  refine q_con hx hb dX3_lossNow_18 ?_
  refine r_iald (θ := θ) hx hb hK haH3 (i := 1) (by omega) (by decide) dX3_lossNow_19 ?_
  refine q_as (dI (shI (dt a.toNat) n)) rfl ?_
  refine q_sub hx hb dX3_lossNow_20 ?_
  exact e_i hx hb hr hlk hS dX3_lossNow_21 (Nat.le_of_ble_eq_true rfl) (Nat.le_of_ble_eq_true rfl) ⟨ex_i (by subst_vars; first | omega | (simp only [up_s, tri_0, tri_1, tri_2, inI_self, inI_1, inI_31]; done) | (simp only [up_s, tri_0, tri_1, tri_2, inI_self, inI_1, inI_31]; omega) | (simp only [up_s, tri_0, tri_1, tri_2]; subst_vars; first | rfl | omega)), trivial⟩

set_option maxHeartbeats 4000000 in
set_option maxRecDepth 100000 in
theorem ma_gapNow (θ : TH) (l : Launch) (S0 : State) (H : Heap) (w : Nat → Nat) (r q : Nat → Nat) (dt : Nat → Int) (sv : Nat → Nat → Int) (th dn rf kn : Int) (hw : MWR θ S0 w H r q dt sv th dn rf kn) (a n k : Int) (h_0 : 0 ≤ a ∧ a < 6) (h_1 : -240000 ≤ n ∧ n ≤ 240000) (h_2 : -100000 ≤ k ∧ k ≤ 100000) : CT l yX3_gapNow cX3_gapNow 4 (some .int) 7 148 4 8 [.ref (w 0), .int (iI a), .int (iI n), .int (iI k)] S0 H (fun v9 H1 => v9 = some (.int (iI (shI (dt a.toNat + k) n - (shI (dt a.toNat) n + k)))) ∧ True) (fun _ _ => False) (fun x => H.size ≤ x) := by
  refine ct_of (by decide +kernel) (Nat.le_of_ble_eq_true rfl) ?_
  intro pg en s mi args below meth co ls fx hs hr hlk hxt hin hl
  subst hs
  obtain ⟨hx, hb, hml, hown, hts⟩ := id fx.1
  have hS : va_S (fun x : Nat => s.heap.size ≤ x) s.heap s.heap [] := va_S.rf
  obtain ⟨hz, hu, hm, hd, hsv⟩ := id hw
  have hAB : ∀ x : Nat, (fun x : Nat => s.heap.size ≤ x) x → θ.2.2.2 ≤ x := fun x h => Nat.le_trans hz.2.1 h
  have hz0 := hz
  have hK := sz_K fx.2 hz
  have hlt0 := hm.lt
  have hu1 := hu.1
  have hAn : ∀ x : Nat, s.heap.size ≤ x → (fun x : Nat => s.heap.size ≤ x) x := fun _ h => h
  refine lv_aload_n hx hb dX3_gapNow_0 rfl (lv_at hl 0 rfl) ?_
  refine r_get (θ := θ) (C := RX3) (T := TX3) (N := 6) (ci := 9) hx hb hts gwX3 hown hK hm.1 rfl 4 (by decide) k1094 (fun _ h => h) (v := .ref (w 1)) rfl dX3_gapNow_1 ?_
  refine lv_iload_n hx hb dX3_gapNow_4 rfl (lv_at hl 1 rfl) ?_
  refine r_aald (θ := θ) hx hb hK hm.2.1 (i := a) (by omega) (by decide) dX3_gapNow_5 ?_
  have rw1 := (hm.2.2.2.1 (a.toNat) (by omega)).1
  have rw1n := (hm.2.2.2.1 (a.toNat) (by omega)).2
  have rw1t := hd (a.toNat) (by omega)
  have rw1l := rw1.lt
  have rw1i := inR rw1t
  have rw1m := inM rw1i
  have rw1d := dI_b (dt a.toNat)
  refine lv_iload_n hx hb dX3_gapNow_6 rfl (lv_at hl 3 rfl) ?_
  refine c_NR (θ := θ) (As := [.ref (r a.toNat), .int (iI k)]) (rest := []) fx hl (pm_X3_on θ l S0 _ hz (r a.toNat) k (dt a.toNat) rw1 (by omega) (by omega)) dX3_gapNow_7 k1196 k1197 k6 k1198 hd_X3_on rfl ⟨by decide, by decide⟩ (Nat.le_of_ble_eq_true rfl) ⟨by dsimp only; omega, by dsimp only; omega⟩ hS (fun x hx => hAn x (Nat.le_trans hS.1 hx)) (fun q3 H2 locs hqH2 haH2 hszH2 hkH2 hS => ?_)
  have rw1_H2 := rw1.kept (hkH2 _ rw1.lt)
  have hzH2 := hz0.at hAB hS
  have hmH2 := hm.kept hkH2
  have hltH2 := haH2.lt
  refine lv_iload_n hx hb dX3_gapNow_10 rfl (lv_at hl 2 rfl) ?_
  refine c_NR (θ := θ) (As := [.ref q3, .int (iI n)]) (rest := []) fx hl (pm_X3_shifted θ l S0 _ hzH2 q3 n ((dt a.toNat) + k) haH2 (by omega) (by omega)) dX3_gapNow_11 k1183 k1184 k6 k1185 hd_X3_shifted rfl ⟨by decide, by decide⟩ (Nat.le_of_ble_eq_true rfl) ⟨by dsimp only; omega, by dsimp only; omega⟩ hS (fun x hx => hAn x (Nat.le_trans hS.1 hx)) (fun q5 H4 locs hqH4 haH4 hszH4 hkH4 hS => ?_)
  have rw1_H4 := rw1_H2.kept (hkH4 _ rw1_H2.lt)
  have haH2_H4 := haH2.kept (hkH4 _ haH2.lt)
  have hzH4 := hz0.at hAB hS
  have hmH4 := hmH2.kept hkH4
  have hltH4 := haH4.lt
  have t0q5 := shI_s ((dt a.toNat) + k) n
  have t1q5 := shI_bd ((dt a.toNat) + k) n
  refine c_H (As := [.ref q5]) (rest := []) fx hl (pm_X3_numberOf θ l S0 _ hzH4 q5 (shI ((dt a.toNat) + k) n) haH4 (by omega)) dX3_gapNow_14 k1133 k1134 k6 k1135 hd_X3_numberOf rfl ⟨by decide, by decide⟩ (Nat.le_of_ble_eq_true rfl) ⟨by dsimp only; omega, by dsimp only; omega⟩ ?_
  refine lv_aload_n hx hb dX3_gapNow_17 rfl (lv_at hl 0 rfl) ?_
  refine r_get (θ := θ) (C := RX3) (T := TX3) (N := 6) (ci := 9) hx hb hts gwX3 hown hK hmH4.1 rfl 4 (by decide) k1094 (fun _ h => h) (v := .ref (w 1)) rfl dX3_gapNow_18 ?_
  refine lv_iload_n hx hb dX3_gapNow_21 rfl (lv_at hl 1 rfl) ?_
  refine r_aald (θ := θ) hx hb hK hmH4.2.1 (i := a) (by omega) (by decide) dX3_gapNow_22 ?_
  have rw7 := (hmH4.2.2.2.1 (a.toNat) (by omega)).1
  have rw7n := (hmH4.2.2.2.1 (a.toNat) (by omega)).2
  have rw7t := hd (a.toNat) (by omega)
  have rw7l := rw7.lt
  have rw7i := inR rw7t
  have rw7m := inM rw7i
  have rw7d := dI_b (dt a.toNat)
  refine lv_iload_n hx hb dX3_gapNow_23 rfl (lv_at hl 2 rfl) ?_
  refine c_NR (θ := θ) (As := [.ref (r a.toNat), .int (iI n)]) (rest := [.int (iI (shI ((dt a.toNat) + k) n))]) fx hl (pm_X3_shifted θ l S0 _ hzH4 (r a.toNat) n (dt a.toNat) rw7 (by omega) (by omega)) dX3_gapNow_24 k1183 k1184 k6 k1185 hd_X3_shifted rfl ⟨by decide, by decide⟩ (Nat.le_of_ble_eq_true rfl) ⟨by dsimp only; omega, by dsimp only; omega⟩ hS (fun x hx => hAn x (Nat.le_trans hS.1 hx)) (fun q9 H8 locs hqH8 haH8 hszH8 hkH8 hS => ?_)
  have rw7_H8 := rw7.kept (hkH8 _ rw7.lt)
  have haH2_H8 := haH2_H4.kept (hkH8 _ haH2_H4.lt)
  have haH4_H8 := haH4.kept (hkH8 _ haH4.lt)
  have hzH8 := hz0.at hAB hS
  have hmH8 := hmH4.kept hkH8
  have hltH8 := haH8.lt
  have t0q9 := shI_s (dt a.toNat) n
  have t1q9 := shI_bd (dt a.toNat) n
  refine lv_iload_n hx hb dX3_gapNow_27 rfl (lv_at hl 3 rfl) ?_
  refine c_NR (θ := θ) (As := [.ref q9, .int (iI k)]) (rest := [.int (iI (shI ((dt a.toNat) + k) n))]) fx hl (pm_X3_on θ l S0 _ hzH8 q9 k (shI (dt a.toNat) n) haH8 (by omega) (by omega)) dX3_gapNow_28 k1196 k1197 k6 k1198 hd_X3_on rfl ⟨by decide, by decide⟩ (Nat.le_of_ble_eq_true rfl) ⟨by dsimp only; omega, by dsimp only; omega⟩ hS (fun x hx => hAn x (Nat.le_trans hS.1 hx)) (fun q11 H10 locs hqH10 haH10 hszH10 hkH10 hS => ?_)
  have rw7_H10 := rw7_H8.kept (hkH10 _ rw7_H8.lt)
  have haH2_H10 := haH2_H8.kept (hkH10 _ haH2_H8.lt)
  have haH4_H10 := haH4_H8.kept (hkH10 _ haH4_H8.lt)
  have haH8_H10 := haH8.kept (hkH10 _ haH8.lt)
  have hzH10 := hz0.at hAB hS
  have hmH10 := hmH8.kept hkH10
  have hltH10 := haH10.lt
  refine c_H (As := [.ref q11]) (rest := [.int (iI (shI ((dt a.toNat) + k) n))]) fx hl (pm_X3_numberOf θ l S0 _ hzH10 q11 ((shI (dt a.toNat) n) + k) haH10 (by omega)) dX3_gapNow_31 k1133 k1134 k6 k1135 hd_X3_numberOf rfl ⟨by decide, by decide⟩ (Nat.le_of_ble_eq_true rfl) ⟨by dsimp only; omega, by dsimp only; omega⟩ ?_
  refine q_nm (fun z12 ez12 => ?_)
  refine q_sub hx hb dX3_gapNow_34 ?_
  exact e_i hx hb hr hlk hS dX3_gapNow_35 (Nat.le_of_ble_eq_true rfl) (Nat.le_of_ble_eq_true rfl) ⟨ex_i (by subst_vars; first | omega | (simp only [up_s, tri_0, tri_1, tri_2, inI_self, inI_1, inI_31]; done) | (simp only [up_s, tri_0, tri_1, tri_2, inI_self, inI_1, inI_31]; omega) | (simp only [up_s, tri_0, tri_1, tri_2]; subst_vars; first | rfl | omega)), trivial⟩

set_option maxHeartbeats 4000000 in
set_option maxRecDepth 100000 in
theorem mok_isKept (θ : TH) (l : Launch) (S0 : State) (H : Heap) (w : Nat → Nat) (r q : Nat → Nat) (dt : Nat → Int) (sv : Nat → Nat → Int) (th dn rf kn : Int) (hw : MWR θ S0 w H r q dt sv th dn rf kn) (a n : Int) (r9 : Int) (hr0 : (r9 = 1 ∧ (dI (dt a.toNat) - dI (shI (dt a.toNat) n) = 0)) ∨ (r9 = 0 ∧ ¬ (dI (dt a.toNat) - dI (shI (dt a.toNat) n) = 0))) (h_0 : -2147483648 ≤ a ∧ a < 2147483648) (h_1 : -2147483648 ≤ n ∧ n < 2147483648) (h_2 : 0 ≤ a ∧ a < 6) (h_3 : -240000 ≤ n ∧ n ≤ 240000) : CT l yX3_isKept cX3_isKept 3 (some .boolean) 7 147 1 2 [.ref (w 0), .int (iI a), .int (iI n)] S0 H (fun v9 H1 => v9 = some (.int (iI r9)) ∧ ∃ r1 q1 : Nat → Nat, MWR θ S0 w H1 r1 q1 dt sv 0 dn rf kn ∧ NW 6 H.size r r1 ∧ NW 3 H.size q q1) (fun _ _ => False) (WA w H.size) := by
  refine ct_of (by decide +kernel) (Nat.le_of_ble_eq_true rfl) ?_
  intro pg en s mi args below meth co ls fx hs hr hlk hxt hin hl
  subst hs
  obtain ⟨hx, hb, hml, hown, hts⟩ := id fx.1
  have hS : va_S (WA w s.heap.size) s.heap s.heap [] := va_S.rf
  obtain ⟨hz, hu, hm, hd, hsv⟩ := id hw
  have hAB : ∀ x : Nat, (WA w s.heap.size) x → θ.2.2.2 ≤ x := wa_b hu hz.2.1
  have hz0 := hz
  have hK := sz_K fx.2 hz
  have hlt0 := hm.lt
  have hu1 := hu.1
  have hAn : ∀ x : Nat, s.heap.size ≤ x → (WA w s.heap.size) x := fun _ h => Or.inr h
  refine lv_aload_n hx hb dX3_isKept_0 rfl (lv_at hl 0 rfl) ?_
  refine lv_iload_n hx hb dX3_isKept_1 rfl (lv_at hl 1 rfl) ?_
  refine lv_iload_n hx hb dX3_isKept_2 rfl (lv_at hl 2 rfl) ?_
  obtain ⟨t1, f2, hq1t1, hq2t1⟩ := fw_ex (0 ≤ a ∧ a < 6) (-240000 ≤ n ∧ n ≤ 240000)
  have hmw : MWR θ S0 w s.heap r q dt sv th dn rf kn := ⟨hz, hu, hm, hd, hsv⟩
  refine c_M (w := w) (As := [.int (iI a), .int (iI n)]) (rest := []) (b := w 0) (C := RX3) fx hl (mw_failsShift θ l S0 _ w _ _ _ _ _ _ _ _ hmw a n t1 f2 (by omega) (by omega) hq1t1 hq2t1) (ob_recv hK hm.1 rfl) dX3_isKept_3 k1262 k1264 ks17 k6 k1265 hd_X3_failsShift rfl ⟨by decide, by decide⟩ (Nat.le_of_ble_eq_true rfl) ⟨by dsimp only; omega, by dsimp only; omega⟩ hS (fun x hx => hx ▸ Or.inl (Or.inl rfl)) (fun H3 locs hmH3 hszH3 hk0H3 hS => ?_)
  have hkH3 : ∀ x : Nat, x < (s.heap).size → ¬ x = w 0 → H3[x]? = (s.heap)[x]? := hk0H3
  have hzH3 := hz0.at hAB hS
  have hltH3 := hmH3.lt
  refine q_ine (tgt := 22) hx hb dX3_isKept_6 (by decide) (by omega) (fun c4 => ?_) (fun c4 => ?_)
  · exact (show False by omega).elim
  · refine lv_aload_n hx hb dX3_isKept_9 rfl (lv_at hl 0 rfl) ?_
    refine lv_iload_n hx hb dX3_isKept_10 rfl (lv_at hl 1 rfl) ?_
    refine lv_iload_n hx hb dX3_isKept_11 rfl (lv_at hl 2 rfl) ?_
    have hmw : MWR θ S0 w H3 r q dt sv t1 dn rf kn := ⟨hzH3, hu, hmH3, hd, hsv⟩
    refine c_M (w := w) (As := [.int (iI a), .int (iI n)]) (rest := []) (b := w 0) (C := RX3) fx hl (ma_lossNow θ l S0 _ w _ _ _ _ _ _ _ _ hmw a n (by omega) (by omega)) (ob_recv hK hmH3.1 rfl) dX3_isKept_12 k1266 k1268 ks18 k6 k1269 hd_X3_lossNow rfl ⟨by decide, by decide⟩ (Nat.le_of_ble_eq_true rfl) ⟨by dsimp only; omega, by dsimp only; omega⟩ hS (fun x hx => hAn x (Nat.le_trans hS.1 hx)) (fun H5 locs _ hszH5 hk0H5 hS => ?_)
    have hkH5 : ∀ x : Nat, x < (H3).size → H5[x]? = (H3)[x]? := fun x hx => hk0H5 x hx (Nat.not_le.mpr hx)
    have hzH5 := hz0.at hAB hS
    have hmH5 := hmH3.kept hkH5
    have hltH5 := hmH5.lt
    refine q_nm (fun z6 ez6 => ?_)
    have t0z6 := dI_b (dt a.toNat)
    have t1z6 := dI_b (shI (dt a.toNat) n)
    refine q_ine (tgt := 22) hx hb dX3_isKept_15 (by decide) (by omega) (fun c7 => ?_) (fun c7 => ?_)
    · refine q_con hx hb dX3_isKept_22 ?_
      obtain rfl : t1 = 0 := by omega
      have hmw : MWR θ S0 w H5 r q dt sv 0 dn rf kn := ⟨hzH5, hu, hmH5, hd, hsv⟩
      exact e_z hx hb hr hlk (by decide) hS dX3_isKept_23 (Nat.le_of_ble_eq_true rfl) (Nat.le_of_ble_eq_true rfl) ⟨ex_i (by omega), r, q, by first | exact hmw | (subst_vars; exact hmw) | (simp only [inI_self, inI_1, inI_31] at hmw; subst_vars; exact hmw), by first | exact nw_rf | exact nw_up (by omega) | exact nw_up2 (by omega), by first | exact nw_rf | exact nw_up (by omega) | exact nw_up2 (by omega)⟩
    · refine q_con hx hb dX3_isKept_18 ?_
      refine lv_goto (tgt := 23) hx hb dX3_isKept_19 (by decide) ?_
      obtain rfl : t1 = 0 := by omega
      have hmw : MWR θ S0 w H5 r q dt sv 0 dn rf kn := ⟨hzH5, hu, hmH5, hd, hsv⟩
      exact e_z hx hb hr hlk (by decide) hS dX3_isKept_23 (Nat.le_of_ble_eq_true rfl) (Nat.le_of_ble_eq_true rfl) ⟨ex_i (by omega), r, q, by first | exact hmw | (subst_vars; exact hmw) | (simp only [inI_self, inI_1, inI_31] at hmw; subst_vars; exact hmw), by first | exact nw_rf | exact nw_up (by omega) | exact nw_up2 (by omega), by first | exact nw_rf | exact nw_up (by omega) | exact nw_up2 (by omega)⟩

set_option maxHeartbeats 4000000 in
set_option maxRecDepth 100000 in
theorem mno1_isKept (θ : TH) (l : Launch) (S0 : State) (H : Heap) (w : Nat → Nat) (r q : Nat → Nat) (dt : Nat → Int) (sv : Nat → Nat → Int) (th dn rf kn : Int) (hw : MWR θ S0 w H r q dt sv th dn rf kn) (a n : Int) (h_0 : -2147483648 ≤ a ∧ a < 2147483648) (h_1 : -2147483648 ≤ n ∧ n < 2147483648) (h_2 : ¬ (0 ≤ a ∧ a < 6)) : CT l yX3_isKept cX3_isKept 3 (some .boolean) 3 64 0 0 [.ref (w 0), .int (iI a), .int (iI n)] S0 H (fun v9 H1 => v9 = some (.int (iI 0)) ∧ ∃ r1 q1 : Nat → Nat, MWR θ S0 w H1 r1 q1 dt sv 1 dn rf kn ∧ NW 6 H.size r r1 ∧ NW 3 H.size q q1) (fun _ _ => False) (WA w H.size) := by
  refine ct_of (by decide +kernel) (Nat.le_of_ble_eq_true rfl) ?_
  intro pg en s mi args below meth co ls fx hs hr hlk hxt hin hl
  subst hs
  obtain ⟨hx, hb, hml, hown, hts⟩ := id fx.1
  have hS : va_S (WA w s.heap.size) s.heap s.heap [] := va_S.rf
  obtain ⟨hz, hu, hm, hd, hsv⟩ := id hw
  have hAB : ∀ x : Nat, (WA w s.heap.size) x → θ.2.2.2 ≤ x := wa_b hu hz.2.1
  have hz0 := hz
  have hK := sz_K fx.2 hz
  have hlt0 := hm.lt
  have hu1 := hu.1
  have hAn : ∀ x : Nat, s.heap.size ≤ x → (WA w s.heap.size) x := fun _ h => Or.inr h
  refine lv_aload_n hx hb dX3_isKept_0 rfl (lv_at hl 0 rfl) ?_
  refine lv_iload_n hx hb dX3_isKept_1 rfl (lv_at hl 1 rfl) ?_
  refine lv_iload_n hx hb dX3_isKept_2 rfl (lv_at hl 2 rfl) ?_
  obtain ⟨t1, f2, hq1t1, hq2t1⟩ := fw_ex (0 ≤ a ∧ a < 6) (-240000 ≤ n ∧ n ≤ 240000)
  have hmw : MWR θ S0 w s.heap r q dt sv th dn rf kn := ⟨hz, hu, hm, hd, hsv⟩
  refine c_M (w := w) (As := [.int (iI a), .int (iI n)]) (rest := []) (b := w 0) (C := RX3) fx hl (mw_failsShift θ l S0 _ w _ _ _ _ _ _ _ _ hmw a n t1 f2 (by omega) (by omega) hq1t1 hq2t1) (ob_recv hK hm.1 rfl) dX3_isKept_3 k1262 k1264 ks17 k6 k1265 hd_X3_failsShift rfl ⟨by decide, by decide⟩ (Nat.le_of_ble_eq_true rfl) ⟨by dsimp only; omega, by dsimp only; omega⟩ hS (fun x hx => hx ▸ Or.inl (Or.inl rfl)) (fun H3 locs hmH3 hszH3 hk0H3 hS => ?_)
  have hkH3 : ∀ x : Nat, x < (s.heap).size → ¬ x = w 0 → H3[x]? = (s.heap)[x]? := hk0H3
  have hzH3 := hz0.at hAB hS
  have hltH3 := hmH3.lt
  refine q_ine (tgt := 22) hx hb dX3_isKept_6 (by decide) (by omega) (fun c4 => ?_) (fun c4 => ?_)
  · refine q_con hx hb dX3_isKept_22 ?_
    obtain rfl : t1 = 1 := by omega
    have hmw : MWR θ S0 w H3 r q dt sv 1 dn rf kn := ⟨hzH3, hu, hmH3, hd, hsv⟩
    exact e_z hx hb hr hlk (by decide) hS dX3_isKept_23 (Nat.le_of_ble_eq_true rfl) (Nat.le_of_ble_eq_true rfl) ⟨ex_i (by omega), r, q, by first | exact hmw | (subst_vars; exact hmw) | (simp only [inI_self, inI_1, inI_31] at hmw; subst_vars; exact hmw), by first | exact nw_rf | exact nw_up (by omega) | exact nw_up2 (by omega), by first | exact nw_rf | exact nw_up (by omega) | exact nw_up2 (by omega)⟩
  · exact (show False by omega).elim

set_option maxHeartbeats 4000000 in
set_option maxRecDepth 100000 in
theorem mno2_isKept (θ : TH) (l : Launch) (S0 : State) (H : Heap) (w : Nat → Nat) (r q : Nat → Nat) (dt : Nat → Int) (sv : Nat → Nat → Int) (th dn rf kn : Int) (hw : MWR θ S0 w H r q dt sv th dn rf kn) (a n : Int) (h_0 : -2147483648 ≤ a ∧ a < 2147483648) (h_1 : -2147483648 ≤ n ∧ n < 2147483648) (h_2 : 0 ≤ a ∧ a < 6) (h_3 : ¬ (-240000 ≤ n ∧ n ≤ 240000)) : CT l yX3_isKept cX3_isKept 3 (some .boolean) 3 64 0 0 [.ref (w 0), .int (iI a), .int (iI n)] S0 H (fun v9 H1 => v9 = some (.int (iI 0)) ∧ ∃ r1 q1 : Nat → Nat, MWR θ S0 w H1 r1 q1 dt sv 2 dn rf kn ∧ NW 6 H.size r r1 ∧ NW 3 H.size q q1) (fun _ _ => False) (WA w H.size) := by
  refine ct_of (by decide +kernel) (Nat.le_of_ble_eq_true rfl) ?_
  intro pg en s mi args below meth co ls fx hs hr hlk hxt hin hl
  subst hs
  obtain ⟨hx, hb, hml, hown, hts⟩ := id fx.1
  have hS : va_S (WA w s.heap.size) s.heap s.heap [] := va_S.rf
  obtain ⟨hz, hu, hm, hd, hsv⟩ := id hw
  have hAB : ∀ x : Nat, (WA w s.heap.size) x → θ.2.2.2 ≤ x := wa_b hu hz.2.1
  have hz0 := hz
  have hK := sz_K fx.2 hz
  have hlt0 := hm.lt
  have hu1 := hu.1
  have hAn : ∀ x : Nat, s.heap.size ≤ x → (WA w s.heap.size) x := fun _ h => Or.inr h
  refine lv_aload_n hx hb dX3_isKept_0 rfl (lv_at hl 0 rfl) ?_
  refine lv_iload_n hx hb dX3_isKept_1 rfl (lv_at hl 1 rfl) ?_
  refine lv_iload_n hx hb dX3_isKept_2 rfl (lv_at hl 2 rfl) ?_
  obtain ⟨t1, f2, hq1t1, hq2t1⟩ := fw_ex (0 ≤ a ∧ a < 6) (-240000 ≤ n ∧ n ≤ 240000)
  have hmw : MWR θ S0 w s.heap r q dt sv th dn rf kn := ⟨hz, hu, hm, hd, hsv⟩
  refine c_M (w := w) (As := [.int (iI a), .int (iI n)]) (rest := []) (b := w 0) (C := RX3) fx hl (mw_failsShift θ l S0 _ w _ _ _ _ _ _ _ _ hmw a n t1 f2 (by omega) (by omega) hq1t1 hq2t1) (ob_recv hK hm.1 rfl) dX3_isKept_3 k1262 k1264 ks17 k6 k1265 hd_X3_failsShift rfl ⟨by decide, by decide⟩ (Nat.le_of_ble_eq_true rfl) ⟨by dsimp only; omega, by dsimp only; omega⟩ hS (fun x hx => hx ▸ Or.inl (Or.inl rfl)) (fun H3 locs hmH3 hszH3 hk0H3 hS => ?_)
  have hkH3 : ∀ x : Nat, x < (s.heap).size → ¬ x = w 0 → H3[x]? = (s.heap)[x]? := hk0H3
  have hzH3 := hz0.at hAB hS
  have hltH3 := hmH3.lt
  refine q_ine (tgt := 22) hx hb dX3_isKept_6 (by decide) (by omega) (fun c4 => ?_) (fun c4 => ?_)
  · refine q_con hx hb dX3_isKept_22 ?_
    obtain rfl : t1 = 2 := by omega
    have hmw : MWR θ S0 w H3 r q dt sv 2 dn rf kn := ⟨hzH3, hu, hmH3, hd, hsv⟩
    exact e_z hx hb hr hlk (by decide) hS dX3_isKept_23 (Nat.le_of_ble_eq_true rfl) (Nat.le_of_ble_eq_true rfl) ⟨ex_i (by omega), r, q, by first | exact hmw | (subst_vars; exact hmw) | (simp only [inI_self, inI_1, inI_31] at hmw; subst_vars; exact hmw), by first | exact nw_rf | exact nw_up (by omega) | exact nw_up2 (by omega), by first | exact nw_rf | exact nw_up (by omega) | exact nw_up2 (by omega)⟩
  · exact (show False by omega).elim

set_option maxHeartbeats 4000000 in
set_option maxRecDepth 100000 in
theorem mok_loss (θ : TH) (l : Launch) (S0 : State) (H : Heap) (w : Nat → Nat) (r q : Nat → Nat) (dt : Nat → Int) (sv : Nat → Nat → Int) (th dn rf kn : Int) (hw : MWR θ S0 w H r q dt sv th dn rf kn) (a n : Int) (h_0 : -2147483648 ≤ a ∧ a < 2147483648) (h_1 : -2147483648 ≤ n ∧ n < 2147483648) (h_2 : 0 ≤ a ∧ a < 6) (h_3 : -240000 ≤ n ∧ n ≤ 240000) : CT l yX3_loss cX3_loss 3 (some .int) 7 147 1 2 [.ref (w 0), .int (iI a), .int (iI n)] S0 H (fun v9 H1 => v9 = some (.int (iI (dI (dt a.toNat) - dI (shI (dt a.toNat) n)))) ∧ ∃ r1 q1 : Nat → Nat, MWR θ S0 w H1 r1 q1 dt sv 0 dn rf kn ∧ NW 6 H.size r r1 ∧ NW 3 H.size q q1) (fun _ _ => False) (WA w H.size) := by
  refine ct_of (by decide +kernel) (Nat.le_of_ble_eq_true rfl) ?_
  intro pg en s mi args below meth co ls fx hs hr hlk hxt hin hl
  subst hs
  obtain ⟨hx, hb, hml, hown, hts⟩ := id fx.1
  have hS : va_S (WA w s.heap.size) s.heap s.heap [] := va_S.rf
  obtain ⟨hz, hu, hm, hd, hsv⟩ := id hw
  have hAB : ∀ x : Nat, (WA w s.heap.size) x → θ.2.2.2 ≤ x := wa_b hu hz.2.1
  have hz0 := hz
  have hK := sz_K fx.2 hz
  have hlt0 := hm.lt
  have hu1 := hu.1
  have hAn : ∀ x : Nat, s.heap.size ≤ x → (WA w s.heap.size) x := fun _ h => Or.inr h
  refine lv_aload_n hx hb dX3_loss_0 rfl (lv_at hl 0 rfl) ?_
  refine lv_iload_n hx hb dX3_loss_1 rfl (lv_at hl 1 rfl) ?_
  refine lv_iload_n hx hb dX3_loss_2 rfl (lv_at hl 2 rfl) ?_
  obtain ⟨t1, f2, hq1t1, hq2t1⟩ := fw_ex (0 ≤ a ∧ a < 6) (-240000 ≤ n ∧ n ≤ 240000)
  have hmw : MWR θ S0 w s.heap r q dt sv th dn rf kn := ⟨hz, hu, hm, hd, hsv⟩
  refine c_M (w := w) (As := [.int (iI a), .int (iI n)]) (rest := []) (b := w 0) (C := RX3) fx hl (mw_failsShift θ l S0 _ w _ _ _ _ _ _ _ _ hmw a n t1 f2 (by omega) (by omega) hq1t1 hq2t1) (ob_recv hK hm.1 rfl) dX3_loss_3 k1262 k1264 ks17 k6 k1265 hd_X3_failsShift rfl ⟨by decide, by decide⟩ (Nat.le_of_ble_eq_true rfl) ⟨by dsimp only; omega, by dsimp only; omega⟩ hS (fun x hx => hx ▸ Or.inl (Or.inl rfl)) (fun H3 locs hmH3 hszH3 hk0H3 hS => ?_)
  have hkH3 : ∀ x : Nat, x < (s.heap).size → ¬ x = w 0 → H3[x]? = (s.heap)[x]? := hk0H3
  have hzH3 := hz0.at hAB hS
  have hltH3 := hmH3.lt
  refine q_ieq (tgt := 13) hx hb dX3_loss_6 (by decide) (by omega) (fun c4 => ?_) (fun c4 => ?_)
  · refine lv_aload_n hx hb dX3_loss_13 rfl (lv_at hl 0 rfl) ?_
    refine lv_iload_n hx hb dX3_loss_14 rfl (lv_at hl 1 rfl) ?_
    refine lv_iload_n hx hb dX3_loss_15 rfl (lv_at hl 2 rfl) ?_
    have hmw : MWR θ S0 w H3 r q dt sv t1 dn rf kn := ⟨hzH3, hu, hmH3, hd, hsv⟩
    refine c_M (w := w) (As := [.int (iI a), .int (iI n)]) (rest := []) (b := w 0) (C := RX3) fx hl (ma_lossNow θ l S0 _ w _ _ _ _ _ _ _ _ hmw a n (by omega) (by omega)) (ob_recv hK hmH3.1 rfl) dX3_loss_16 k1266 k1268 ks18 k6 k1269 hd_X3_lossNow rfl ⟨by decide, by decide⟩ (Nat.le_of_ble_eq_true rfl) ⟨by dsimp only; omega, by dsimp only; omega⟩ hS (fun x hx => hAn x (Nat.le_trans hS.1 hx)) (fun H5 locs _ hszH5 hk0H5 hS => ?_)
    have hkH5 : ∀ x : Nat, x < (H3).size → H5[x]? = (H3)[x]? := fun x hx => hk0H5 x hx (Nat.not_le.mpr hx)
    have hzH5 := hz0.at hAB hS
    have hmH5 := hmH3.kept hkH5
    have hltH5 := hmH5.lt
    refine q_nm (fun z6 ez6 => ?_)
    have t0z6 := dI_b (dt a.toNat)
    have t1z6 := dI_b (shI (dt a.toNat) n)
    obtain rfl : t1 = 0 := by omega
    have hmw : MWR θ S0 w H5 r q dt sv 0 dn rf kn := ⟨hzH5, hu, hmH5, hd, hsv⟩
    exact e_i hx hb hr hlk hS dX3_loss_19 (Nat.le_of_ble_eq_true rfl) (Nat.le_of_ble_eq_true rfl) ⟨ex_i (by subst_vars; first | omega | (simp only [up_s, tri_0, tri_1, tri_2, inI_self, inI_1, inI_31]; done) | (simp only [up_s, tri_0, tri_1, tri_2, inI_self, inI_1, inI_31]; omega) | (simp only [up_s, tri_0, tri_1, tri_2]; subst_vars; first | rfl | omega)), r, q, by first | exact hmw | (subst_vars; exact hmw) | (simp only [inI_self, inI_1, inI_31] at hmw; subst_vars; exact hmw), by first | exact nw_rf | exact nw_up (by omega) | exact nw_up2 (by omega), by first | exact nw_rf | exact nw_up (by omega) | exact nw_up2 (by omega)⟩
  · exact (show False by omega).elim

set_option maxHeartbeats 4000000 in
set_option maxRecDepth 100000 in
theorem mno1_loss (θ : TH) (l : Launch) (S0 : State) (H : Heap) (w : Nat → Nat) (r q : Nat → Nat) (dt : Nat → Int) (sv : Nat → Nat → Int) (th dn rf kn : Int) (hw : MWR θ S0 w H r q dt sv th dn rf kn) (a n : Int) (h_0 : -2147483648 ≤ a ∧ a < 2147483648) (h_1 : -2147483648 ≤ n ∧ n < 2147483648) (h_2 : ¬ (0 ≤ a ∧ a < 6)) : CT l yX3_loss cX3_loss 3 (some .int) 3 64 0 0 [.ref (w 0), .int (iI a), .int (iI n)] S0 H (fun v9 H1 => v9 = some (.int (iI 0)) ∧ ∃ r1 q1 : Nat → Nat, MWR θ S0 w H1 r1 q1 dt sv 1 dn rf kn ∧ NW 6 H.size r r1 ∧ NW 3 H.size q q1) (fun _ _ => False) (WA w H.size) := by
  refine ct_of (by decide +kernel) (Nat.le_of_ble_eq_true rfl) ?_
  intro pg en s mi args below meth co ls fx hs hr hlk hxt hin hl
  subst hs
  obtain ⟨hx, hb, hml, hown, hts⟩ := id fx.1
  have hS : va_S (WA w s.heap.size) s.heap s.heap [] := va_S.rf
  obtain ⟨hz, hu, hm, hd, hsv⟩ := id hw
  have hAB : ∀ x : Nat, (WA w s.heap.size) x → θ.2.2.2 ≤ x := wa_b hu hz.2.1
  have hz0 := hz
  have hK := sz_K fx.2 hz
  have hlt0 := hm.lt
  have hu1 := hu.1
  have hAn : ∀ x : Nat, s.heap.size ≤ x → (WA w s.heap.size) x := fun _ h => Or.inr h
  refine lv_aload_n hx hb dX3_loss_0 rfl (lv_at hl 0 rfl) ?_
  refine lv_iload_n hx hb dX3_loss_1 rfl (lv_at hl 1 rfl) ?_
  refine lv_iload_n hx hb dX3_loss_2 rfl (lv_at hl 2 rfl) ?_
  obtain ⟨t1, f2, hq1t1, hq2t1⟩ := fw_ex (0 ≤ a ∧ a < 6) (-240000 ≤ n ∧ n ≤ 240000)
  have hmw : MWR θ S0 w s.heap r q dt sv th dn rf kn := ⟨hz, hu, hm, hd, hsv⟩
  refine c_M (w := w) (As := [.int (iI a), .int (iI n)]) (rest := []) (b := w 0) (C := RX3) fx hl (mw_failsShift θ l S0 _ w _ _ _ _ _ _ _ _ hmw a n t1 f2 (by omega) (by omega) hq1t1 hq2t1) (ob_recv hK hm.1 rfl) dX3_loss_3 k1262 k1264 ks17 k6 k1265 hd_X3_failsShift rfl ⟨by decide, by decide⟩ (Nat.le_of_ble_eq_true rfl) ⟨by dsimp only; omega, by dsimp only; omega⟩ hS (fun x hx => hx ▸ Or.inl (Or.inl rfl)) (fun H3 locs hmH3 hszH3 hk0H3 hS => ?_)
  have hkH3 : ∀ x : Nat, x < (s.heap).size → ¬ x = w 0 → H3[x]? = (s.heap)[x]? := hk0H3
  have hzH3 := hz0.at hAB hS
  have hltH3 := hmH3.lt
  refine q_ieq (tgt := 13) hx hb dX3_loss_6 (by decide) (by omega) (fun c4 => ?_) (fun c4 => ?_)
  · exact (show False by omega).elim
  · refine q_con hx hb dX3_loss_9 ?_
    refine lv_goto (tgt := 19) hx hb dX3_loss_10 (by decide) ?_
    obtain rfl : t1 = 1 := by omega
    have hmw : MWR θ S0 w H3 r q dt sv 1 dn rf kn := ⟨hzH3, hu, hmH3, hd, hsv⟩
    exact e_i hx hb hr hlk hS dX3_loss_19 (Nat.le_of_ble_eq_true rfl) (Nat.le_of_ble_eq_true rfl) ⟨ex_i (by omega), r, q, by first | exact hmw | (subst_vars; exact hmw) | (simp only [inI_self, inI_1, inI_31] at hmw; subst_vars; exact hmw), by first | exact nw_rf | exact nw_up (by omega) | exact nw_up2 (by omega), by first | exact nw_rf | exact nw_up (by omega) | exact nw_up2 (by omega)⟩

set_option maxHeartbeats 4000000 in
set_option maxRecDepth 100000 in
theorem mno2_loss (θ : TH) (l : Launch) (S0 : State) (H : Heap) (w : Nat → Nat) (r q : Nat → Nat) (dt : Nat → Int) (sv : Nat → Nat → Int) (th dn rf kn : Int) (hw : MWR θ S0 w H r q dt sv th dn rf kn) (a n : Int) (h_0 : -2147483648 ≤ a ∧ a < 2147483648) (h_1 : -2147483648 ≤ n ∧ n < 2147483648) (h_2 : 0 ≤ a ∧ a < 6) (h_3 : ¬ (-240000 ≤ n ∧ n ≤ 240000)) : CT l yX3_loss cX3_loss 3 (some .int) 3 64 0 0 [.ref (w 0), .int (iI a), .int (iI n)] S0 H (fun v9 H1 => v9 = some (.int (iI 0)) ∧ ∃ r1 q1 : Nat → Nat, MWR θ S0 w H1 r1 q1 dt sv 2 dn rf kn ∧ NW 6 H.size r r1 ∧ NW 3 H.size q q1) (fun _ _ => False) (WA w H.size) := by
  refine ct_of (by decide +kernel) (Nat.le_of_ble_eq_true rfl) ?_
  intro pg en s mi args below meth co ls fx hs hr hlk hxt hin hl
  subst hs
  obtain ⟨hx, hb, hml, hown, hts⟩ := id fx.1
  have hS : va_S (WA w s.heap.size) s.heap s.heap [] := va_S.rf
  obtain ⟨hz, hu, hm, hd, hsv⟩ := id hw
  have hAB : ∀ x : Nat, (WA w s.heap.size) x → θ.2.2.2 ≤ x := wa_b hu hz.2.1
  have hz0 := hz
  have hK := sz_K fx.2 hz
  have hlt0 := hm.lt
  have hu1 := hu.1
  have hAn : ∀ x : Nat, s.heap.size ≤ x → (WA w s.heap.size) x := fun _ h => Or.inr h
  refine lv_aload_n hx hb dX3_loss_0 rfl (lv_at hl 0 rfl) ?_
  refine lv_iload_n hx hb dX3_loss_1 rfl (lv_at hl 1 rfl) ?_
  refine lv_iload_n hx hb dX3_loss_2 rfl (lv_at hl 2 rfl) ?_
  obtain ⟨t1, f2, hq1t1, hq2t1⟩ := fw_ex (0 ≤ a ∧ a < 6) (-240000 ≤ n ∧ n ≤ 240000)
  have hmw : MWR θ S0 w s.heap r q dt sv th dn rf kn := ⟨hz, hu, hm, hd, hsv⟩
  refine c_M (w := w) (As := [.int (iI a), .int (iI n)]) (rest := []) (b := w 0) (C := RX3) fx hl (mw_failsShift θ l S0 _ w _ _ _ _ _ _ _ _ hmw a n t1 f2 (by omega) (by omega) hq1t1 hq2t1) (ob_recv hK hm.1 rfl) dX3_loss_3 k1262 k1264 ks17 k6 k1265 hd_X3_failsShift rfl ⟨by decide, by decide⟩ (Nat.le_of_ble_eq_true rfl) ⟨by dsimp only; omega, by dsimp only; omega⟩ hS (fun x hx => hx ▸ Or.inl (Or.inl rfl)) (fun H3 locs hmH3 hszH3 hk0H3 hS => ?_)
  have hkH3 : ∀ x : Nat, x < (s.heap).size → ¬ x = w 0 → H3[x]? = (s.heap)[x]? := hk0H3
  have hzH3 := hz0.at hAB hS
  have hltH3 := hmH3.lt
  refine q_ieq (tgt := 13) hx hb dX3_loss_6 (by decide) (by omega) (fun c4 => ?_) (fun c4 => ?_)
  · exact (show False by omega).elim
  · refine q_con hx hb dX3_loss_9 ?_
    refine lv_goto (tgt := 19) hx hb dX3_loss_10 (by decide) ?_
    obtain rfl : t1 = 2 := by omega
    have hmw : MWR θ S0 w H3 r q dt sv 2 dn rf kn := ⟨hzH3, hu, hmH3, hd, hsv⟩
    exact e_i hx hb hr hlk hS dX3_loss_19 (Nat.le_of_ble_eq_true rfl) (Nat.le_of_ble_eq_true rfl) ⟨ex_i (by omega), r, q, by first | exact hmw | (subst_vars; exact hmw) | (simp only [inI_self, inI_1, inI_31] at hmw; subst_vars; exact hmw), by first | exact nw_rf | exact nw_up (by omega) | exact nw_up2 (by omega), by first | exact nw_rf | exact nw_up (by omega) | exact nw_up2 (by omega)⟩

set_option maxHeartbeats 4000000 in
set_option maxRecDepth 100000 in
theorem mok_leadsBack (θ : TH) (l : Launch) (S0 : State) (H : Heap) (w : Nat → Nat) (r q : Nat → Nat) (dt : Nat → Int) (sv : Nat → Nat → Int) (th dn rf kn : Int) (hw : MWR θ S0 w H r q dt sv th dn rf kn) (a n : Int) (r9 : Int) (hr0 : (r9 = 1 ∧ (shI (shI (dt a.toNat) n) (-n) = dt a.toNat)) ∨ (r9 = 0 ∧ ¬ (shI (shI (dt a.toNat) n) (-n) = dt a.toNat))) (h_0 : -2147483648 ≤ a ∧ a < 2147483648) (h_1 : -2147483648 ≤ n ∧ n < 2147483648) (h_2 : 0 ≤ a ∧ a < 6) (h_3 : -240000 ≤ n ∧ n ≤ 240000) : CT l yX3_leadsBack cX3_leadsBack 3 (some .boolean) 7 148 2 4 [.ref (w 0), .int (iI a), .int (iI n)] S0 H (fun v9 H1 => v9 = some (.int (iI r9)) ∧ ∃ r1 q1 : Nat → Nat, MWR θ S0 w H1 r1 q1 dt sv 0 dn rf kn ∧ NW 6 H.size r r1 ∧ NW 3 H.size q q1) (fun _ _ => False) (WA w H.size) := by
  refine ct_of (by decide +kernel) (Nat.le_of_ble_eq_true rfl) ?_
  intro pg en s mi args below meth co ls fx hs hr hlk hxt hin hl
  subst hs
  obtain ⟨hx, hb, hml, hown, hts⟩ := id fx.1
  have hS : va_S (WA w s.heap.size) s.heap s.heap [] := va_S.rf
  obtain ⟨hz, hu, hm, hd, hsv⟩ := id hw
  have hAB : ∀ x : Nat, (WA w s.heap.size) x → θ.2.2.2 ≤ x := wa_b hu hz.2.1
  have hz0 := hz
  have hK := sz_K fx.2 hz
  have hlt0 := hm.lt
  have hu1 := hu.1
  have hAn : ∀ x : Nat, s.heap.size ≤ x → (WA w s.heap.size) x := fun _ h => Or.inr h
  refine lv_aload_n hx hb dX3_leadsBack_0 rfl (lv_at hl 0 rfl) ?_
  refine lv_iload_n hx hb dX3_leadsBack_1 rfl (lv_at hl 1 rfl) ?_
  refine lv_iload_n hx hb dX3_leadsBack_2 rfl (lv_at hl 2 rfl) ?_
  obtain ⟨t1, f2, hq1t1, hq2t1⟩ := fw_ex (0 ≤ a ∧ a < 6) (-240000 ≤ n ∧ n ≤ 240000)
  have hmw : MWR θ S0 w s.heap r q dt sv th dn rf kn := ⟨hz, hu, hm, hd, hsv⟩
  refine c_M (w := w) (As := [.int (iI a), .int (iI n)]) (rest := []) (b := w 0) (C := RX3) fx hl (mw_failsShift θ l S0 _ w _ _ _ _ _ _ _ _ hmw a n t1 f2 (by omega) (by omega) hq1t1 hq2t1) (ob_recv hK hm.1 rfl) dX3_leadsBack_3 k1262 k1264 ks17 k6 k1265 hd_X3_failsShift rfl ⟨by decide, by decide⟩ (Nat.le_of_ble_eq_true rfl) ⟨by dsimp only; omega, by dsimp only; omega⟩ hS (fun x hx => hx ▸ Or.inl (Or.inl rfl)) (fun H3 locs hmH3 hszH3 hk0H3 hS => ?_)
  have hkH3 : ∀ x : Nat, x < (s.heap).size → ¬ x = w 0 → H3[x]? = (s.heap)[x]? := hk0H3
  have hzH3 := hz0.at hAB hS
  have hltH3 := hmH3.lt
  refine q_ine (tgt := 39) hx hb dX3_leadsBack_6 (by decide) (by omega) (fun c4 => ?_) (fun c4 => ?_)
  · exact (show False by omega).elim
  · refine lv_aload_n hx hb dX3_leadsBack_9 rfl (lv_at hl 0 rfl) ?_
    refine r_get (θ := θ) (C := RX3) (T := TX3) (N := 6) (ci := 9) hx hb hts gwX3 hown hK hmH3.1 rfl 4 (by decide) k1094 (fun _ h => h) (v := .ref (w 1)) rfl dX3_leadsBack_10 ?_
    refine lv_iload_n hx hb dX3_leadsBack_13 rfl (lv_at hl 1 rfl) ?_
    refine r_aald (θ := θ) hx hb hK hmH3.2.1 (i := a) (by omega) (by decide) dX3_leadsBack_14 ?_
    have rw5 := (hmH3.2.2.2.1 (a.toNat) (by omega)).1
    have rw5n := (hmH3.2.2.2.1 (a.toNat) (by omega)).2
    have rw5t := hd (a.toNat) (by omega)
    have rw5l := rw5.lt
    have rw5i := inR rw5t
    have rw5m := inM rw5i
    have rw5d := dI_b (dt a.toNat)
    refine lv_iload_n hx hb dX3_leadsBack_15 rfl (lv_at hl 2 rfl) ?_
    refine c_NR (θ := θ) (As := [.ref (r a.toNat), .int (iI n)]) (rest := []) fx hl (pm_X3_shifted θ l S0 _ hzH3 (r a.toNat) n (dt a.toNat) rw5 (by omega) (by omega)) dX3_leadsBack_16 k1183 k1184 k6 k1185 hd_X3_shifted rfl ⟨by decide, by decide⟩ (Nat.le_of_ble_eq_true rfl) ⟨by dsimp only; omega, by dsimp only; omega⟩ hS (fun x hx => hAn x (Nat.le_trans hS.1 hx)) (fun q7 H6 locs hqH6 haH6 hszH6 hkH6 hS => ?_)
    have rw5_H6 := rw5.kept (hkH6 _ rw5.lt)
    have hzH6 := hz0.at hAB hS
    have hmH6 := hmH3.kept hkH6
    have hltH6 := haH6.lt
    have t0q7 := shI_s (dt a.toNat) n
    have t1q7 := shI_bd (dt a.toNat) n
    refine lv_iload_n hx hb dX3_leadsBack_19 rfl (lv_at hl 2 rfl) ?_
    refine q_neg hx hb dX3_leadsBack_20 ?_
    refine c_NR (θ := θ) (As := [.ref q7, .int (iI (-n))]) (rest := []) fx hl (pm_X3_shifted θ l S0 _ hzH6 q7 (-n) (shI (dt a.toNat) n) haH6 (by omega) (by omega)) dX3_leadsBack_21 k1183 k1184 k6 k1185 hd_X3_shifted rfl ⟨by decide, by decide⟩ (Nat.le_of_ble_eq_true rfl) ⟨by dsimp only; omega, by dsimp only; omega⟩ hS (fun x hx => hAn x (Nat.le_trans hS.1 hx)) (fun q9 H8 locs hqH8 haH8 hszH8 hkH8 hS => ?_)
    have rw5_H8 := rw5_H6.kept (hkH8 _ rw5_H6.lt)
    have haH6_H8 := haH6.kept (hkH8 _ haH6.lt)
    have hzH8 := hz0.at hAB hS
    have hmH8 := hmH6.kept hkH8
    have hltH8 := haH8.lt
    have t0q9 := shI_s (shI (dt a.toNat) n) (-n)
    have t1q9 := shI_bd (shI (dt a.toNat) n) (-n)
    refine c_H (As := [.ref q9]) (rest := []) fx hl (pm_X3_numberOf θ l S0 _ hzH8 q9 (shI (shI (dt a.toNat) n) (-n)) haH8 (by omega)) dX3_leadsBack_24 k1133 k1134 k6 k1135 hd_X3_numberOf rfl ⟨by decide, by decide⟩ (Nat.le_of_ble_eq_true rfl) ⟨by dsimp only; omega, by dsimp only; omega⟩ ?_
    refine lv_aload_n hx hb dX3_leadsBack_27 rfl (lv_at hl 0 rfl) ?_
    refine lv_iload_n hx hb dX3_leadsBack_28 rfl (lv_at hl 1 rfl) ?_
    have hmw : MWR θ S0 w H8 r q dt sv t1 dn rf kn := ⟨hzH8, hu, hmH8, hd, hsv⟩
    refine c_HV (As := [.int (iI a)]) (rest := [.int (iI (shI (shI (dt a.toNat) n) (-n)))]) (b := w 0) (C := RX3) fx hl (mr_became θ l S0 _ w _ _ _ _ _ _ _ _ hmw a (by omega)) (ob_recv hK hmH8.1 rfl) dX3_leadsBack_29 k1141 k1143 ks12 k6 k1144 hd_X3_became rfl ⟨by decide, by decide⟩ (Nat.le_of_ble_eq_true rfl) ⟨by dsimp only; omega, by dsimp only; omega⟩ ?_
    have t0z11 := hd a.toNat (by omega)
    refine q_cne (tgt := 39) hx hb dX3_leadsBack_32 (by decide) (by omega) (by omega) (fun c12 => ?_) (fun c12 => ?_)
    · refine q_con hx hb dX3_leadsBack_39 ?_
      obtain rfl : t1 = 0 := by omega
      have hmw : MWR θ S0 w H8 r q dt sv 0 dn rf kn := ⟨hzH8, hu, hmH8, hd, hsv⟩
      exact e_z hx hb hr hlk (by decide) hS dX3_leadsBack_40 (Nat.le_of_ble_eq_true rfl) (Nat.le_of_ble_eq_true rfl) ⟨ex_i (by omega), r, q, by first | exact hmw | (subst_vars; exact hmw) | (simp only [inI_self, inI_1, inI_31] at hmw; subst_vars; exact hmw), by first | exact nw_rf | exact nw_up (by omega) | exact nw_up2 (by omega), by first | exact nw_rf | exact nw_up (by omega) | exact nw_up2 (by omega)⟩
    · refine q_con hx hb dX3_leadsBack_35 ?_
      refine lv_goto (tgt := 40) hx hb dX3_leadsBack_36 (by decide) ?_
      obtain rfl : t1 = 0 := by omega
      have hmw : MWR θ S0 w H8 r q dt sv 0 dn rf kn := ⟨hzH8, hu, hmH8, hd, hsv⟩
      exact e_z hx hb hr hlk (by decide) hS dX3_leadsBack_40 (Nat.le_of_ble_eq_true rfl) (Nat.le_of_ble_eq_true rfl) ⟨ex_i (by omega), r, q, by first | exact hmw | (subst_vars; exact hmw) | (simp only [inI_self, inI_1, inI_31] at hmw; subst_vars; exact hmw), by first | exact nw_rf | exact nw_up (by omega) | exact nw_up2 (by omega), by first | exact nw_rf | exact nw_up (by omega) | exact nw_up2 (by omega)⟩

set_option maxHeartbeats 4000000 in
set_option maxRecDepth 100000 in
theorem mno1_leadsBack (θ : TH) (l : Launch) (S0 : State) (H : Heap) (w : Nat → Nat) (r q : Nat → Nat) (dt : Nat → Int) (sv : Nat → Nat → Int) (th dn rf kn : Int) (hw : MWR θ S0 w H r q dt sv th dn rf kn) (a n : Int) (h_0 : -2147483648 ≤ a ∧ a < 2147483648) (h_1 : -2147483648 ≤ n ∧ n < 2147483648) (h_2 : ¬ (0 ≤ a ∧ a < 6)) : CT l yX3_leadsBack cX3_leadsBack 3 (some .boolean) 3 64 0 0 [.ref (w 0), .int (iI a), .int (iI n)] S0 H (fun v9 H1 => v9 = some (.int (iI 0)) ∧ ∃ r1 q1 : Nat → Nat, MWR θ S0 w H1 r1 q1 dt sv 1 dn rf kn ∧ NW 6 H.size r r1 ∧ NW 3 H.size q q1) (fun _ _ => False) (WA w H.size) := by
  refine ct_of (by decide +kernel) (Nat.le_of_ble_eq_true rfl) ?_
  intro pg en s mi args below meth co ls fx hs hr hlk hxt hin hl
  subst hs
  obtain ⟨hx, hb, hml, hown, hts⟩ := id fx.1
  have hS : va_S (WA w s.heap.size) s.heap s.heap [] := va_S.rf
  obtain ⟨hz, hu, hm, hd, hsv⟩ := id hw
  have hAB : ∀ x : Nat, (WA w s.heap.size) x → θ.2.2.2 ≤ x := wa_b hu hz.2.1
  have hz0 := hz
  have hK := sz_K fx.2 hz
  have hlt0 := hm.lt
  have hu1 := hu.1
  have hAn : ∀ x : Nat, s.heap.size ≤ x → (WA w s.heap.size) x := fun _ h => Or.inr h
  refine lv_aload_n hx hb dX3_leadsBack_0 rfl (lv_at hl 0 rfl) ?_
  refine lv_iload_n hx hb dX3_leadsBack_1 rfl (lv_at hl 1 rfl) ?_
  refine lv_iload_n hx hb dX3_leadsBack_2 rfl (lv_at hl 2 rfl) ?_
  obtain ⟨t1, f2, hq1t1, hq2t1⟩ := fw_ex (0 ≤ a ∧ a < 6) (-240000 ≤ n ∧ n ≤ 240000)
  have hmw : MWR θ S0 w s.heap r q dt sv th dn rf kn := ⟨hz, hu, hm, hd, hsv⟩
  refine c_M (w := w) (As := [.int (iI a), .int (iI n)]) (rest := []) (b := w 0) (C := RX3) fx hl (mw_failsShift θ l S0 _ w _ _ _ _ _ _ _ _ hmw a n t1 f2 (by omega) (by omega) hq1t1 hq2t1) (ob_recv hK hm.1 rfl) dX3_leadsBack_3 k1262 k1264 ks17 k6 k1265 hd_X3_failsShift rfl ⟨by decide, by decide⟩ (Nat.le_of_ble_eq_true rfl) ⟨by dsimp only; omega, by dsimp only; omega⟩ hS (fun x hx => hx ▸ Or.inl (Or.inl rfl)) (fun H3 locs hmH3 hszH3 hk0H3 hS => ?_)
  have hkH3 : ∀ x : Nat, x < (s.heap).size → ¬ x = w 0 → H3[x]? = (s.heap)[x]? := hk0H3
  have hzH3 := hz0.at hAB hS
  have hltH3 := hmH3.lt
  refine q_ine (tgt := 39) hx hb dX3_leadsBack_6 (by decide) (by omega) (fun c4 => ?_) (fun c4 => ?_)
  · refine q_con hx hb dX3_leadsBack_39 ?_
    obtain rfl : t1 = 1 := by omega
    have hmw : MWR θ S0 w H3 r q dt sv 1 dn rf kn := ⟨hzH3, hu, hmH3, hd, hsv⟩
    exact e_z hx hb hr hlk (by decide) hS dX3_leadsBack_40 (Nat.le_of_ble_eq_true rfl) (Nat.le_of_ble_eq_true rfl) ⟨ex_i (by omega), r, q, by first | exact hmw | (subst_vars; exact hmw) | (simp only [inI_self, inI_1, inI_31] at hmw; subst_vars; exact hmw), by first | exact nw_rf | exact nw_up (by omega) | exact nw_up2 (by omega), by first | exact nw_rf | exact nw_up (by omega) | exact nw_up2 (by omega)⟩
  · exact (show False by omega).elim

set_option maxHeartbeats 4000000 in
set_option maxRecDepth 100000 in
theorem mno2_leadsBack (θ : TH) (l : Launch) (S0 : State) (H : Heap) (w : Nat → Nat) (r q : Nat → Nat) (dt : Nat → Int) (sv : Nat → Nat → Int) (th dn rf kn : Int) (hw : MWR θ S0 w H r q dt sv th dn rf kn) (a n : Int) (h_0 : -2147483648 ≤ a ∧ a < 2147483648) (h_1 : -2147483648 ≤ n ∧ n < 2147483648) (h_2 : 0 ≤ a ∧ a < 6) (h_3 : ¬ (-240000 ≤ n ∧ n ≤ 240000)) : CT l yX3_leadsBack cX3_leadsBack 3 (some .boolean) 3 64 0 0 [.ref (w 0), .int (iI a), .int (iI n)] S0 H (fun v9 H1 => v9 = some (.int (iI 0)) ∧ ∃ r1 q1 : Nat → Nat, MWR θ S0 w H1 r1 q1 dt sv 2 dn rf kn ∧ NW 6 H.size r r1 ∧ NW 3 H.size q q1) (fun _ _ => False) (WA w H.size) := by
  refine ct_of (by decide +kernel) (Nat.le_of_ble_eq_true rfl) ?_
  intro pg en s mi args below meth co ls fx hs hr hlk hxt hin hl
  subst hs
  obtain ⟨hx, hb, hml, hown, hts⟩ := id fx.1
  have hS : va_S (WA w s.heap.size) s.heap s.heap [] := va_S.rf
  obtain ⟨hz, hu, hm, hd, hsv⟩ := id hw
  have hAB : ∀ x : Nat, (WA w s.heap.size) x → θ.2.2.2 ≤ x := wa_b hu hz.2.1
  have hz0 := hz
  have hK := sz_K fx.2 hz
  have hlt0 := hm.lt
  have hu1 := hu.1
  have hAn : ∀ x : Nat, s.heap.size ≤ x → (WA w s.heap.size) x := fun _ h => Or.inr h
  refine lv_aload_n hx hb dX3_leadsBack_0 rfl (lv_at hl 0 rfl) ?_
  refine lv_iload_n hx hb dX3_leadsBack_1 rfl (lv_at hl 1 rfl) ?_
  refine lv_iload_n hx hb dX3_leadsBack_2 rfl (lv_at hl 2 rfl) ?_
  obtain ⟨t1, f2, hq1t1, hq2t1⟩ := fw_ex (0 ≤ a ∧ a < 6) (-240000 ≤ n ∧ n ≤ 240000)
  have hmw : MWR θ S0 w s.heap r q dt sv th dn rf kn := ⟨hz, hu, hm, hd, hsv⟩
  refine c_M (w := w) (As := [.int (iI a), .int (iI n)]) (rest := []) (b := w 0) (C := RX3) fx hl (mw_failsShift θ l S0 _ w _ _ _ _ _ _ _ _ hmw a n t1 f2 (by omega) (by omega) hq1t1 hq2t1) (ob_recv hK hm.1 rfl) dX3_leadsBack_3 k1262 k1264 ks17 k6 k1265 hd_X3_failsShift rfl ⟨by decide, by decide⟩ (Nat.le_of_ble_eq_true rfl) ⟨by dsimp only; omega, by dsimp only; omega⟩ hS (fun x hx => hx ▸ Or.inl (Or.inl rfl)) (fun H3 locs hmH3 hszH3 hk0H3 hS => ?_)
  have hkH3 : ∀ x : Nat, x < (s.heap).size → ¬ x = w 0 → H3[x]? = (s.heap)[x]? := hk0H3
  have hzH3 := hz0.at hAB hS
  have hltH3 := hmH3.lt
  refine q_ine (tgt := 39) hx hb dX3_leadsBack_6 (by decide) (by omega) (fun c4 => ?_) (fun c4 => ?_)
  · refine q_con hx hb dX3_leadsBack_39 ?_
    obtain rfl : t1 = 2 := by omega
    have hmw : MWR θ S0 w H3 r q dt sv 2 dn rf kn := ⟨hzH3, hu, hmH3, hd, hsv⟩
    exact e_z hx hb hr hlk (by decide) hS dX3_leadsBack_40 (Nat.le_of_ble_eq_true rfl) (Nat.le_of_ble_eq_true rfl) ⟨ex_i (by omega), r, q, by first | exact hmw | (subst_vars; exact hmw) | (simp only [inI_self, inI_1, inI_31] at hmw; subst_vars; exact hmw), by first | exact nw_rf | exact nw_up (by omega) | exact nw_up2 (by omega), by first | exact nw_rf | exact nw_up (by omega) | exact nw_up2 (by omega)⟩
  · exact (show False by omega).elim

set_option maxHeartbeats 4000000 in
set_option maxRecDepth 100000 in
theorem mok_gap (θ : TH) (l : Launch) (S0 : State) (H : Heap) (w : Nat → Nat) (r q : Nat → Nat) (dt : Nat → Int) (sv : Nat → Nat → Int) (th dn rf kn : Int) (hw : MWR θ S0 w H r q dt sv th dn rf kn) (a n k : Int) (h_0 : -2147483648 ≤ a ∧ a < 2147483648) (h_1 : -2147483648 ≤ n ∧ n < 2147483648) (h_2 : -2147483648 ≤ k ∧ k < 2147483648) (h_3 : 0 ≤ a ∧ a < 6) (h_4 : -240000 ≤ n ∧ n ≤ 240000) (h_5 : -100000 ≤ k ∧ k ≤ 100000) : CT l yX3_gap cX3_gap 4 (some .int) 8 171 4 8 [.ref (w 0), .int (iI a), .int (iI n), .int (iI k)] S0 H (fun v9 H1 => v9 = some (.int (iI (shI (dt a.toNat + k) n - (shI (dt a.toNat) n + k)))) ∧ ∃ r1 q1 : Nat → Nat, MWR θ S0 w H1 r1 q1 dt sv 0 dn rf kn ∧ NW 6 H.size r r1 ∧ NW 3 H.size q q1) (fun _ _ => False) (WA w H.size) := by
  refine ct_of (by decide +kernel) (Nat.le_of_ble_eq_true rfl) ?_
  intro pg en s mi args below meth co ls fx hs hr hlk hxt hin hl
  subst hs
  obtain ⟨hx, hb, hml, hown, hts⟩ := id fx.1
  have hS : va_S (WA w s.heap.size) s.heap s.heap [] := va_S.rf
  obtain ⟨hz, hu, hm, hd, hsv⟩ := id hw
  have hAB : ∀ x : Nat, (WA w s.heap.size) x → θ.2.2.2 ≤ x := wa_b hu hz.2.1
  have hz0 := hz
  have hK := sz_K fx.2 hz
  have hlt0 := hm.lt
  have hu1 := hu.1
  have hAn : ∀ x : Nat, s.heap.size ≤ x → (WA w s.heap.size) x := fun _ h => Or.inr h
  refine lv_aload_n hx hb dX3_gap_0 rfl (lv_at hl 0 rfl) ?_
  refine lv_iload_n hx hb dX3_gap_1 rfl (lv_at hl 1 rfl) ?_
  obtain ⟨r1, hr1⟩ := bex (a < 0 ∨ 5 < a)
  refine c_P (As := [.int (iI a)]) (rest := [.ref (w 0)]) fx hl (pm_X3_isNo l a r1 hr1 (by omega)) dX3_gap_2 k1113 k1114 k6 k1115 hd_X3_isNo rfl ⟨by decide, by decide⟩ (Nat.le_of_ble_eq_true rfl) ⟨by dsimp only; omega, by dsimp only; omega⟩ ?_
  have br1 : r1 = 0 ∨ r1 = 1 := hr1.elim (fun h => Or.inr h.1) (fun h => Or.inl h.1)
  refine lv_iload_n hx hb dX3_gap_5 rfl (lv_at hl 2 rfl) ?_
  refine q_ldc (n := -240000) hx hb hown (hts _ k1181) (by decide) dX3_gap_6 ?_
  refine q_ldc (n := 240000) hx hb hown (hts _ k1182) (by decide) dX3_gap_8 ?_
  obtain ⟨r2, hr2⟩ := bex (n < (-240000) ∨ 240000 < n)
  refine c_P (As := [.int (iI n), .int (iI (-240000)), .int (iI 240000)]) (rest := [.int (iI r1), .ref (w 0)]) fx hl (pm_X3_isOut l n (-240000) 240000 r2 hr2 (by omega) (by omega) (by omega)) dX3_gap_10 k1116 k1117 k6 k1118 hd_X3_isOut rfl ⟨by decide, by decide⟩ (Nat.le_of_ble_eq_true rfl) ⟨by dsimp only; omega, by dsimp only; omega⟩ ?_
  have br2 : r2 = 0 ∨ r2 = 1 := hr2.elim (fun h => Or.inr h.1) (fun h => Or.inl h.1)
  refine q_ine (tgt := 27) hx hb dX3_gap_13 (by decide) (by omega) (fun c3 => ?_) (fun c3 => ?_)
  · exact (show False by omega).elim
  · refine lv_iload_n hx hb dX3_gap_16 rfl (lv_at hl 3 rfl) ?_
    refine q_ldc (n := -100000) hx hb hown (hts _ k1286) (by decide) dX3_gap_17 ?_
    refine q_ldc (n := 100000) hx hb hown (hts _ k1287) (by decide) dX3_gap_19 ?_
    obtain ⟨r4, hr4⟩ := bex (k < (-100000) ∨ 100000 < k)
    refine c_P (As := [.int (iI k), .int (iI (-100000)), .int (iI 100000)]) (rest := [.int (iI r1), .ref (w 0)]) fx hl (pm_X3_isOut l k (-100000) 100000 r4 hr4 (by omega) (by omega) (by omega)) dX3_gap_21 k1116 k1117 k6 k1118 hd_X3_isOut rfl ⟨by decide, by decide⟩ (Nat.le_of_ble_eq_true rfl) ⟨by dsimp only; omega, by dsimp only; omega⟩ ?_
    have br4 : r4 = 0 ∨ r4 = 1 := hr4.elim (fun h => Or.inr h.1) (fun h => Or.inl h.1)
    refine q_ieq (tgt := 31) hx hb dX3_gap_24 (by decide) (by omega) (fun c5 => ?_) (fun c5 => ?_)
    · refine q_con hx hb dX3_gap_31 ?_
      refine q_con hx hb dX3_gap_32 ?_
      obtain ⟨t6, f7, hq1t6, hq2t6⟩ := fails_ex r1 0 0 (by omega) (by omega) (by omega)
      have hmw : MWR θ S0 w s.heap r q dt sv th dn rf kn := ⟨hz, hu, hm, hd, hsv⟩
      refine c_M (w := w) (As := [.int (iI r1), .int (iI 0), .int (iI 0)]) (rest := []) (b := w 0) (C := RX3) fx hl (mw_fails θ l S0 _ w _ _ _ _ _ _ _ _ hmw r1 0 0 t6 f7 (by omega) hq1t6 hq2t6) (ob_recv hK hm.1 rfl) dX3_gap_33 k1119 k1121 ks10 k6 k1122 hd_X3_fails rfl ⟨by decide, by decide⟩ (Nat.le_of_ble_eq_true rfl) ⟨by dsimp only; omega, by dsimp only; omega⟩ hS (fun x hx => hx ▸ Or.inl (Or.inl rfl)) (fun H8 locs hmH8 hszH8 hk0H8 hS => ?_)
      have hkH8 : ∀ x : Nat, x < (s.heap).size → ¬ x = w 0 → H8[x]? = (s.heap)[x]? := hk0H8
      have hzH8 := hz0.at hAB hS
      have hltH8 := hmH8.lt
      refine q_ieq (tgt := 43) hx hb dX3_gap_36 (by decide) (by omega) (fun c9 => ?_) (fun c9 => ?_)
      · refine lv_aload_n hx hb dX3_gap_43 rfl (lv_at hl 0 rfl) ?_
        refine lv_iload_n hx hb dX3_gap_44 rfl (lv_at hl 1 rfl) ?_
        refine lv_iload_n hx hb dX3_gap_45 rfl (lv_at hl 2 rfl) ?_
        refine lv_iload_n hx hb dX3_gap_46 rfl (lv_at hl 3 rfl) ?_
        have hmw : MWR θ S0 w H8 r q dt sv t6 dn rf kn := ⟨hzH8, hu, hmH8, hd, hsv⟩
        refine c_M (w := w) (As := [.int (iI a), .int (iI n), .int (iI k)]) (rest := []) (b := w 0) (C := RX3) fx hl (ma_gapNow θ l S0 _ w _ _ _ _ _ _ _ _ hmw a n k (by omega) (by omega) (by omega)) (ob_recv hK hmH8.1 rfl) dX3_gap_47 k1288 k1290 ks19 k6 k1291 hd_X3_gapNow rfl ⟨by decide, by decide⟩ (Nat.le_of_ble_eq_true rfl) ⟨by dsimp only; omega, by dsimp only; omega⟩ hS (fun x hx => hAn x (Nat.le_trans hS.1 hx)) (fun H10 locs _ hszH10 hk0H10 hS => ?_)
        have hkH10 : ∀ x : Nat, x < (H8).size → H10[x]? = (H8)[x]? := fun x hx => hk0H10 x hx (Nat.not_le.mpr hx)
        have hzH10 := hz0.at hAB hS
        have hmH10 := hmH8.kept hkH10
        have hltH10 := hmH10.lt
        refine q_nm (fun z11 ez11 => ?_)
        obtain rfl : t6 = 0 := by omega
        have hmw : MWR θ S0 w H10 r q dt sv 0 dn rf kn := ⟨hzH10, hu, hmH10, hd, hsv⟩
        exact e_i hx hb hr hlk hS dX3_gap_50 (Nat.le_of_ble_eq_true rfl) (Nat.le_of_ble_eq_true rfl) ⟨ex_i (by subst_vars; first | omega | (simp only [up_s, tri_0, tri_1, tri_2, inI_self, inI_1, inI_31]; done) | (simp only [up_s, tri_0, tri_1, tri_2, inI_self, inI_1, inI_31]; omega) | (simp only [up_s, tri_0, tri_1, tri_2]; subst_vars; first | rfl | omega)), r, q, by first | exact hmw | (subst_vars; exact hmw) | (simp only [inI_self, inI_1, inI_31] at hmw; subst_vars; exact hmw), by first | exact nw_rf | exact nw_up (by omega) | exact nw_up2 (by omega), by first | exact nw_rf | exact nw_up (by omega) | exact nw_up2 (by omega)⟩
      · exact (show False by omega).elim
    · exact (show False by omega).elim

set_option maxHeartbeats 4000000 in
set_option maxRecDepth 100000 in
theorem mno1_gap (θ : TH) (l : Launch) (S0 : State) (H : Heap) (w : Nat → Nat) (r q : Nat → Nat) (dt : Nat → Int) (sv : Nat → Nat → Int) (th dn rf kn : Int) (hw : MWR θ S0 w H r q dt sv th dn rf kn) (a n k : Int) (h_0 : -2147483648 ≤ a ∧ a < 2147483648) (h_1 : -2147483648 ≤ n ∧ n < 2147483648) (h_2 : -2147483648 ≤ k ∧ k < 2147483648) (h_3 : ¬ (0 ≤ a ∧ a < 6)) : CT l yX3_gap cX3_gap 4 (some .int) 2 42 0 0 [.ref (w 0), .int (iI a), .int (iI n), .int (iI k)] S0 H (fun v9 H1 => v9 = some (.int (iI 0)) ∧ ∃ r1 q1 : Nat → Nat, MWR θ S0 w H1 r1 q1 dt sv 1 dn rf kn ∧ NW 6 H.size r r1 ∧ NW 3 H.size q q1) (fun _ _ => False) (WA w H.size) := by
  refine ct_of (by decide +kernel) (Nat.le_of_ble_eq_true rfl) ?_
  intro pg en s mi args below meth co ls fx hs hr hlk hxt hin hl
  subst hs
  obtain ⟨hx, hb, hml, hown, hts⟩ := id fx.1
  have hS : va_S (WA w s.heap.size) s.heap s.heap [] := va_S.rf
  obtain ⟨hz, hu, hm, hd, hsv⟩ := id hw
  have hAB : ∀ x : Nat, (WA w s.heap.size) x → θ.2.2.2 ≤ x := wa_b hu hz.2.1
  have hz0 := hz
  have hK := sz_K fx.2 hz
  have hlt0 := hm.lt
  have hu1 := hu.1
  have hAn : ∀ x : Nat, s.heap.size ≤ x → (WA w s.heap.size) x := fun _ h => Or.inr h
  refine lv_aload_n hx hb dX3_gap_0 rfl (lv_at hl 0 rfl) ?_
  refine lv_iload_n hx hb dX3_gap_1 rfl (lv_at hl 1 rfl) ?_
  obtain ⟨r1, hr1⟩ := bex (a < 0 ∨ 5 < a)
  refine c_P (As := [.int (iI a)]) (rest := [.ref (w 0)]) fx hl (pm_X3_isNo l a r1 hr1 (by omega)) dX3_gap_2 k1113 k1114 k6 k1115 hd_X3_isNo rfl ⟨by decide, by decide⟩ (Nat.le_of_ble_eq_true rfl) ⟨by dsimp only; omega, by dsimp only; omega⟩ ?_
  have br1 : r1 = 0 ∨ r1 = 1 := hr1.elim (fun h => Or.inr h.1) (fun h => Or.inl h.1)
  refine lv_iload_n hx hb dX3_gap_5 rfl (lv_at hl 2 rfl) ?_
  refine q_ldc (n := -240000) hx hb hown (hts _ k1181) (by decide) dX3_gap_6 ?_
  refine q_ldc (n := 240000) hx hb hown (hts _ k1182) (by decide) dX3_gap_8 ?_
  obtain ⟨r2, hr2⟩ := bex (n < (-240000) ∨ 240000 < n)
  refine c_P (As := [.int (iI n), .int (iI (-240000)), .int (iI 240000)]) (rest := [.int (iI r1), .ref (w 0)]) fx hl (pm_X3_isOut l n (-240000) 240000 r2 hr2 (by omega) (by omega) (by omega)) dX3_gap_10 k1116 k1117 k6 k1118 hd_X3_isOut rfl ⟨by decide, by decide⟩ (Nat.le_of_ble_eq_true rfl) ⟨by dsimp only; omega, by dsimp only; omega⟩ ?_
  have br2 : r2 = 0 ∨ r2 = 1 := hr2.elim (fun h => Or.inr h.1) (fun h => Or.inl h.1)
  refine q_ine (tgt := 27) hx hb dX3_gap_13 (by decide) (by omega) (fun c3 => ?_) (fun c3 => ?_)
  · refine q_con hx hb dX3_gap_27 ?_
    refine lv_goto (tgt := 32) hx hb dX3_gap_28 (by decide) ?_
    refine q_con hx hb dX3_gap_32 ?_
    obtain ⟨t4, f5, hq1t4, hq2t4⟩ := fails_ex r1 1 0 (by omega) (by omega) (by omega)
    have hmw : MWR θ S0 w s.heap r q dt sv th dn rf kn := ⟨hz, hu, hm, hd, hsv⟩
    refine c_M (w := w) (As := [.int (iI r1), .int (iI 1), .int (iI 0)]) (rest := []) (b := w 0) (C := RX3) fx hl (mw_fails θ l S0 _ w _ _ _ _ _ _ _ _ hmw r1 1 0 t4 f5 (by omega) hq1t4 hq2t4) (ob_recv hK hm.1 rfl) dX3_gap_33 k1119 k1121 ks10 k6 k1122 hd_X3_fails rfl ⟨by decide, by decide⟩ (Nat.le_of_ble_eq_true rfl) ⟨by dsimp only; omega, by dsimp only; omega⟩ hS (fun x hx => hx ▸ Or.inl (Or.inl rfl)) (fun H6 locs hmH6 hszH6 hk0H6 hS => ?_)
    have hkH6 : ∀ x : Nat, x < (s.heap).size → ¬ x = w 0 → H6[x]? = (s.heap)[x]? := hk0H6
    have hzH6 := hz0.at hAB hS
    have hltH6 := hmH6.lt
    refine q_ieq (tgt := 43) hx hb dX3_gap_36 (by decide) (by omega) (fun c7 => ?_) (fun c7 => ?_)
    · exact (show False by omega).elim
    · refine q_con hx hb dX3_gap_39 ?_
      refine lv_goto (tgt := 50) hx hb dX3_gap_40 (by decide) ?_
      obtain rfl : t4 = 1 := by omega
      have hmw : MWR θ S0 w H6 r q dt sv 1 dn rf kn := ⟨hzH6, hu, hmH6, hd, hsv⟩
      exact e_i hx hb hr hlk hS dX3_gap_50 (Nat.le_of_ble_eq_true rfl) (Nat.le_of_ble_eq_true rfl) ⟨ex_i (by omega), r, q, by first | exact hmw | (subst_vars; exact hmw) | (simp only [inI_self, inI_1, inI_31] at hmw; subst_vars; exact hmw), by first | exact nw_rf | exact nw_up (by omega) | exact nw_up2 (by omega), by first | exact nw_rf | exact nw_up (by omega) | exact nw_up2 (by omega)⟩
  · refine lv_iload_n hx hb dX3_gap_16 rfl (lv_at hl 3 rfl) ?_
    refine q_ldc (n := -100000) hx hb hown (hts _ k1286) (by decide) dX3_gap_17 ?_
    refine q_ldc (n := 100000) hx hb hown (hts _ k1287) (by decide) dX3_gap_19 ?_
    obtain ⟨r8, hr8⟩ := bex (k < (-100000) ∨ 100000 < k)
    refine c_P (As := [.int (iI k), .int (iI (-100000)), .int (iI 100000)]) (rest := [.int (iI r1), .ref (w 0)]) fx hl (pm_X3_isOut l k (-100000) 100000 r8 hr8 (by omega) (by omega) (by omega)) dX3_gap_21 k1116 k1117 k6 k1118 hd_X3_isOut rfl ⟨by decide, by decide⟩ (Nat.le_of_ble_eq_true rfl) ⟨by dsimp only; omega, by dsimp only; omega⟩ ?_
    have br8 : r8 = 0 ∨ r8 = 1 := hr8.elim (fun h => Or.inr h.1) (fun h => Or.inl h.1)
    refine q_ieq (tgt := 31) hx hb dX3_gap_24 (by decide) (by omega) (fun c9 => ?_) (fun c9 => ?_)
    · refine q_con hx hb dX3_gap_31 ?_
      refine q_con hx hb dX3_gap_32 ?_
      obtain ⟨t10, f11, hq1t10, hq2t10⟩ := fails_ex r1 0 0 (by omega) (by omega) (by omega)
      have hmw : MWR θ S0 w s.heap r q dt sv th dn rf kn := ⟨hz, hu, hm, hd, hsv⟩
      refine c_M (w := w) (As := [.int (iI r1), .int (iI 0), .int (iI 0)]) (rest := []) (b := w 0) (C := RX3) fx hl (mw_fails θ l S0 _ w _ _ _ _ _ _ _ _ hmw r1 0 0 t10 f11 (by omega) hq1t10 hq2t10) (ob_recv hK hm.1 rfl) dX3_gap_33 k1119 k1121 ks10 k6 k1122 hd_X3_fails rfl ⟨by decide, by decide⟩ (Nat.le_of_ble_eq_true rfl) ⟨by dsimp only; omega, by dsimp only; omega⟩ hS (fun x hx => hx ▸ Or.inl (Or.inl rfl)) (fun H12 locs hmH12 hszH12 hk0H12 hS => ?_)
      have hkH12 : ∀ x : Nat, x < (s.heap).size → ¬ x = w 0 → H12[x]? = (s.heap)[x]? := hk0H12
      have hzH12 := hz0.at hAB hS
      have hltH12 := hmH12.lt
      refine q_ieq (tgt := 43) hx hb dX3_gap_36 (by decide) (by omega) (fun c13 => ?_) (fun c13 => ?_)
      · exact (show False by omega).elim
      · refine q_con hx hb dX3_gap_39 ?_
        refine lv_goto (tgt := 50) hx hb dX3_gap_40 (by decide) ?_
        obtain rfl : t10 = 1 := by omega
        have hmw : MWR θ S0 w H12 r q dt sv 1 dn rf kn := ⟨hzH12, hu, hmH12, hd, hsv⟩
        exact e_i hx hb hr hlk hS dX3_gap_50 (Nat.le_of_ble_eq_true rfl) (Nat.le_of_ble_eq_true rfl) ⟨ex_i (by omega), r, q, by first | exact hmw | (subst_vars; exact hmw) | (simp only [inI_self, inI_1, inI_31] at hmw; subst_vars; exact hmw), by first | exact nw_rf | exact nw_up (by omega) | exact nw_up2 (by omega), by first | exact nw_rf | exact nw_up (by omega) | exact nw_up2 (by omega)⟩
    · refine q_con hx hb dX3_gap_27 ?_
      refine lv_goto (tgt := 32) hx hb dX3_gap_28 (by decide) ?_
      refine q_con hx hb dX3_gap_32 ?_
      obtain ⟨t14, f15, hq1t14, hq2t14⟩ := fails_ex r1 1 0 (by omega) (by omega) (by omega)
      have hmw : MWR θ S0 w s.heap r q dt sv th dn rf kn := ⟨hz, hu, hm, hd, hsv⟩
      refine c_M (w := w) (As := [.int (iI r1), .int (iI 1), .int (iI 0)]) (rest := []) (b := w 0) (C := RX3) fx hl (mw_fails θ l S0 _ w _ _ _ _ _ _ _ _ hmw r1 1 0 t14 f15 (by omega) hq1t14 hq2t14) (ob_recv hK hm.1 rfl) dX3_gap_33 k1119 k1121 ks10 k6 k1122 hd_X3_fails rfl ⟨by decide, by decide⟩ (Nat.le_of_ble_eq_true rfl) ⟨by dsimp only; omega, by dsimp only; omega⟩ hS (fun x hx => hx ▸ Or.inl (Or.inl rfl)) (fun H16 locs hmH16 hszH16 hk0H16 hS => ?_)
      have hkH16 : ∀ x : Nat, x < (s.heap).size → ¬ x = w 0 → H16[x]? = (s.heap)[x]? := hk0H16
      have hzH16 := hz0.at hAB hS
      have hltH16 := hmH16.lt
      refine q_ieq (tgt := 43) hx hb dX3_gap_36 (by decide) (by omega) (fun c17 => ?_) (fun c17 => ?_)
      · exact (show False by omega).elim
      · refine q_con hx hb dX3_gap_39 ?_
        refine lv_goto (tgt := 50) hx hb dX3_gap_40 (by decide) ?_
        obtain rfl : t14 = 1 := by omega
        have hmw : MWR θ S0 w H16 r q dt sv 1 dn rf kn := ⟨hzH16, hu, hmH16, hd, hsv⟩
        exact e_i hx hb hr hlk hS dX3_gap_50 (Nat.le_of_ble_eq_true rfl) (Nat.le_of_ble_eq_true rfl) ⟨ex_i (by omega), r, q, by first | exact hmw | (subst_vars; exact hmw) | (simp only [inI_self, inI_1, inI_31] at hmw; subst_vars; exact hmw), by first | exact nw_rf | exact nw_up (by omega) | exact nw_up2 (by omega), by first | exact nw_rf | exact nw_up (by omega) | exact nw_up2 (by omega)⟩

set_option maxHeartbeats 4000000 in
set_option maxRecDepth 100000 in
theorem mno2_gap (θ : TH) (l : Launch) (S0 : State) (H : Heap) (w : Nat → Nat) (r q : Nat → Nat) (dt : Nat → Int) (sv : Nat → Nat → Int) (th dn rf kn : Int) (hw : MWR θ S0 w H r q dt sv th dn rf kn) (a n k : Int) (h_0 : -2147483648 ≤ a ∧ a < 2147483648) (h_1 : -2147483648 ≤ n ∧ n < 2147483648) (h_2 : -2147483648 ≤ k ∧ k < 2147483648) (h_3 : 0 ≤ a ∧ a < 6) (h_4 : ¬ (-240000 ≤ n ∧ n ≤ 240000)) : CT l yX3_gap cX3_gap 4 (some .int) 2 42 0 0 [.ref (w 0), .int (iI a), .int (iI n), .int (iI k)] S0 H (fun v9 H1 => v9 = some (.int (iI 0)) ∧ ∃ r1 q1 : Nat → Nat, MWR θ S0 w H1 r1 q1 dt sv 2 dn rf kn ∧ NW 6 H.size r r1 ∧ NW 3 H.size q q1) (fun _ _ => False) (WA w H.size) := by
  refine ct_of (by decide +kernel) (Nat.le_of_ble_eq_true rfl) ?_
  intro pg en s mi args below meth co ls fx hs hr hlk hxt hin hl
  subst hs
  obtain ⟨hx, hb, hml, hown, hts⟩ := id fx.1
  have hS : va_S (WA w s.heap.size) s.heap s.heap [] := va_S.rf
  obtain ⟨hz, hu, hm, hd, hsv⟩ := id hw
  have hAB : ∀ x : Nat, (WA w s.heap.size) x → θ.2.2.2 ≤ x := wa_b hu hz.2.1
  have hz0 := hz
  have hK := sz_K fx.2 hz
  have hlt0 := hm.lt
  have hu1 := hu.1
  have hAn : ∀ x : Nat, s.heap.size ≤ x → (WA w s.heap.size) x := fun _ h => Or.inr h
  refine lv_aload_n hx hb dX3_gap_0 rfl (lv_at hl 0 rfl) ?_
  refine lv_iload_n hx hb dX3_gap_1 rfl (lv_at hl 1 rfl) ?_
  obtain ⟨r1, hr1⟩ := bex (a < 0 ∨ 5 < a)
  refine c_P (As := [.int (iI a)]) (rest := [.ref (w 0)]) fx hl (pm_X3_isNo l a r1 hr1 (by omega)) dX3_gap_2 k1113 k1114 k6 k1115 hd_X3_isNo rfl ⟨by decide, by decide⟩ (Nat.le_of_ble_eq_true rfl) ⟨by dsimp only; omega, by dsimp only; omega⟩ ?_
  have br1 : r1 = 0 ∨ r1 = 1 := hr1.elim (fun h => Or.inr h.1) (fun h => Or.inl h.1)
  refine lv_iload_n hx hb dX3_gap_5 rfl (lv_at hl 2 rfl) ?_
  refine q_ldc (n := -240000) hx hb hown (hts _ k1181) (by decide) dX3_gap_6 ?_
  refine q_ldc (n := 240000) hx hb hown (hts _ k1182) (by decide) dX3_gap_8 ?_
  obtain ⟨r2, hr2⟩ := bex (n < (-240000) ∨ 240000 < n)
  refine c_P (As := [.int (iI n), .int (iI (-240000)), .int (iI 240000)]) (rest := [.int (iI r1), .ref (w 0)]) fx hl (pm_X3_isOut l n (-240000) 240000 r2 hr2 (by omega) (by omega) (by omega)) dX3_gap_10 k1116 k1117 k6 k1118 hd_X3_isOut rfl ⟨by decide, by decide⟩ (Nat.le_of_ble_eq_true rfl) ⟨by dsimp only; omega, by dsimp only; omega⟩ ?_
  have br2 : r2 = 0 ∨ r2 = 1 := hr2.elim (fun h => Or.inr h.1) (fun h => Or.inl h.1)
  refine q_ine (tgt := 27) hx hb dX3_gap_13 (by decide) (by omega) (fun c3 => ?_) (fun c3 => ?_)
  · refine q_con hx hb dX3_gap_27 ?_
    refine lv_goto (tgt := 32) hx hb dX3_gap_28 (by decide) ?_
    refine q_con hx hb dX3_gap_32 ?_
    obtain ⟨t4, f5, hq1t4, hq2t4⟩ := fails_ex r1 1 0 (by omega) (by omega) (by omega)
    have hmw : MWR θ S0 w s.heap r q dt sv th dn rf kn := ⟨hz, hu, hm, hd, hsv⟩
    refine c_M (w := w) (As := [.int (iI r1), .int (iI 1), .int (iI 0)]) (rest := []) (b := w 0) (C := RX3) fx hl (mw_fails θ l S0 _ w _ _ _ _ _ _ _ _ hmw r1 1 0 t4 f5 (by omega) hq1t4 hq2t4) (ob_recv hK hm.1 rfl) dX3_gap_33 k1119 k1121 ks10 k6 k1122 hd_X3_fails rfl ⟨by decide, by decide⟩ (Nat.le_of_ble_eq_true rfl) ⟨by dsimp only; omega, by dsimp only; omega⟩ hS (fun x hx => hx ▸ Or.inl (Or.inl rfl)) (fun H6 locs hmH6 hszH6 hk0H6 hS => ?_)
    have hkH6 : ∀ x : Nat, x < (s.heap).size → ¬ x = w 0 → H6[x]? = (s.heap)[x]? := hk0H6
    have hzH6 := hz0.at hAB hS
    have hltH6 := hmH6.lt
    refine q_ieq (tgt := 43) hx hb dX3_gap_36 (by decide) (by omega) (fun c7 => ?_) (fun c7 => ?_)
    · exact (show False by omega).elim
    · refine q_con hx hb dX3_gap_39 ?_
      refine lv_goto (tgt := 50) hx hb dX3_gap_40 (by decide) ?_
      obtain rfl : t4 = 2 := by omega
      have hmw : MWR θ S0 w H6 r q dt sv 2 dn rf kn := ⟨hzH6, hu, hmH6, hd, hsv⟩
      exact e_i hx hb hr hlk hS dX3_gap_50 (Nat.le_of_ble_eq_true rfl) (Nat.le_of_ble_eq_true rfl) ⟨ex_i (by omega), r, q, by first | exact hmw | (subst_vars; exact hmw) | (simp only [inI_self, inI_1, inI_31] at hmw; subst_vars; exact hmw), by first | exact nw_rf | exact nw_up (by omega) | exact nw_up2 (by omega), by first | exact nw_rf | exact nw_up (by omega) | exact nw_up2 (by omega)⟩
  · exact (show False by omega).elim

set_option maxHeartbeats 4000000 in
set_option maxRecDepth 100000 in
theorem mno3_gap (θ : TH) (l : Launch) (S0 : State) (H : Heap) (w : Nat → Nat) (r q : Nat → Nat) (dt : Nat → Int) (sv : Nat → Nat → Int) (th dn rf kn : Int) (hw : MWR θ S0 w H r q dt sv th dn rf kn) (a n k : Int) (h_0 : -2147483648 ≤ a ∧ a < 2147483648) (h_1 : -2147483648 ≤ n ∧ n < 2147483648) (h_2 : -2147483648 ≤ k ∧ k < 2147483648) (h_3 : 0 ≤ a ∧ a < 6) (h_4 : -240000 ≤ n ∧ n ≤ 240000) (h_5 : ¬ (-100000 ≤ k ∧ k ≤ 100000)) : CT l yX3_gap cX3_gap 4 (some .int) 2 42 0 0 [.ref (w 0), .int (iI a), .int (iI n), .int (iI k)] S0 H (fun v9 H1 => v9 = some (.int (iI 0)) ∧ ∃ r1 q1 : Nat → Nat, MWR θ S0 w H1 r1 q1 dt sv 2 dn rf kn ∧ NW 6 H.size r r1 ∧ NW 3 H.size q q1) (fun _ _ => False) (WA w H.size) := by
  refine ct_of (by decide +kernel) (Nat.le_of_ble_eq_true rfl) ?_
  intro pg en s mi args below meth co ls fx hs hr hlk hxt hin hl
  subst hs
  obtain ⟨hx, hb, hml, hown, hts⟩ := id fx.1
  have hS : va_S (WA w s.heap.size) s.heap s.heap [] := va_S.rf
  obtain ⟨hz, hu, hm, hd, hsv⟩ := id hw
  have hAB : ∀ x : Nat, (WA w s.heap.size) x → θ.2.2.2 ≤ x := wa_b hu hz.2.1
  have hz0 := hz
  have hK := sz_K fx.2 hz
  have hlt0 := hm.lt
  have hu1 := hu.1
  have hAn : ∀ x : Nat, s.heap.size ≤ x → (WA w s.heap.size) x := fun _ h => Or.inr h
  refine lv_aload_n hx hb dX3_gap_0 rfl (lv_at hl 0 rfl) ?_
  refine lv_iload_n hx hb dX3_gap_1 rfl (lv_at hl 1 rfl) ?_
  obtain ⟨r1, hr1⟩ := bex (a < 0 ∨ 5 < a)
  refine c_P (As := [.int (iI a)]) (rest := [.ref (w 0)]) fx hl (pm_X3_isNo l a r1 hr1 (by omega)) dX3_gap_2 k1113 k1114 k6 k1115 hd_X3_isNo rfl ⟨by decide, by decide⟩ (Nat.le_of_ble_eq_true rfl) ⟨by dsimp only; omega, by dsimp only; omega⟩ ?_
  have br1 : r1 = 0 ∨ r1 = 1 := hr1.elim (fun h => Or.inr h.1) (fun h => Or.inl h.1)
  refine lv_iload_n hx hb dX3_gap_5 rfl (lv_at hl 2 rfl) ?_
  refine q_ldc (n := -240000) hx hb hown (hts _ k1181) (by decide) dX3_gap_6 ?_
  refine q_ldc (n := 240000) hx hb hown (hts _ k1182) (by decide) dX3_gap_8 ?_
  obtain ⟨r2, hr2⟩ := bex (n < (-240000) ∨ 240000 < n)
  refine c_P (As := [.int (iI n), .int (iI (-240000)), .int (iI 240000)]) (rest := [.int (iI r1), .ref (w 0)]) fx hl (pm_X3_isOut l n (-240000) 240000 r2 hr2 (by omega) (by omega) (by omega)) dX3_gap_10 k1116 k1117 k6 k1118 hd_X3_isOut rfl ⟨by decide, by decide⟩ (Nat.le_of_ble_eq_true rfl) ⟨by dsimp only; omega, by dsimp only; omega⟩ ?_
  have br2 : r2 = 0 ∨ r2 = 1 := hr2.elim (fun h => Or.inr h.1) (fun h => Or.inl h.1)
  refine q_ine (tgt := 27) hx hb dX3_gap_13 (by decide) (by omega) (fun c3 => ?_) (fun c3 => ?_)
  · exact (show False by omega).elim
  · refine lv_iload_n hx hb dX3_gap_16 rfl (lv_at hl 3 rfl) ?_
    refine q_ldc (n := -100000) hx hb hown (hts _ k1286) (by decide) dX3_gap_17 ?_
    refine q_ldc (n := 100000) hx hb hown (hts _ k1287) (by decide) dX3_gap_19 ?_
    obtain ⟨r4, hr4⟩ := bex (k < (-100000) ∨ 100000 < k)
    refine c_P (As := [.int (iI k), .int (iI (-100000)), .int (iI 100000)]) (rest := [.int (iI r1), .ref (w 0)]) fx hl (pm_X3_isOut l k (-100000) 100000 r4 hr4 (by omega) (by omega) (by omega)) dX3_gap_21 k1116 k1117 k6 k1118 hd_X3_isOut rfl ⟨by decide, by decide⟩ (Nat.le_of_ble_eq_true rfl) ⟨by dsimp only; omega, by dsimp only; omega⟩ ?_
    have br4 : r4 = 0 ∨ r4 = 1 := hr4.elim (fun h => Or.inr h.1) (fun h => Or.inl h.1)
    refine q_ieq (tgt := 31) hx hb dX3_gap_24 (by decide) (by omega) (fun c5 => ?_) (fun c5 => ?_)
    · exact (show False by omega).elim
    · refine q_con hx hb dX3_gap_27 ?_
      refine lv_goto (tgt := 32) hx hb dX3_gap_28 (by decide) ?_
      refine q_con hx hb dX3_gap_32 ?_
      obtain ⟨t6, f7, hq1t6, hq2t6⟩ := fails_ex r1 1 0 (by omega) (by omega) (by omega)
      have hmw : MWR θ S0 w s.heap r q dt sv th dn rf kn := ⟨hz, hu, hm, hd, hsv⟩
      refine c_M (w := w) (As := [.int (iI r1), .int (iI 1), .int (iI 0)]) (rest := []) (b := w 0) (C := RX3) fx hl (mw_fails θ l S0 _ w _ _ _ _ _ _ _ _ hmw r1 1 0 t6 f7 (by omega) hq1t6 hq2t6) (ob_recv hK hm.1 rfl) dX3_gap_33 k1119 k1121 ks10 k6 k1122 hd_X3_fails rfl ⟨by decide, by decide⟩ (Nat.le_of_ble_eq_true rfl) ⟨by dsimp only; omega, by dsimp only; omega⟩ hS (fun x hx => hx ▸ Or.inl (Or.inl rfl)) (fun H8 locs hmH8 hszH8 hk0H8 hS => ?_)
      have hkH8 : ∀ x : Nat, x < (s.heap).size → ¬ x = w 0 → H8[x]? = (s.heap)[x]? := hk0H8
      have hzH8 := hz0.at hAB hS
      have hltH8 := hmH8.lt
      refine q_ieq (tgt := 43) hx hb dX3_gap_36 (by decide) (by omega) (fun c9 => ?_) (fun c9 => ?_)
      · exact (show False by omega).elim
      · refine q_con hx hb dX3_gap_39 ?_
        refine lv_goto (tgt := 50) hx hb dX3_gap_40 (by decide) ?_
        obtain rfl : t6 = 2 := by omega
        have hmw : MWR θ S0 w H8 r q dt sv 2 dn rf kn := ⟨hzH8, hu, hmH8, hd, hsv⟩
        exact e_i hx hb hr hlk hS dX3_gap_50 (Nat.le_of_ble_eq_true rfl) (Nat.le_of_ble_eq_true rfl) ⟨ex_i (by omega), r, q, by first | exact hmw | (subst_vars; exact hmw) | (simp only [inI_self, inI_1, inI_31] at hmw; subst_vars; exact hmw), by first | exact nw_rf | exact nw_up (by omega) | exact nw_up2 (by omega), by first | exact nw_rf | exact nw_up (by omega) | exact nw_up2 (by omega)⟩

set_option maxHeartbeats 4000000 in
set_option maxRecDepth 100000 in
theorem mok_age (θ : TH) (l : Launch) (S0 : State) (H : Heap) (w : Nat → Nat) (r q : Nat → Nat) (dt : Nat → Int) (sv : Nat → Nat → Int) (th dn rf kn : Int) (hw : MWR θ S0 w H r q dt sv th dn rf kn) (a b : Int) (h_0 : -2147483648 ≤ a ∧ a < 2147483648) (h_1 : -2147483648 ≤ b ∧ b < 2147483648) (h_2 : 0 ≤ a ∧ a < 6) (h_3 : 0 ≤ b ∧ b < 6) (h_4 : dt a.toNat ≤ dt b.toNat) : CT l yX3_age cX3_age 3 (some .int) 8 170 0 0 [.ref (w 0), .int (iI a), .int (iI b)] S0 H (fun v9 H1 => v9 = some (.int (iI (muI (dt a.toNat) (dt b.toNat) / 12))) ∧ ∃ r1 q1 : Nat → Nat, MWR θ S0 w H1 r1 q1 dt sv 0 dn rf kn ∧ NW 6 H.size r r1 ∧ NW 3 H.size q q1) (fun _ _ => False) (WA w H.size) := by
  refine ct_of (by decide +kernel) (Nat.le_of_ble_eq_true rfl) ?_
  intro pg en s mi args below meth co ls fx hs hr hlk hxt hin hl
  subst hs
  obtain ⟨hx, hb, hml, hown, hts⟩ := id fx.1
  have hS : va_S (WA w s.heap.size) s.heap s.heap [] := va_S.rf
  obtain ⟨hz, hu, hm, hd, hsv⟩ := id hw
  have hAB : ∀ x : Nat, (WA w s.heap.size) x → θ.2.2.2 ≤ x := wa_b hu hz.2.1
  have hz0 := hz
  have hK := sz_K fx.2 hz
  have hlt0 := hm.lt
  have hu1 := hu.1
  have hAn : ∀ x : Nat, s.heap.size ≤ x → (WA w s.heap.size) x := fun _ h => Or.inr h
  have tm := mu_b (dt a.toNat) (dt b.toNat)
  have tm2 : muI (dt a.toNat) (dt b.toNat) = (if dI (dt b.toNat) < dI (dt a.toNat) then mI (dt b.toNat) - mI (dt a.toNat) - 1 else mI (dt b.toNat) - mI (dt a.toNat)) := rfl
  refine lv_aload_n hx hb dX3_age_0 rfl (lv_at hl 0 rfl) ?_
  refine lv_iload_n hx hb dX3_age_1 rfl (lv_at hl 1 rfl) ?_
  refine lv_iload_n hx hb dX3_age_2 rfl (lv_at hl 2 rfl) ?_
  obtain ⟨r1, hr1⟩ := bex ((a < 0 ∨ 5 < a) ∨ (b < 0 ∨ 5 < b))
  refine c_P (As := [.int (iI a), .int (iI b)]) (rest := [.ref (w 0)]) fx hl (pm_X3_areNo l a b r1 hr1 (by omega) (by omega)) dX3_age_3 k1162 k1163 k6 k1164 hd_X3_areNo rfl ⟨by decide, by decide⟩ (Nat.le_of_ble_eq_true rfl) ⟨by dsimp only; omega, by dsimp only; omega⟩ ?_
  have br1 : r1 = 0 ∨ r1 = 1 := hr1.elim (fun h => Or.inr h.1) (fun h => Or.inl h.1)
  refine lv_iload_n hx hb dX3_age_6 rfl (lv_at hl 1 rfl) ?_
  refine lv_iload_n hx hb dX3_age_7 rfl (lv_at hl 2 rfl) ?_
  obtain ⟨r2, hr2⟩ := bex ((a < 0 ∨ 5 < a) ∨ (b < 0 ∨ 5 < b))
  refine c_P (As := [.int (iI a), .int (iI b)]) (rest := [.int (iI r1), .ref (w 0)]) fx hl (pm_X3_areNo l a b r2 hr2 (by omega) (by omega)) dX3_age_8 k1162 k1163 k6 k1164 hd_X3_areNo rfl ⟨by decide, by decide⟩ (Nat.le_of_ble_eq_true rfl) ⟨by dsimp only; omega, by dsimp only; omega⟩ ?_
  have br2 : r2 = 0 ∨ r2 = 1 := hr2.elim (fun h => Or.inr h.1) (fun h => Or.inl h.1)
  refine q_ine (tgt := 27) hx hb dX3_age_11 (by decide) (by omega) (fun c3 => ?_) (fun c3 => ?_)
  · exact (show False by omega).elim
  · refine lv_aload_n hx hb dX3_age_14 rfl (lv_at hl 0 rfl) ?_
    refine lv_iload_n hx hb dX3_age_15 rfl (lv_at hl 2 rfl) ?_
    refine lv_iload_n hx hb dX3_age_16 rfl (lv_at hl 1 rfl) ?_
    obtain ⟨r4, hr4⟩ := bex (dt b.toNat < dt a.toNat)
    have hmw : MWR θ S0 w s.heap r q dt sv th dn rf kn := ⟨hz, hu, hm, hd, hsv⟩
    refine c_HV (As := [.int (iI b), .int (iI a)]) (rest := [.int (iI r1), .ref (w 0)]) (b := w 0) (C := RX3) fx hl (mr_isAhead θ l S0 _ w _ _ _ _ _ _ _ _ hmw b a r4 hr4 (by omega) (by omega)) (ob_recv hK hm.1 rfl) dX3_age_17 k1232 k1234 ks15 k6 k1235 hd_X3_isAhead rfl ⟨by decide, by decide⟩ (Nat.le_of_ble_eq_true rfl) ⟨by dsimp only; omega, by dsimp only; omega⟩ ?_
    have br4 : r4 = 0 ∨ r4 = 1 := hr4.elim (fun h => Or.inr h.1) (fun h => Or.inl h.1)
    refine q_ieq (tgt := 27) hx hb dX3_age_20 (by decide) (by omega) (fun c5 => ?_) (fun c5 => ?_)
    · refine q_con hx hb dX3_age_27 ?_
      refine q_con hx hb dX3_age_28 ?_
      obtain ⟨t6, f7, hq1t6, hq2t6⟩ := fails_ex r1 0 0 (by omega) (by omega) (by omega)
      have hmw : MWR θ S0 w s.heap r q dt sv th dn rf kn := ⟨hz, hu, hm, hd, hsv⟩
      refine c_M (w := w) (As := [.int (iI r1), .int (iI 0), .int (iI 0)]) (rest := []) (b := w 0) (C := RX3) fx hl (mw_fails θ l S0 _ w _ _ _ _ _ _ _ _ hmw r1 0 0 t6 f7 (by omega) hq1t6 hq2t6) (ob_recv hK hm.1 rfl) dX3_age_29 k1119 k1121 ks10 k6 k1122 hd_X3_fails rfl ⟨by decide, by decide⟩ (Nat.le_of_ble_eq_true rfl) ⟨by dsimp only; omega, by dsimp only; omega⟩ hS (fun x hx => hx ▸ Or.inl (Or.inl rfl)) (fun H8 locs hmH8 hszH8 hk0H8 hS => ?_)
      have hkH8 : ∀ x : Nat, x < (s.heap).size → ¬ x = w 0 → H8[x]? = (s.heap)[x]? := hk0H8
      have hzH8 := hz0.at hAB hS
      have hltH8 := hmH8.lt
      refine q_ieq (tgt := 39) hx hb dX3_age_32 (by decide) (by omega) (fun c9 => ?_) (fun c9 => ?_)
      · refine lv_aload_n hx hb dX3_age_39 rfl (lv_at hl 0 rfl) ?_
        refine r_get (θ := θ) (C := RX3) (T := TX3) (N := 6) (ci := 9) hx hb hts gwX3 hown hK hmH8.1 rfl 4 (by decide) k1094 (fun _ h => h) (v := .ref (w 1)) rfl dX3_age_40 ?_
        refine lv_iload_n hx hb dX3_age_43 rfl (lv_at hl 1 rfl) ?_
        refine r_aald (θ := θ) hx hb hK hmH8.2.1 (i := a) (by omega) (by decide) dX3_age_44 ?_
        have rw10 := (hmH8.2.2.2.1 (a.toNat) (by omega)).1
        have rw10n := (hmH8.2.2.2.1 (a.toNat) (by omega)).2
        have rw10t := hd (a.toNat) (by omega)
        have rw10l := rw10.lt
        have rw10i := inR rw10t
        have rw10m := inM rw10i
        have rw10d := dI_b (dt a.toNat)
        refine lv_aload_n hx hb dX3_age_45 rfl (lv_at hl 0 rfl) ?_
        refine r_get (θ := θ) (C := RX3) (T := TX3) (N := 6) (ci := 9) hx hb hts gwX3 hown hK hmH8.1 rfl 4 (by decide) k1094 (fun _ h => h) (v := .ref (w 1)) rfl dX3_age_46 ?_
        refine lv_iload_n hx hb dX3_age_49 rfl (lv_at hl 2 rfl) ?_
        refine r_aald (θ := θ) hx hb hK hmH8.2.1 (i := b) (by omega) (by decide) dX3_age_50 ?_
        have rw11 := (hmH8.2.2.2.1 (b.toNat) (by omega)).1
        have rw11n := (hmH8.2.2.2.1 (b.toNat) (by omega)).2
        have rw11t := hd (b.toNat) (by omega)
        have rw11l := rw11.lt
        have rw11i := inR rw11t
        have rw11m := inM rw11i
        have rw11d := dI_b (dt b.toNat)
        refine c_H (As := [.ref (r a.toNat), .ref (r b.toNat)]) (rest := []) fx hl (pm_X3_wholeOf θ l S0 _ hzH8 (r a.toNat) (r b.toNat) (dt a.toNat) rw10 (dt b.toNat) rw11 (by omega) (by omega)) dX3_age_51 k1236 k1237 k6 k1238 hd_X3_wholeOf rfl ⟨by decide, by decide⟩ (Nat.le_of_ble_eq_true rfl) ⟨by dsimp only; omega, by dsimp only; omega⟩ ?_
        refine q_nm (fun z12 ez12 => ?_)
        refine q_bip hx hb dX3_age_54 (by decide) ?_
        refine q_div hx hb dX3_age_56 (by omega) (by omega) ?_
        refine q_nm (fun z13 ez13 => ?_)
        have fz13 : 0 ≤ z12 → z13 = z12 / 12 := fun h => by rw [ez13, tdiv_pos h (by omega)]
        have gz13 : z12 < 0 → z13 = -((-z12) / 12) := fun h => by rw [ez13, tdiv_neg' h]
        clear ez13
        obtain rfl : t6 = 0 := by omega
        have hmw : MWR θ S0 w H8 r q dt sv 0 dn rf kn := ⟨hzH8, hu, hmH8, hd, hsv⟩
        exact e_i hx hb hr hlk hS dX3_age_57 (Nat.le_of_ble_eq_true rfl) (Nat.le_of_ble_eq_true rfl) ⟨ex_i (by subst_vars; first | omega | (simp only [up_s, tri_0, tri_1, tri_2, inI_self, inI_1, inI_31]; done) | (simp only [up_s, tri_0, tri_1, tri_2, inI_self, inI_1, inI_31]; omega) | (simp only [up_s, tri_0, tri_1, tri_2]; subst_vars; first | rfl | omega)), r, q, by first | exact hmw | (subst_vars; exact hmw) | (simp only [inI_self, inI_1, inI_31] at hmw; subst_vars; exact hmw), by first | exact nw_rf | exact nw_up (by omega) | exact nw_up2 (by omega), by first | exact nw_rf | exact nw_up (by omega) | exact nw_up2 (by omega)⟩
      · exact (show False by omega).elim
    · refine q_con hx hb dX3_age_23 ?_
      refine lv_goto (tgt := 28) hx hb dX3_age_24 (by decide) ?_
      refine q_con hx hb dX3_age_28 ?_
      obtain ⟨t14, f15, hq1t14, hq2t14⟩ := fails_ex r1 1 0 (by omega) (by omega) (by omega)
      have hmw : MWR θ S0 w s.heap r q dt sv th dn rf kn := ⟨hz, hu, hm, hd, hsv⟩
      refine c_M (w := w) (As := [.int (iI r1), .int (iI 1), .int (iI 0)]) (rest := []) (b := w 0) (C := RX3) fx hl (mw_fails θ l S0 _ w _ _ _ _ _ _ _ _ hmw r1 1 0 t14 f15 (by omega) hq1t14 hq2t14) (ob_recv hK hm.1 rfl) dX3_age_29 k1119 k1121 ks10 k6 k1122 hd_X3_fails rfl ⟨by decide, by decide⟩ (Nat.le_of_ble_eq_true rfl) ⟨by dsimp only; omega, by dsimp only; omega⟩ hS (fun x hx => hx ▸ Or.inl (Or.inl rfl)) (fun H16 locs hmH16 hszH16 hk0H16 hS => ?_)
      have hkH16 : ∀ x : Nat, x < (s.heap).size → ¬ x = w 0 → H16[x]? = (s.heap)[x]? := hk0H16
      have hzH16 := hz0.at hAB hS
      have hltH16 := hmH16.lt
      refine q_ieq (tgt := 39) hx hb dX3_age_32 (by decide) (by omega) (fun c17 => ?_) (fun c17 => ?_)
      · refine lv_aload_n hx hb dX3_age_39 rfl (lv_at hl 0 rfl) ?_
        refine r_get (θ := θ) (C := RX3) (T := TX3) (N := 6) (ci := 9) hx hb hts gwX3 hown hK hmH16.1 rfl 4 (by decide) k1094 (fun _ h => h) (v := .ref (w 1)) rfl dX3_age_40 ?_
        refine lv_iload_n hx hb dX3_age_43 rfl (lv_at hl 1 rfl) ?_
        refine r_aald (θ := θ) hx hb hK hmH16.2.1 (i := a) (by omega) (by decide) dX3_age_44 ?_
        have rw18 := (hmH16.2.2.2.1 (a.toNat) (by omega)).1
        have rw18n := (hmH16.2.2.2.1 (a.toNat) (by omega)).2
        have rw18t := hd (a.toNat) (by omega)
        have rw18l := rw18.lt
        have rw18i := inR rw18t
        have rw18m := inM rw18i
        have rw18d := dI_b (dt a.toNat)
        refine lv_aload_n hx hb dX3_age_45 rfl (lv_at hl 0 rfl) ?_
        refine r_get (θ := θ) (C := RX3) (T := TX3) (N := 6) (ci := 9) hx hb hts gwX3 hown hK hmH16.1 rfl 4 (by decide) k1094 (fun _ h => h) (v := .ref (w 1)) rfl dX3_age_46 ?_
        refine lv_iload_n hx hb dX3_age_49 rfl (lv_at hl 2 rfl) ?_
        refine r_aald (θ := θ) hx hb hK hmH16.2.1 (i := b) (by omega) (by decide) dX3_age_50 ?_
        have rw19 := (hmH16.2.2.2.1 (b.toNat) (by omega)).1
        have rw19n := (hmH16.2.2.2.1 (b.toNat) (by omega)).2
        have rw19t := hd (b.toNat) (by omega)
        have rw19l := rw19.lt
        have rw19i := inR rw19t
        have rw19m := inM rw19i
        have rw19d := dI_b (dt b.toNat)
        refine c_H (As := [.ref (r a.toNat), .ref (r b.toNat)]) (rest := []) fx hl (pm_X3_wholeOf θ l S0 _ hzH16 (r a.toNat) (r b.toNat) (dt a.toNat) rw18 (dt b.toNat) rw19 (by omega) (by omega)) dX3_age_51 k1236 k1237 k6 k1238 hd_X3_wholeOf rfl ⟨by decide, by decide⟩ (Nat.le_of_ble_eq_true rfl) ⟨by dsimp only; omega, by dsimp only; omega⟩ ?_
        refine q_nm (fun z20 ez20 => ?_)
        refine q_bip hx hb dX3_age_54 (by decide) ?_
        refine q_div hx hb dX3_age_56 (by omega) (by omega) ?_
        refine q_nm (fun z21 ez21 => ?_)
        have fz21 : 0 ≤ z20 → z21 = z20 / 12 := fun h => by rw [ez21, tdiv_pos h (by omega)]
        have gz21 : z20 < 0 → z21 = -((-z20) / 12) := fun h => by rw [ez21, tdiv_neg' h]
        clear ez21
        obtain rfl : t14 = 0 := by omega
        have hmw : MWR θ S0 w H16 r q dt sv 0 dn rf kn := ⟨hzH16, hu, hmH16, hd, hsv⟩
        exact e_i hx hb hr hlk hS dX3_age_57 (Nat.le_of_ble_eq_true rfl) (Nat.le_of_ble_eq_true rfl) ⟨ex_i (by subst_vars; first | omega | (simp only [up_s, tri_0, tri_1, tri_2, inI_self, inI_1, inI_31]; done) | (simp only [up_s, tri_0, tri_1, tri_2, inI_self, inI_1, inI_31]; omega) | (simp only [up_s, tri_0, tri_1, tri_2]; subst_vars; first | rfl | omega)), r, q, by first | exact hmw | (subst_vars; exact hmw) | (simp only [inI_self, inI_1, inI_31] at hmw; subst_vars; exact hmw), by first | exact nw_rf | exact nw_up (by omega) | exact nw_up2 (by omega), by first | exact nw_rf | exact nw_up (by omega) | exact nw_up2 (by omega)⟩
      · exact (show False by omega).elim

set_option maxHeartbeats 4000000 in
set_option maxRecDepth 100000 in
theorem mno1_age (θ : TH) (l : Launch) (S0 : State) (H : Heap) (w : Nat → Nat) (r q : Nat → Nat) (dt : Nat → Int) (sv : Nat → Nat → Int) (th dn rf kn : Int) (hw : MWR θ S0 w H r q dt sv th dn rf kn) (a b : Int) (h_0 : -2147483648 ≤ a ∧ a < 2147483648) (h_1 : -2147483648 ≤ b ∧ b < 2147483648) (h_2 : ¬ (0 ≤ a ∧ a < 6)) : CT l yX3_age cX3_age 3 (some .int) 3 63 0 0 [.ref (w 0), .int (iI a), .int (iI b)] S0 H (fun v9 H1 => v9 = some (.int (iI 0)) ∧ ∃ r1 q1 : Nat → Nat, MWR θ S0 w H1 r1 q1 dt sv 1 dn rf kn ∧ NW 6 H.size r r1 ∧ NW 3 H.size q q1) (fun _ _ => False) (WA w H.size) := by
  refine ct_of (by decide +kernel) (Nat.le_of_ble_eq_true rfl) ?_
  intro pg en s mi args below meth co ls fx hs hr hlk hxt hin hl
  subst hs
  obtain ⟨hx, hb, hml, hown, hts⟩ := id fx.1
  have hS : va_S (WA w s.heap.size) s.heap s.heap [] := va_S.rf
  obtain ⟨hz, hu, hm, hd, hsv⟩ := id hw
  have hAB : ∀ x : Nat, (WA w s.heap.size) x → θ.2.2.2 ≤ x := wa_b hu hz.2.1
  have hz0 := hz
  have hK := sz_K fx.2 hz
  have hlt0 := hm.lt
  have hu1 := hu.1
  have hAn : ∀ x : Nat, s.heap.size ≤ x → (WA w s.heap.size) x := fun _ h => Or.inr h
  refine lv_aload_n hx hb dX3_age_0 rfl (lv_at hl 0 rfl) ?_
  refine lv_iload_n hx hb dX3_age_1 rfl (lv_at hl 1 rfl) ?_
  refine lv_iload_n hx hb dX3_age_2 rfl (lv_at hl 2 rfl) ?_
  obtain ⟨r1, hr1⟩ := bex ((a < 0 ∨ 5 < a) ∨ (b < 0 ∨ 5 < b))
  refine c_P (As := [.int (iI a), .int (iI b)]) (rest := [.ref (w 0)]) fx hl (pm_X3_areNo l a b r1 hr1 (by omega) (by omega)) dX3_age_3 k1162 k1163 k6 k1164 hd_X3_areNo rfl ⟨by decide, by decide⟩ (Nat.le_of_ble_eq_true rfl) ⟨by dsimp only; omega, by dsimp only; omega⟩ ?_
  have br1 : r1 = 0 ∨ r1 = 1 := hr1.elim (fun h => Or.inr h.1) (fun h => Or.inl h.1)
  refine lv_iload_n hx hb dX3_age_6 rfl (lv_at hl 1 rfl) ?_
  refine lv_iload_n hx hb dX3_age_7 rfl (lv_at hl 2 rfl) ?_
  obtain ⟨r2, hr2⟩ := bex ((a < 0 ∨ 5 < a) ∨ (b < 0 ∨ 5 < b))
  refine c_P (As := [.int (iI a), .int (iI b)]) (rest := [.int (iI r1), .ref (w 0)]) fx hl (pm_X3_areNo l a b r2 hr2 (by omega) (by omega)) dX3_age_8 k1162 k1163 k6 k1164 hd_X3_areNo rfl ⟨by decide, by decide⟩ (Nat.le_of_ble_eq_true rfl) ⟨by dsimp only; omega, by dsimp only; omega⟩ ?_
  have br2 : r2 = 0 ∨ r2 = 1 := hr2.elim (fun h => Or.inr h.1) (fun h => Or.inl h.1)
  refine q_ine (tgt := 27) hx hb dX3_age_11 (by decide) (by omega) (fun c3 => ?_) (fun c3 => ?_)
  · refine q_con hx hb dX3_age_27 ?_
    refine q_con hx hb dX3_age_28 ?_
    obtain ⟨t4, f5, hq1t4, hq2t4⟩ := fails_ex r1 0 0 (by omega) (by omega) (by omega)
    have hmw : MWR θ S0 w s.heap r q dt sv th dn rf kn := ⟨hz, hu, hm, hd, hsv⟩
    refine c_M (w := w) (As := [.int (iI r1), .int (iI 0), .int (iI 0)]) (rest := []) (b := w 0) (C := RX3) fx hl (mw_fails θ l S0 _ w _ _ _ _ _ _ _ _ hmw r1 0 0 t4 f5 (by omega) hq1t4 hq2t4) (ob_recv hK hm.1 rfl) dX3_age_29 k1119 k1121 ks10 k6 k1122 hd_X3_fails rfl ⟨by decide, by decide⟩ (Nat.le_of_ble_eq_true rfl) ⟨by dsimp only; omega, by dsimp only; omega⟩ hS (fun x hx => hx ▸ Or.inl (Or.inl rfl)) (fun H6 locs hmH6 hszH6 hk0H6 hS => ?_)
    have hkH6 : ∀ x : Nat, x < (s.heap).size → ¬ x = w 0 → H6[x]? = (s.heap)[x]? := hk0H6
    have hzH6 := hz0.at hAB hS
    have hltH6 := hmH6.lt
    refine q_ieq (tgt := 39) hx hb dX3_age_32 (by decide) (by omega) (fun c7 => ?_) (fun c7 => ?_)
    · exact (show False by omega).elim
    · refine q_con hx hb dX3_age_35 ?_
      refine lv_goto (tgt := 57) hx hb dX3_age_36 (by decide) ?_
      obtain rfl : t4 = 1 := by omega
      have hmw : MWR θ S0 w H6 r q dt sv 1 dn rf kn := ⟨hzH6, hu, hmH6, hd, hsv⟩
      exact e_i hx hb hr hlk hS dX3_age_57 (Nat.le_of_ble_eq_true rfl) (Nat.le_of_ble_eq_true rfl) ⟨ex_i (by omega), r, q, by first | exact hmw | (subst_vars; exact hmw) | (simp only [inI_self, inI_1, inI_31] at hmw; subst_vars; exact hmw), by first | exact nw_rf | exact nw_up (by omega) | exact nw_up2 (by omega), by first | exact nw_rf | exact nw_up (by omega) | exact nw_up2 (by omega)⟩
  · exact (show False by omega).elim

set_option maxHeartbeats 4000000 in
set_option maxRecDepth 100000 in
theorem mno2_age (θ : TH) (l : Launch) (S0 : State) (H : Heap) (w : Nat → Nat) (r q : Nat → Nat) (dt : Nat → Int) (sv : Nat → Nat → Int) (th dn rf kn : Int) (hw : MWR θ S0 w H r q dt sv th dn rf kn) (a b : Int) (h_0 : -2147483648 ≤ a ∧ a < 2147483648) (h_1 : -2147483648 ≤ b ∧ b < 2147483648) (h_2 : 0 ≤ a ∧ a < 6) (h_3 : ¬ (0 ≤ b ∧ b < 6)) : CT l yX3_age cX3_age 3 (some .int) 3 63 0 0 [.ref (w 0), .int (iI a), .int (iI b)] S0 H (fun v9 H1 => v9 = some (.int (iI 0)) ∧ ∃ r1 q1 : Nat → Nat, MWR θ S0 w H1 r1 q1 dt sv 1 dn rf kn ∧ NW 6 H.size r r1 ∧ NW 3 H.size q q1) (fun _ _ => False) (WA w H.size) := by
  refine ct_of (by decide +kernel) (Nat.le_of_ble_eq_true rfl) ?_
  intro pg en s mi args below meth co ls fx hs hr hlk hxt hin hl
  subst hs
  obtain ⟨hx, hb, hml, hown, hts⟩ := id fx.1
  have hS : va_S (WA w s.heap.size) s.heap s.heap [] := va_S.rf
  obtain ⟨hz, hu, hm, hd, hsv⟩ := id hw
  have hAB : ∀ x : Nat, (WA w s.heap.size) x → θ.2.2.2 ≤ x := wa_b hu hz.2.1
  have hz0 := hz
  have hK := sz_K fx.2 hz
  have hlt0 := hm.lt
  have hu1 := hu.1
  have hAn : ∀ x : Nat, s.heap.size ≤ x → (WA w s.heap.size) x := fun _ h => Or.inr h
  refine lv_aload_n hx hb dX3_age_0 rfl (lv_at hl 0 rfl) ?_
  refine lv_iload_n hx hb dX3_age_1 rfl (lv_at hl 1 rfl) ?_
  refine lv_iload_n hx hb dX3_age_2 rfl (lv_at hl 2 rfl) ?_
  obtain ⟨r1, hr1⟩ := bex ((a < 0 ∨ 5 < a) ∨ (b < 0 ∨ 5 < b))
  refine c_P (As := [.int (iI a), .int (iI b)]) (rest := [.ref (w 0)]) fx hl (pm_X3_areNo l a b r1 hr1 (by omega) (by omega)) dX3_age_3 k1162 k1163 k6 k1164 hd_X3_areNo rfl ⟨by decide, by decide⟩ (Nat.le_of_ble_eq_true rfl) ⟨by dsimp only; omega, by dsimp only; omega⟩ ?_
  have br1 : r1 = 0 ∨ r1 = 1 := hr1.elim (fun h => Or.inr h.1) (fun h => Or.inl h.1)
  refine lv_iload_n hx hb dX3_age_6 rfl (lv_at hl 1 rfl) ?_
  refine lv_iload_n hx hb dX3_age_7 rfl (lv_at hl 2 rfl) ?_
  obtain ⟨r2, hr2⟩ := bex ((a < 0 ∨ 5 < a) ∨ (b < 0 ∨ 5 < b))
  refine c_P (As := [.int (iI a), .int (iI b)]) (rest := [.int (iI r1), .ref (w 0)]) fx hl (pm_X3_areNo l a b r2 hr2 (by omega) (by omega)) dX3_age_8 k1162 k1163 k6 k1164 hd_X3_areNo rfl ⟨by decide, by decide⟩ (Nat.le_of_ble_eq_true rfl) ⟨by dsimp only; omega, by dsimp only; omega⟩ ?_
  have br2 : r2 = 0 ∨ r2 = 1 := hr2.elim (fun h => Or.inr h.1) (fun h => Or.inl h.1)
  refine q_ine (tgt := 27) hx hb dX3_age_11 (by decide) (by omega) (fun c3 => ?_) (fun c3 => ?_)
  · refine q_con hx hb dX3_age_27 ?_
    refine q_con hx hb dX3_age_28 ?_
    obtain ⟨t4, f5, hq1t4, hq2t4⟩ := fails_ex r1 0 0 (by omega) (by omega) (by omega)
    have hmw : MWR θ S0 w s.heap r q dt sv th dn rf kn := ⟨hz, hu, hm, hd, hsv⟩
    refine c_M (w := w) (As := [.int (iI r1), .int (iI 0), .int (iI 0)]) (rest := []) (b := w 0) (C := RX3) fx hl (mw_fails θ l S0 _ w _ _ _ _ _ _ _ _ hmw r1 0 0 t4 f5 (by omega) hq1t4 hq2t4) (ob_recv hK hm.1 rfl) dX3_age_29 k1119 k1121 ks10 k6 k1122 hd_X3_fails rfl ⟨by decide, by decide⟩ (Nat.le_of_ble_eq_true rfl) ⟨by dsimp only; omega, by dsimp only; omega⟩ hS (fun x hx => hx ▸ Or.inl (Or.inl rfl)) (fun H6 locs hmH6 hszH6 hk0H6 hS => ?_)
    have hkH6 : ∀ x : Nat, x < (s.heap).size → ¬ x = w 0 → H6[x]? = (s.heap)[x]? := hk0H6
    have hzH6 := hz0.at hAB hS
    have hltH6 := hmH6.lt
    refine q_ieq (tgt := 39) hx hb dX3_age_32 (by decide) (by omega) (fun c7 => ?_) (fun c7 => ?_)
    · exact (show False by omega).elim
    · refine q_con hx hb dX3_age_35 ?_
      refine lv_goto (tgt := 57) hx hb dX3_age_36 (by decide) ?_
      obtain rfl : t4 = 1 := by omega
      have hmw : MWR θ S0 w H6 r q dt sv 1 dn rf kn := ⟨hzH6, hu, hmH6, hd, hsv⟩
      exact e_i hx hb hr hlk hS dX3_age_57 (Nat.le_of_ble_eq_true rfl) (Nat.le_of_ble_eq_true rfl) ⟨ex_i (by omega), r, q, by first | exact hmw | (subst_vars; exact hmw) | (simp only [inI_self, inI_1, inI_31] at hmw; subst_vars; exact hmw), by first | exact nw_rf | exact nw_up (by omega) | exact nw_up2 (by omega), by first | exact nw_rf | exact nw_up (by omega) | exact nw_up2 (by omega)⟩
  · exact (show False by omega).elim

set_option maxHeartbeats 4000000 in
set_option maxRecDepth 100000 in
theorem mno3_age (θ : TH) (l : Launch) (S0 : State) (H : Heap) (w : Nat → Nat) (r q : Nat → Nat) (dt : Nat → Int) (sv : Nat → Nat → Int) (th dn rf kn : Int) (hw : MWR θ S0 w H r q dt sv th dn rf kn) (a b : Int) (h_0 : -2147483648 ≤ a ∧ a < 2147483648) (h_1 : -2147483648 ≤ b ∧ b < 2147483648) (h_2 : 0 ≤ a ∧ a < 6) (h_3 : 0 ≤ b ∧ b < 6) (h_4 : ¬ (dt a.toNat ≤ dt b.toNat)) : CT l yX3_age cX3_age 3 (some .int) 8 170 0 0 [.ref (w 0), .int (iI a), .int (iI b)] S0 H (fun v9 H1 => v9 = some (.int (iI 0)) ∧ ∃ r1 q1 : Nat → Nat, MWR θ S0 w H1 r1 q1 dt sv 2 dn rf kn ∧ NW 6 H.size r r1 ∧ NW 3 H.size q q1) (fun _ _ => False) (WA w H.size) := by
  refine ct_of (by decide +kernel) (Nat.le_of_ble_eq_true rfl) ?_
  intro pg en s mi args below meth co ls fx hs hr hlk hxt hin hl
  subst hs
  obtain ⟨hx, hb, hml, hown, hts⟩ := id fx.1
  have hS : va_S (WA w s.heap.size) s.heap s.heap [] := va_S.rf
  obtain ⟨hz, hu, hm, hd, hsv⟩ := id hw
  have hAB : ∀ x : Nat, (WA w s.heap.size) x → θ.2.2.2 ≤ x := wa_b hu hz.2.1
  have hz0 := hz
  have hK := sz_K fx.2 hz
  have hlt0 := hm.lt
  have hu1 := hu.1
  have hAn : ∀ x : Nat, s.heap.size ≤ x → (WA w s.heap.size) x := fun _ h => Or.inr h
  refine lv_aload_n hx hb dX3_age_0 rfl (lv_at hl 0 rfl) ?_
  refine lv_iload_n hx hb dX3_age_1 rfl (lv_at hl 1 rfl) ?_
  refine lv_iload_n hx hb dX3_age_2 rfl (lv_at hl 2 rfl) ?_
  obtain ⟨r1, hr1⟩ := bex ((a < 0 ∨ 5 < a) ∨ (b < 0 ∨ 5 < b))
  refine c_P (As := [.int (iI a), .int (iI b)]) (rest := [.ref (w 0)]) fx hl (pm_X3_areNo l a b r1 hr1 (by omega) (by omega)) dX3_age_3 k1162 k1163 k6 k1164 hd_X3_areNo rfl ⟨by decide, by decide⟩ (Nat.le_of_ble_eq_true rfl) ⟨by dsimp only; omega, by dsimp only; omega⟩ ?_
  have br1 : r1 = 0 ∨ r1 = 1 := hr1.elim (fun h => Or.inr h.1) (fun h => Or.inl h.1)
  refine lv_iload_n hx hb dX3_age_6 rfl (lv_at hl 1 rfl) ?_
  refine lv_iload_n hx hb dX3_age_7 rfl (lv_at hl 2 rfl) ?_
  obtain ⟨r2, hr2⟩ := bex ((a < 0 ∨ 5 < a) ∨ (b < 0 ∨ 5 < b))
  refine c_P (As := [.int (iI a), .int (iI b)]) (rest := [.int (iI r1), .ref (w 0)]) fx hl (pm_X3_areNo l a b r2 hr2 (by omega) (by omega)) dX3_age_8 k1162 k1163 k6 k1164 hd_X3_areNo rfl ⟨by decide, by decide⟩ (Nat.le_of_ble_eq_true rfl) ⟨by dsimp only; omega, by dsimp only; omega⟩ ?_
  have br2 : r2 = 0 ∨ r2 = 1 := hr2.elim (fun h => Or.inr h.1) (fun h => Or.inl h.1)
  refine q_ine (tgt := 27) hx hb dX3_age_11 (by decide) (by omega) (fun c3 => ?_) (fun c3 => ?_)
  · exact (show False by omega).elim
  · refine lv_aload_n hx hb dX3_age_14 rfl (lv_at hl 0 rfl) ?_
    refine lv_iload_n hx hb dX3_age_15 rfl (lv_at hl 2 rfl) ?_
    refine lv_iload_n hx hb dX3_age_16 rfl (lv_at hl 1 rfl) ?_
    obtain ⟨r4, hr4⟩ := bex (dt b.toNat < dt a.toNat)
    have hmw : MWR θ S0 w s.heap r q dt sv th dn rf kn := ⟨hz, hu, hm, hd, hsv⟩
    refine c_HV (As := [.int (iI b), .int (iI a)]) (rest := [.int (iI r1), .ref (w 0)]) (b := w 0) (C := RX3) fx hl (mr_isAhead θ l S0 _ w _ _ _ _ _ _ _ _ hmw b a r4 hr4 (by omega) (by omega)) (ob_recv hK hm.1 rfl) dX3_age_17 k1232 k1234 ks15 k6 k1235 hd_X3_isAhead rfl ⟨by decide, by decide⟩ (Nat.le_of_ble_eq_true rfl) ⟨by dsimp only; omega, by dsimp only; omega⟩ ?_
    have br4 : r4 = 0 ∨ r4 = 1 := hr4.elim (fun h => Or.inr h.1) (fun h => Or.inl h.1)
    refine q_ieq (tgt := 27) hx hb dX3_age_20 (by decide) (by omega) (fun c5 => ?_) (fun c5 => ?_)
    · refine q_con hx hb dX3_age_27 ?_
      refine q_con hx hb dX3_age_28 ?_
      obtain ⟨t6, f7, hq1t6, hq2t6⟩ := fails_ex r1 0 0 (by omega) (by omega) (by omega)
      have hmw : MWR θ S0 w s.heap r q dt sv th dn rf kn := ⟨hz, hu, hm, hd, hsv⟩
      refine c_M (w := w) (As := [.int (iI r1), .int (iI 0), .int (iI 0)]) (rest := []) (b := w 0) (C := RX3) fx hl (mw_fails θ l S0 _ w _ _ _ _ _ _ _ _ hmw r1 0 0 t6 f7 (by omega) hq1t6 hq2t6) (ob_recv hK hm.1 rfl) dX3_age_29 k1119 k1121 ks10 k6 k1122 hd_X3_fails rfl ⟨by decide, by decide⟩ (Nat.le_of_ble_eq_true rfl) ⟨by dsimp only; omega, by dsimp only; omega⟩ hS (fun x hx => hx ▸ Or.inl (Or.inl rfl)) (fun H8 locs hmH8 hszH8 hk0H8 hS => ?_)
      have hkH8 : ∀ x : Nat, x < (s.heap).size → ¬ x = w 0 → H8[x]? = (s.heap)[x]? := hk0H8
      have hzH8 := hz0.at hAB hS
      have hltH8 := hmH8.lt
      refine q_ieq (tgt := 39) hx hb dX3_age_32 (by decide) (by omega) (fun c9 => ?_) (fun c9 => ?_)
      · exact (show False by omega).elim
      · refine q_con hx hb dX3_age_35 ?_
        refine lv_goto (tgt := 57) hx hb dX3_age_36 (by decide) ?_
        obtain rfl : t6 = 2 := by omega
        have hmw : MWR θ S0 w H8 r q dt sv 2 dn rf kn := ⟨hzH8, hu, hmH8, hd, hsv⟩
        exact e_i hx hb hr hlk hS dX3_age_57 (Nat.le_of_ble_eq_true rfl) (Nat.le_of_ble_eq_true rfl) ⟨ex_i (by omega), r, q, by first | exact hmw | (subst_vars; exact hmw) | (simp only [inI_self, inI_1, inI_31] at hmw; subst_vars; exact hmw), by first | exact nw_rf | exact nw_up (by omega) | exact nw_up2 (by omega), by first | exact nw_rf | exact nw_up (by omega) | exact nw_up2 (by omega)⟩
    · refine q_con hx hb dX3_age_23 ?_
      refine lv_goto (tgt := 28) hx hb dX3_age_24 (by decide) ?_
      refine q_con hx hb dX3_age_28 ?_
      obtain ⟨t10, f11, hq1t10, hq2t10⟩ := fails_ex r1 1 0 (by omega) (by omega) (by omega)
      have hmw : MWR θ S0 w s.heap r q dt sv th dn rf kn := ⟨hz, hu, hm, hd, hsv⟩
      refine c_M (w := w) (As := [.int (iI r1), .int (iI 1), .int (iI 0)]) (rest := []) (b := w 0) (C := RX3) fx hl (mw_fails θ l S0 _ w _ _ _ _ _ _ _ _ hmw r1 1 0 t10 f11 (by omega) hq1t10 hq2t10) (ob_recv hK hm.1 rfl) dX3_age_29 k1119 k1121 ks10 k6 k1122 hd_X3_fails rfl ⟨by decide, by decide⟩ (Nat.le_of_ble_eq_true rfl) ⟨by dsimp only; omega, by dsimp only; omega⟩ hS (fun x hx => hx ▸ Or.inl (Or.inl rfl)) (fun H12 locs hmH12 hszH12 hk0H12 hS => ?_)
      have hkH12 : ∀ x : Nat, x < (s.heap).size → ¬ x = w 0 → H12[x]? = (s.heap)[x]? := hk0H12
      have hzH12 := hz0.at hAB hS
      have hltH12 := hmH12.lt
      refine q_ieq (tgt := 39) hx hb dX3_age_32 (by decide) (by omega) (fun c13 => ?_) (fun c13 => ?_)
      · exact (show False by omega).elim
      · refine q_con hx hb dX3_age_35 ?_
        refine lv_goto (tgt := 57) hx hb dX3_age_36 (by decide) ?_
        obtain rfl : t10 = 2 := by omega
        have hmw : MWR θ S0 w H12 r q dt sv 2 dn rf kn := ⟨hzH12, hu, hmH12, hd, hsv⟩
        exact e_i hx hb hr hlk hS dX3_age_57 (Nat.le_of_ble_eq_true rfl) (Nat.le_of_ble_eq_true rfl) ⟨ex_i (by omega), r, q, by first | exact hmw | (subst_vars; exact hmw) | (simp only [inI_self, inI_1, inI_31] at hmw; subst_vars; exact hmw), by first | exact nw_rf | exact nw_up (by omega) | exact nw_up2 (by omega), by first | exact nw_rf | exact nw_up (by omega) | exact nw_up2 (by omega)⟩

set_option maxHeartbeats 4000000 in
set_option maxRecDepth 100000 in
theorem mr_monthsNow (θ : TH) (l : Launch) (S0 : State) (H : Heap) (w : Nat → Nat) (r q : Nat → Nat) (dt : Nat → Int) (sv : Nat → Nat → Int) (th dn rf kn : Int) (hw : MWR θ S0 w H r q dt sv th dn rf kn) (a b : Int) (h_0 : 0 ≤ a ∧ a < 6) (h_1 : 0 ≤ b ∧ b < 6) : CT l yX3_monthsNow cX3_monthsNow 3 (some .int) 8 170 0 0 [.ref (w 0), .int (iI a), .int (iI b)] S0 H (fun v H1 => v = some (.int (iI (if dt b.toNat < dt a.toNat then -muI (dt b.toNat) (dt a.toNat) else muI (dt a.toNat) (dt b.toNat)))) ∧ H1 = H) (fun _ _ => False) (fun _ => False) := by
  refine ct_of (by decide +kernel) (Nat.le_of_ble_eq_true rfl) ?_
  intro pg en s mi args below meth co ls fx hs hr hlk hxt hin hl
  subst hs
  obtain ⟨hx, hb, hml, hown, hts⟩ := id fx.1
  have hS : va_S (fun _ : Nat => False) s.heap s.heap [] := va_S.rf
  obtain ⟨hz, hu, hm, hd, hsv⟩ := id hw
  have hAB : ∀ x : Nat, (fun _ : Nat => False) x → θ.2.2.2 ≤ x := fun _ h => h.elim
  have hz0 := hz
  have hK := sz_K fx.2 hz
  have hlt0 := hm.lt
  have hu1 := hu.1
  have tm1 : muI (dt a.toNat) (dt b.toNat) = (if dI (dt b.toNat) < dI (dt a.toNat) then mI (dt b.toNat) - mI (dt a.toNat) - 1 else mI (dt b.toNat) - mI (dt a.toNat)) := rfl
  have tm2 : muI (dt b.toNat) (dt a.toNat) = (if dI (dt a.toNat) < dI (dt b.toNat) then mI (dt a.toNat) - mI (dt b.toNat) - 1 else mI (dt a.toNat) - mI (dt b.toNat)) := rfl
  refine lv_aload_n hx hb dX3_monthsNow_0 rfl (lv_at hl 0 rfl) ?_
  refine lv_iload_n hx hb dX3_monthsNow_1 rfl (lv_at hl 2 rfl) ?_
  refine lv_iload_n hx hb dX3_monthsNow_2 rfl (lv_at hl 1 rfl) ?_
  obtain ⟨r1, hr1⟩ := bex (dt b.toNat < dt a.toNat)
  have hmw : MWR θ S0 w s.heap r q dt sv th dn rf kn := ⟨hz, hu, hm, hd, hsv⟩
  refine c_HV (As := [.int (iI b), .int (iI a)]) (rest := []) (b := w 0) (C := RX3) fx hl (mr_isAhead θ l S0 _ w _ _ _ _ _ _ _ _ hmw b a r1 hr1 (by omega) (by omega)) (ob_recv hK hm.1 rfl) dX3_monthsNow_3 k1232 k1234 ks15 k6 k1235 hd_X3_isAhead rfl ⟨by decide, by decide⟩ (Nat.le_of_ble_eq_true rfl) ⟨by dsimp only; omega, by dsimp only; omega⟩ ?_
  have br1 : r1 = 0 ∨ r1 = 1 := hr1.elim (fun h => Or.inr h.1) (fun h => Or.inl h.1)
  refine q_ieq (tgt := 28) hx hb dX3_monthsNow_6 (by decide) (by omega) (fun c2 => ?_) (fun c2 => ?_)
  · refine lv_aload_n hx hb dX3_monthsNow_28 rfl (lv_at hl 0 rfl) ?_
    refine r_get (θ := θ) (C := RX3) (T := TX3) (N := 6) (ci := 9) hx hb hts gwX3 hown hK hm.1 rfl 4 (by decide) k1094 (fun _ h => h) (v := .ref (w 1)) rfl dX3_monthsNow_29 ?_
    refine lv_iload_n hx hb dX3_monthsNow_32 rfl (lv_at hl 1 rfl) ?_
    refine r_aald (θ := θ) hx hb hK hm.2.1 (i := a) (by omega) (by decide) dX3_monthsNow_33 ?_
    have rw3 := (hm.2.2.2.1 (a.toNat) (by omega)).1
    have rw3n := (hm.2.2.2.1 (a.toNat) (by omega)).2
    have rw3t := hd (a.toNat) (by omega)
    have rw3l := rw3.lt
    have rw3i := inR rw3t
    have rw3m := inM rw3i
    have rw3d := dI_b (dt a.toNat)
    refine lv_aload_n hx hb dX3_monthsNow_34 rfl (lv_at hl 0 rfl) ?_
    refine r_get (θ := θ) (C := RX3) (T := TX3) (N := 6) (ci := 9) hx hb hts gwX3 hown hK hm.1 rfl 4 (by decide) k1094 (fun _ h => h) (v := .ref (w 1)) rfl dX3_monthsNow_35 ?_
    refine lv_iload_n hx hb dX3_monthsNow_38 rfl (lv_at hl 2 rfl) ?_
    refine r_aald (θ := θ) hx hb hK hm.2.1 (i := b) (by omega) (by decide) dX3_monthsNow_39 ?_
    have rw4 := (hm.2.2.2.1 (b.toNat) (by omega)).1
    have rw4n := (hm.2.2.2.1 (b.toNat) (by omega)).2
    have rw4t := hd (b.toNat) (by omega)
    have rw4l := rw4.lt
    have rw4i := inR rw4t
    have rw4m := inM rw4i
    have rw4d := dI_b (dt b.toNat)
    refine c_H (As := [.ref (r a.toNat), .ref (r b.toNat)]) (rest := []) fx hl (pm_X3_wholeOf θ l S0 _ hz (r a.toNat) (r b.toNat) (dt a.toNat) rw3 (dt b.toNat) rw4 (by omega) (by omega)) dX3_monthsNow_40 k1236 k1237 k6 k1238 hd_X3_wholeOf rfl ⟨by decide, by decide⟩ (Nat.le_of_ble_eq_true rfl) ⟨by dsimp only; omega, by dsimp only; omega⟩ ?_
    refine q_nm (fun z5 ez5 => ?_)
    exact e_i hx hb hr hlk hS dX3_monthsNow_43 (Nat.le_refl _) (Nat.le_refl _) ⟨ex_i (by (subst_vars; split <;> omega)), rfl⟩
  · refine lv_aload_n hx hb dX3_monthsNow_9 rfl (lv_at hl 0 rfl) ?_
    refine r_get (θ := θ) (C := RX3) (T := TX3) (N := 6) (ci := 9) hx hb hts gwX3 hown hK hm.1 rfl 4 (by decide) k1094 (fun _ h => h) (v := .ref (w 1)) rfl dX3_monthsNow_10 ?_
    refine lv_iload_n hx hb dX3_monthsNow_13 rfl (lv_at hl 2 rfl) ?_
    refine r_aald (θ := θ) hx hb hK hm.2.1 (i := b) (by omega) (by decide) dX3_monthsNow_14 ?_
    have rw6 := (hm.2.2.2.1 (b.toNat) (by omega)).1
    have rw6n := (hm.2.2.2.1 (b.toNat) (by omega)).2
    have rw6t := hd (b.toNat) (by omega)
    have rw6l := rw6.lt
    have rw6i := inR rw6t
    have rw6m := inM rw6i
    have rw6d := dI_b (dt b.toNat)
    refine lv_aload_n hx hb dX3_monthsNow_15 rfl (lv_at hl 0 rfl) ?_
    refine r_get (θ := θ) (C := RX3) (T := TX3) (N := 6) (ci := 9) hx hb hts gwX3 hown hK hm.1 rfl 4 (by decide) k1094 (fun _ h => h) (v := .ref (w 1)) rfl dX3_monthsNow_16 ?_
    refine lv_iload_n hx hb dX3_monthsNow_19 rfl (lv_at hl 1 rfl) ?_
    refine r_aald (θ := θ) hx hb hK hm.2.1 (i := a) (by omega) (by decide) dX3_monthsNow_20 ?_
    have rw7 := (hm.2.2.2.1 (a.toNat) (by omega)).1
    have rw7n := (hm.2.2.2.1 (a.toNat) (by omega)).2
    have rw7t := hd (a.toNat) (by omega)
    have rw7l := rw7.lt
    have rw7i := inR rw7t
    have rw7m := inM rw7i
    have rw7d := dI_b (dt a.toNat)
    refine c_H (As := [.ref (r b.toNat), .ref (r a.toNat)]) (rest := []) fx hl (pm_X3_wholeOf θ l S0 _ hz (r b.toNat) (r a.toNat) (dt b.toNat) rw6 (dt a.toNat) rw7 (by omega) (by omega)) dX3_monthsNow_21 k1236 k1237 k6 k1238 hd_X3_wholeOf rfl ⟨by decide, by decide⟩ (Nat.le_of_ble_eq_true rfl) ⟨by dsimp only; omega, by dsimp only; omega⟩ ?_
    refine q_nm (fun z8 ez8 => ?_)
    refine q_neg hx hb dX3_monthsNow_24 ?_
    refine lv_goto (tgt := 43) hx hb dX3_monthsNow_25 (by decide) ?_
    exact e_i hx hb hr hlk hS dX3_monthsNow_43 (Nat.le_refl _) (Nat.le_refl _) ⟨ex_i (by (subst_vars; split <;> omega)), rfl⟩

set_option maxHeartbeats 4000000 in
set_option maxRecDepth 100000 in
theorem mok_wholeMonths (θ : TH) (l : Launch) (S0 : State) (H : Heap) (w : Nat → Nat) (r q : Nat → Nat) (dt : Nat → Int) (sv : Nat → Nat → Int) (th dn rf kn : Int) (hw : MWR θ S0 w H r q dt sv th dn rf kn) (a b : Int) (h_0 : -2147483648 ≤ a ∧ a < 2147483648) (h_1 : -2147483648 ≤ b ∧ b < 2147483648) (h_2 : 0 ≤ a ∧ a < 6) (h_3 : 0 ≤ b ∧ b < 6) : CT l yX3_wholeMonths cX3_wholeMonths 3 (some .int) 9 192 0 0 [.ref (w 0), .int (iI a), .int (iI b)] S0 H (fun v9 H1 => v9 = some (.int (iI (if dt b.toNat < dt a.toNat then -muI (dt b.toNat) (dt a.toNat) else muI (dt a.toNat) (dt b.toNat)))) ∧ ∃ r1 q1 : Nat → Nat, MWR θ S0 w H1 r1 q1 dt sv 0 dn rf kn ∧ NW 6 H.size r r1 ∧ NW 3 H.size q q1) (fun _ _ => False) (WA w H.size) := by
  refine ct_of (by decide +kernel) (Nat.le_of_ble_eq_true rfl) ?_
  intro pg en s mi args below meth co ls fx hs hr hlk hxt hin hl
  subst hs
  obtain ⟨hx, hb, hml, hown, hts⟩ := id fx.1
  have hS : va_S (WA w s.heap.size) s.heap s.heap [] := va_S.rf
  obtain ⟨hz, hu, hm, hd, hsv⟩ := id hw
  have hAB : ∀ x : Nat, (WA w s.heap.size) x → θ.2.2.2 ≤ x := wa_b hu hz.2.1
  have hz0 := hz
  have hK := sz_K fx.2 hz
  have hlt0 := hm.lt
  have hu1 := hu.1
  have hAn : ∀ x : Nat, s.heap.size ≤ x → (WA w s.heap.size) x := fun _ h => Or.inr h
  refine lv_aload_n hx hb dX3_wholeMonths_0 rfl (lv_at hl 0 rfl) ?_
  refine lv_iload_n hx hb dX3_wholeMonths_1 rfl (lv_at hl 1 rfl) ?_
  refine lv_iload_n hx hb dX3_wholeMonths_2 rfl (lv_at hl 2 rfl) ?_
  obtain ⟨r1, hr1⟩ := bex ((a < 0 ∨ 5 < a) ∨ (b < 0 ∨ 5 < b))
  refine c_P (As := [.int (iI a), .int (iI b)]) (rest := [.ref (w 0)]) fx hl (pm_X3_areNo l a b r1 hr1 (by omega) (by omega)) dX3_wholeMonths_3 k1162 k1163 k6 k1164 hd_X3_areNo rfl ⟨by decide, by decide⟩ (Nat.le_of_ble_eq_true rfl) ⟨by dsimp only; omega, by dsimp only; omega⟩ ?_
  have br1 : r1 = 0 ∨ r1 = 1 := hr1.elim (fun h => Or.inr h.1) (fun h => Or.inl h.1)
  refine q_con hx hb dX3_wholeMonths_6 ?_
  refine q_con hx hb dX3_wholeMonths_7 ?_
  obtain ⟨t2, f3, hq1t2, hq2t2⟩ := fails_ex r1 0 0 (by omega) (by omega) (by omega)
  have hmw : MWR θ S0 w s.heap r q dt sv th dn rf kn := ⟨hz, hu, hm, hd, hsv⟩
  refine c_M (w := w) (As := [.int (iI r1), .int (iI 0), .int (iI 0)]) (rest := []) (b := w 0) (C := RX3) fx hl (mw_fails θ l S0 _ w _ _ _ _ _ _ _ _ hmw r1 0 0 t2 f3 (by omega) hq1t2 hq2t2) (ob_recv hK hm.1 rfl) dX3_wholeMonths_8 k1119 k1121 ks10 k6 k1122 hd_X3_fails rfl ⟨by decide, by decide⟩ (Nat.le_of_ble_eq_true rfl) ⟨by dsimp only; omega, by dsimp only; omega⟩ hS (fun x hx => hx ▸ Or.inl (Or.inl rfl)) (fun H4 locs hmH4 hszH4 hk0H4 hS => ?_)
  have hkH4 : ∀ x : Nat, x < (s.heap).size → ¬ x = w 0 → H4[x]? = (s.heap)[x]? := hk0H4
  have hzH4 := hz0.at hAB hS
  have hltH4 := hmH4.lt
  refine q_ieq (tgt := 18) hx hb dX3_wholeMonths_11 (by decide) (by omega) (fun c5 => ?_) (fun c5 => ?_)
  · refine lv_aload_n hx hb dX3_wholeMonths_18 rfl (lv_at hl 0 rfl) ?_
    refine lv_iload_n hx hb dX3_wholeMonths_19 rfl (lv_at hl 1 rfl) ?_
    refine lv_iload_n hx hb dX3_wholeMonths_20 rfl (lv_at hl 2 rfl) ?_
    have hmw : MWR θ S0 w H4 r q dt sv t2 dn rf kn := ⟨hzH4, hu, hmH4, hd, hsv⟩
    refine c_HV (As := [.int (iI a), .int (iI b)]) (rest := []) (b := w 0) (C := RX3) fx hl (mr_monthsNow θ l S0 _ w _ _ _ _ _ _ _ _ hmw a b (by omega) (by omega)) (ob_recv hK hmH4.1 rfl) dX3_wholeMonths_21 k1544 k1546 ks29 k6 k1547 hd_X3_monthsNow rfl ⟨by decide, by decide⟩ (Nat.le_of_ble_eq_true rfl) ⟨by dsimp only; omega, by dsimp only; omega⟩ ?_
    refine q_nm (fun z6 ez6 => ?_)
    obtain rfl : t2 = 0 := by omega
    have hmw : MWR θ S0 w H4 r q dt sv 0 dn rf kn := ⟨hzH4, hu, hmH4, hd, hsv⟩
    exact e_i hx hb hr hlk hS dX3_wholeMonths_24 (Nat.le_of_ble_eq_true rfl) (Nat.le_of_ble_eq_true rfl) ⟨ex_i (by subst_vars; first | omega | (simp only [up_s, tri_0, tri_1, tri_2, inI_self, inI_1, inI_31]; done) | (simp only [up_s, tri_0, tri_1, tri_2, inI_self, inI_1, inI_31]; omega) | (simp only [up_s, tri_0, tri_1, tri_2]; subst_vars; first | rfl | omega)), r, q, by first | exact hmw | (subst_vars; exact hmw) | (simp only [inI_self, inI_1, inI_31] at hmw; subst_vars; exact hmw), by first | exact nw_rf | exact nw_up (by omega) | exact nw_up2 (by omega), by first | exact nw_rf | exact nw_up (by omega) | exact nw_up2 (by omega)⟩
  · exact (show False by omega).elim

set_option maxHeartbeats 4000000 in
set_option maxRecDepth 100000 in
theorem mno1_wholeMonths (θ : TH) (l : Launch) (S0 : State) (H : Heap) (w : Nat → Nat) (r q : Nat → Nat) (dt : Nat → Int) (sv : Nat → Nat → Int) (th dn rf kn : Int) (hw : MWR θ S0 w H r q dt sv th dn rf kn) (a b : Int) (h_0 : -2147483648 ≤ a ∧ a < 2147483648) (h_1 : -2147483648 ≤ b ∧ b < 2147483648) (h_2 : ¬ (0 ≤ a ∧ a < 6)) : CT l yX3_wholeMonths cX3_wholeMonths 3 (some .int) 3 63 0 0 [.ref (w 0), .int (iI a), .int (iI b)] S0 H (fun v9 H1 => v9 = some (.int (iI 0)) ∧ ∃ r1 q1 : Nat → Nat, MWR θ S0 w H1 r1 q1 dt sv 1 dn rf kn ∧ NW 6 H.size r r1 ∧ NW 3 H.size q q1) (fun _ _ => False) (WA w H.size) := by
  refine ct_of (by decide +kernel) (Nat.le_of_ble_eq_true rfl) ?_
  intro pg en s mi args below meth co ls fx hs hr hlk hxt hin hl
  subst hs
  obtain ⟨hx, hb, hml, hown, hts⟩ := id fx.1
  have hS : va_S (WA w s.heap.size) s.heap s.heap [] := va_S.rf
  obtain ⟨hz, hu, hm, hd, hsv⟩ := id hw
  have hAB : ∀ x : Nat, (WA w s.heap.size) x → θ.2.2.2 ≤ x := wa_b hu hz.2.1
  have hz0 := hz
  have hK := sz_K fx.2 hz
  have hlt0 := hm.lt
  have hu1 := hu.1
  have hAn : ∀ x : Nat, s.heap.size ≤ x → (WA w s.heap.size) x := fun _ h => Or.inr h
  refine lv_aload_n hx hb dX3_wholeMonths_0 rfl (lv_at hl 0 rfl) ?_
  refine lv_iload_n hx hb dX3_wholeMonths_1 rfl (lv_at hl 1 rfl) ?_
  refine lv_iload_n hx hb dX3_wholeMonths_2 rfl (lv_at hl 2 rfl) ?_
  obtain ⟨r1, hr1⟩ := bex ((a < 0 ∨ 5 < a) ∨ (b < 0 ∨ 5 < b))
  refine c_P (As := [.int (iI a), .int (iI b)]) (rest := [.ref (w 0)]) fx hl (pm_X3_areNo l a b r1 hr1 (by omega) (by omega)) dX3_wholeMonths_3 k1162 k1163 k6 k1164 hd_X3_areNo rfl ⟨by decide, by decide⟩ (Nat.le_of_ble_eq_true rfl) ⟨by dsimp only; omega, by dsimp only; omega⟩ ?_
  have br1 : r1 = 0 ∨ r1 = 1 := hr1.elim (fun h => Or.inr h.1) (fun h => Or.inl h.1)
  refine q_con hx hb dX3_wholeMonths_6 ?_
  refine q_con hx hb dX3_wholeMonths_7 ?_
  obtain ⟨t2, f3, hq1t2, hq2t2⟩ := fails_ex r1 0 0 (by omega) (by omega) (by omega)
  have hmw : MWR θ S0 w s.heap r q dt sv th dn rf kn := ⟨hz, hu, hm, hd, hsv⟩
  refine c_M (w := w) (As := [.int (iI r1), .int (iI 0), .int (iI 0)]) (rest := []) (b := w 0) (C := RX3) fx hl (mw_fails θ l S0 _ w _ _ _ _ _ _ _ _ hmw r1 0 0 t2 f3 (by omega) hq1t2 hq2t2) (ob_recv hK hm.1 rfl) dX3_wholeMonths_8 k1119 k1121 ks10 k6 k1122 hd_X3_fails rfl ⟨by decide, by decide⟩ (Nat.le_of_ble_eq_true rfl) ⟨by dsimp only; omega, by dsimp only; omega⟩ hS (fun x hx => hx ▸ Or.inl (Or.inl rfl)) (fun H4 locs hmH4 hszH4 hk0H4 hS => ?_)
  have hkH4 : ∀ x : Nat, x < (s.heap).size → ¬ x = w 0 → H4[x]? = (s.heap)[x]? := hk0H4
  have hzH4 := hz0.at hAB hS
  have hltH4 := hmH4.lt
  refine q_ieq (tgt := 18) hx hb dX3_wholeMonths_11 (by decide) (by omega) (fun c5 => ?_) (fun c5 => ?_)
  · exact (show False by omega).elim
  · refine q_con hx hb dX3_wholeMonths_14 ?_
    refine lv_goto (tgt := 24) hx hb dX3_wholeMonths_15 (by decide) ?_
    obtain rfl : t2 = 1 := by omega
    have hmw : MWR θ S0 w H4 r q dt sv 1 dn rf kn := ⟨hzH4, hu, hmH4, hd, hsv⟩
    exact e_i hx hb hr hlk hS dX3_wholeMonths_24 (Nat.le_of_ble_eq_true rfl) (Nat.le_of_ble_eq_true rfl) ⟨ex_i (by omega), r, q, by first | exact hmw | (subst_vars; exact hmw) | (simp only [inI_self, inI_1, inI_31] at hmw; subst_vars; exact hmw), by first | exact nw_rf | exact nw_up (by omega) | exact nw_up2 (by omega), by first | exact nw_rf | exact nw_up (by omega) | exact nw_up2 (by omega)⟩

set_option maxHeartbeats 4000000 in
set_option maxRecDepth 100000 in
theorem mno2_wholeMonths (θ : TH) (l : Launch) (S0 : State) (H : Heap) (w : Nat → Nat) (r q : Nat → Nat) (dt : Nat → Int) (sv : Nat → Nat → Int) (th dn rf kn : Int) (hw : MWR θ S0 w H r q dt sv th dn rf kn) (a b : Int) (h_0 : -2147483648 ≤ a ∧ a < 2147483648) (h_1 : -2147483648 ≤ b ∧ b < 2147483648) (h_2 : 0 ≤ a ∧ a < 6) (h_3 : ¬ (0 ≤ b ∧ b < 6)) : CT l yX3_wholeMonths cX3_wholeMonths 3 (some .int) 3 63 0 0 [.ref (w 0), .int (iI a), .int (iI b)] S0 H (fun v9 H1 => v9 = some (.int (iI 0)) ∧ ∃ r1 q1 : Nat → Nat, MWR θ S0 w H1 r1 q1 dt sv 1 dn rf kn ∧ NW 6 H.size r r1 ∧ NW 3 H.size q q1) (fun _ _ => False) (WA w H.size) := by
  refine ct_of (by decide +kernel) (Nat.le_of_ble_eq_true rfl) ?_
  intro pg en s mi args below meth co ls fx hs hr hlk hxt hin hl
  subst hs
  obtain ⟨hx, hb, hml, hown, hts⟩ := id fx.1
  have hS : va_S (WA w s.heap.size) s.heap s.heap [] := va_S.rf
  obtain ⟨hz, hu, hm, hd, hsv⟩ := id hw
  have hAB : ∀ x : Nat, (WA w s.heap.size) x → θ.2.2.2 ≤ x := wa_b hu hz.2.1
  have hz0 := hz
  have hK := sz_K fx.2 hz
  have hlt0 := hm.lt
  have hu1 := hu.1
  have hAn : ∀ x : Nat, s.heap.size ≤ x → (WA w s.heap.size) x := fun _ h => Or.inr h
  refine lv_aload_n hx hb dX3_wholeMonths_0 rfl (lv_at hl 0 rfl) ?_
  refine lv_iload_n hx hb dX3_wholeMonths_1 rfl (lv_at hl 1 rfl) ?_
  refine lv_iload_n hx hb dX3_wholeMonths_2 rfl (lv_at hl 2 rfl) ?_
  obtain ⟨r1, hr1⟩ := bex ((a < 0 ∨ 5 < a) ∨ (b < 0 ∨ 5 < b))
  refine c_P (As := [.int (iI a), .int (iI b)]) (rest := [.ref (w 0)]) fx hl (pm_X3_areNo l a b r1 hr1 (by omega) (by omega)) dX3_wholeMonths_3 k1162 k1163 k6 k1164 hd_X3_areNo rfl ⟨by decide, by decide⟩ (Nat.le_of_ble_eq_true rfl) ⟨by dsimp only; omega, by dsimp only; omega⟩ ?_
  have br1 : r1 = 0 ∨ r1 = 1 := hr1.elim (fun h => Or.inr h.1) (fun h => Or.inl h.1)
  refine q_con hx hb dX3_wholeMonths_6 ?_
  refine q_con hx hb dX3_wholeMonths_7 ?_
  obtain ⟨t2, f3, hq1t2, hq2t2⟩ := fails_ex r1 0 0 (by omega) (by omega) (by omega)
  have hmw : MWR θ S0 w s.heap r q dt sv th dn rf kn := ⟨hz, hu, hm, hd, hsv⟩
  refine c_M (w := w) (As := [.int (iI r1), .int (iI 0), .int (iI 0)]) (rest := []) (b := w 0) (C := RX3) fx hl (mw_fails θ l S0 _ w _ _ _ _ _ _ _ _ hmw r1 0 0 t2 f3 (by omega) hq1t2 hq2t2) (ob_recv hK hm.1 rfl) dX3_wholeMonths_8 k1119 k1121 ks10 k6 k1122 hd_X3_fails rfl ⟨by decide, by decide⟩ (Nat.le_of_ble_eq_true rfl) ⟨by dsimp only; omega, by dsimp only; omega⟩ hS (fun x hx => hx ▸ Or.inl (Or.inl rfl)) (fun H4 locs hmH4 hszH4 hk0H4 hS => ?_)
  have hkH4 : ∀ x : Nat, x < (s.heap).size → ¬ x = w 0 → H4[x]? = (s.heap)[x]? := hk0H4
  have hzH4 := hz0.at hAB hS
  have hltH4 := hmH4.lt
  refine q_ieq (tgt := 18) hx hb dX3_wholeMonths_11 (by decide) (by omega) (fun c5 => ?_) (fun c5 => ?_)
  · exact (show False by omega).elim
  · refine q_con hx hb dX3_wholeMonths_14 ?_
    refine lv_goto (tgt := 24) hx hb dX3_wholeMonths_15 (by decide) ?_
    obtain rfl : t2 = 1 := by omega
    have hmw : MWR θ S0 w H4 r q dt sv 1 dn rf kn := ⟨hzH4, hu, hmH4, hd, hsv⟩
    exact e_i hx hb hr hlk hS dX3_wholeMonths_24 (Nat.le_of_ble_eq_true rfl) (Nat.le_of_ble_eq_true rfl) ⟨ex_i (by omega), r, q, by first | exact hmw | (subst_vars; exact hmw) | (simp only [inI_self, inI_1, inI_31] at hmw; subst_vars; exact hmw), by first | exact nw_rf | exact nw_up (by omega) | exact nw_up2 (by omega), by first | exact nw_rf | exact nw_up (by omega) | exact nw_up2 (by omega)⟩

set_option maxHeartbeats 4000000 in
set_option maxRecDepth 100000 in
theorem mr_order (θ : TH) (l : Launch) (S0 : State) (H : Heap) (w : Nat → Nat) (r q : Nat → Nat) (dt : Nat → Int) (sv : Nat → Nat → Int) (th dn rf kn : Int) (hw : MWR θ S0 w H r q dt sv th dn rf kn) (a b : Int) (h_0 : 0 ≤ a ∧ a < 6) (h_1 : 0 ≤ b ∧ b < 6) : CT l yX3_order cX3_order 3 (some .int) 8 170 0 0 [.ref (w 0), .int (iI a), .int (iI b)] S0 H (fun v H1 => v = some (.int (iI (if dt a.toNat = dt b.toNat then 0 else if dt a.toNat < dt b.toNat then -1 else 1))) ∧ H1 = H) (fun _ _ => False) (fun _ => False) := by
  refine ct_of (by decide +kernel) (Nat.le_of_ble_eq_true rfl) ?_
  intro pg en s mi args below meth co ls fx hs hr hlk hxt hin hl
  subst hs
  obtain ⟨hx, hb, hml, hown, hts⟩ := id fx.1
  have hS : va_S (fun _ : Nat => False) s.heap s.heap [] := va_S.rf
  obtain ⟨hz, hu, hm, hd, hsv⟩ := id hw
  have hAB : ∀ x : Nat, (fun _ : Nat => False) x → θ.2.2.2 ≤ x := fun _ h => h.elim
  have hz0 := hz
  have hK := sz_K fx.2 hz
  have hlt0 := hm.lt
  have hu1 := hu.1
  refine lv_aload_n hx hb dX3_order_0 rfl (lv_at hl 0 rfl) ?_
  refine lv_iload_n hx hb dX3_order_1 rfl (lv_at hl 2 rfl) ?_
  refine lv_iload_n hx hb dX3_order_2 rfl (lv_at hl 1 rfl) ?_
  obtain ⟨r1, hr1⟩ := bex (dt b.toNat < dt a.toNat)
  have hmw : MWR θ S0 w s.heap r q dt sv th dn rf kn := ⟨hz, hu, hm, hd, hsv⟩
  refine c_HV (As := [.int (iI b), .int (iI a)]) (rest := []) (b := w 0) (C := RX3) fx hl (mr_isAhead θ l S0 _ w _ _ _ _ _ _ _ _ hmw b a r1 hr1 (by omega) (by omega)) (ob_recv hK hm.1 rfl) dX3_order_3 k1232 k1234 ks15 k6 k1235 hd_X3_isAhead rfl ⟨by decide, by decide⟩ (Nat.le_of_ble_eq_true rfl) ⟨by dsimp only; omega, by dsimp only; omega⟩ ?_
  have br1 : r1 = 0 ∨ r1 = 1 := hr1.elim (fun h => Or.inr h.1) (fun h => Or.inl h.1)
  refine c_P (As := [.int (iI r1)]) (rest := []) fx hl (pm_X3_one l r1 (by omega)) dX3_order_6 k1239 k1240 k6 k1241 hd_X3_one rfl ⟨by decide, by decide⟩ (Nat.le_of_ble_eq_true rfl) ⟨by dsimp only; omega, by dsimp only; omega⟩ ?_
  refine lv_aload_n hx hb dX3_order_9 rfl (lv_at hl 0 rfl) ?_
  refine lv_iload_n hx hb dX3_order_10 rfl (lv_at hl 1 rfl) ?_
  refine lv_iload_n hx hb dX3_order_11 rfl (lv_at hl 2 rfl) ?_
  obtain ⟨r3, hr3⟩ := bex (dt a.toNat < dt b.toNat)
  have hmw : MWR θ S0 w s.heap r q dt sv th dn rf kn := ⟨hz, hu, hm, hd, hsv⟩
  refine c_HV (As := [.int (iI a), .int (iI b)]) (rest := [.int (iI r1)]) (b := w 0) (C := RX3) fx hl (mr_isAhead θ l S0 _ w _ _ _ _ _ _ _ _ hmw a b r3 hr3 (by omega) (by omega)) (ob_recv hK hm.1 rfl) dX3_order_12 k1232 k1234 ks15 k6 k1235 hd_X3_isAhead rfl ⟨by decide, by decide⟩ (Nat.le_of_ble_eq_true rfl) ⟨by dsimp only; omega, by dsimp only; omega⟩ ?_
  have br3 : r3 = 0 ∨ r3 = 1 := hr3.elim (fun h => Or.inr h.1) (fun h => Or.inl h.1)
  refine c_P (As := [.int (iI r3)]) (rest := [.int (iI r1)]) fx hl (pm_X3_one l r3 (by omega)) dX3_order_15 k1239 k1240 k6 k1241 hd_X3_one rfl ⟨by decide, by decide⟩ (Nat.le_of_ble_eq_true rfl) ⟨by dsimp only; omega, by dsimp only; omega⟩ ?_
  refine q_sub hx hb dX3_order_18 ?_
  exact e_i hx hb hr hlk hS dX3_order_19 (Nat.le_refl _) (Nat.le_refl _) ⟨ex_i (by (split <;> (try split) <;> omega)), rfl⟩

set_option maxHeartbeats 4000000 in
set_option maxRecDepth 100000 in
theorem mok_compare (θ : TH) (l : Launch) (S0 : State) (H : Heap) (w : Nat → Nat) (r q : Nat → Nat) (dt : Nat → Int) (sv : Nat → Nat → Int) (th dn rf kn : Int) (hw : MWR θ S0 w H r q dt sv th dn rf kn) (a b : Int) (h_0 : -2147483648 ≤ a ∧ a < 2147483648) (h_1 : -2147483648 ≤ b ∧ b < 2147483648) (h_2 : 0 ≤ a ∧ a < 6) (h_3 : 0 ≤ b ∧ b < 6) : CT l yX3_compare cX3_compare 3 (some .int) 9 192 0 0 [.ref (w 0), .int (iI a), .int (iI b)] S0 H (fun v9 H1 => v9 = some (.int (iI (if dt a.toNat = dt b.toNat then 0 else if dt a.toNat < dt b.toNat then -1 else 1))) ∧ ∃ r1 q1 : Nat → Nat, MWR θ S0 w H1 r1 q1 dt sv 0 dn rf kn ∧ NW 6 H.size r r1 ∧ NW 3 H.size q q1) (fun _ _ => False) (WA w H.size) := by
  refine ct_of (by decide +kernel) (Nat.le_of_ble_eq_true rfl) ?_
  intro pg en s mi args below meth co ls fx hs hr hlk hxt hin hl
  subst hs
  obtain ⟨hx, hb, hml, hown, hts⟩ := id fx.1
  have hS : va_S (WA w s.heap.size) s.heap s.heap [] := va_S.rf
  obtain ⟨hz, hu, hm, hd, hsv⟩ := id hw
  have hAB : ∀ x : Nat, (WA w s.heap.size) x → θ.2.2.2 ≤ x := wa_b hu hz.2.1
  have hz0 := hz
  have hK := sz_K fx.2 hz
  have hlt0 := hm.lt
  have hu1 := hu.1
  have hAn : ∀ x : Nat, s.heap.size ≤ x → (WA w s.heap.size) x := fun _ h => Or.inr h
  refine lv_aload_n hx hb dX3_compare_0 rfl (lv_at hl 0 rfl) ?_
  refine lv_iload_n hx hb dX3_compare_1 rfl (lv_at hl 1 rfl) ?_
  refine lv_iload_n hx hb dX3_compare_2 rfl (lv_at hl 2 rfl) ?_
  obtain ⟨r1, hr1⟩ := bex ((a < 0 ∨ 5 < a) ∨ (b < 0 ∨ 5 < b))
  refine c_P (As := [.int (iI a), .int (iI b)]) (rest := [.ref (w 0)]) fx hl (pm_X3_areNo l a b r1 hr1 (by omega) (by omega)) dX3_compare_3 k1162 k1163 k6 k1164 hd_X3_areNo rfl ⟨by decide, by decide⟩ (Nat.le_of_ble_eq_true rfl) ⟨by dsimp only; omega, by dsimp only; omega⟩ ?_
  have br1 : r1 = 0 ∨ r1 = 1 := hr1.elim (fun h => Or.inr h.1) (fun h => Or.inl h.1)
  refine q_con hx hb dX3_compare_6 ?_
  refine q_con hx hb dX3_compare_7 ?_
  obtain ⟨t2, f3, hq1t2, hq2t2⟩ := fails_ex r1 0 0 (by omega) (by omega) (by omega)
  have hmw : MWR θ S0 w s.heap r q dt sv th dn rf kn := ⟨hz, hu, hm, hd, hsv⟩
  refine c_M (w := w) (As := [.int (iI r1), .int (iI 0), .int (iI 0)]) (rest := []) (b := w 0) (C := RX3) fx hl (mw_fails θ l S0 _ w _ _ _ _ _ _ _ _ hmw r1 0 0 t2 f3 (by omega) hq1t2 hq2t2) (ob_recv hK hm.1 rfl) dX3_compare_8 k1119 k1121 ks10 k6 k1122 hd_X3_fails rfl ⟨by decide, by decide⟩ (Nat.le_of_ble_eq_true rfl) ⟨by dsimp only; omega, by dsimp only; omega⟩ hS (fun x hx => hx ▸ Or.inl (Or.inl rfl)) (fun H4 locs hmH4 hszH4 hk0H4 hS => ?_)
  have hkH4 : ∀ x : Nat, x < (s.heap).size → ¬ x = w 0 → H4[x]? = (s.heap)[x]? := hk0H4
  have hzH4 := hz0.at hAB hS
  have hltH4 := hmH4.lt
  refine q_ieq (tgt := 18) hx hb dX3_compare_11 (by decide) (by omega) (fun c5 => ?_) (fun c5 => ?_)
  · refine lv_aload_n hx hb dX3_compare_18 rfl (lv_at hl 0 rfl) ?_
    refine lv_iload_n hx hb dX3_compare_19 rfl (lv_at hl 1 rfl) ?_
    refine lv_iload_n hx hb dX3_compare_20 rfl (lv_at hl 2 rfl) ?_
    have hmw : MWR θ S0 w H4 r q dt sv t2 dn rf kn := ⟨hzH4, hu, hmH4, hd, hsv⟩
    refine c_HV (As := [.int (iI a), .int (iI b)]) (rest := []) (b := w 0) (C := RX3) fx hl (mr_order θ l S0 _ w _ _ _ _ _ _ _ _ hmw a b (by omega) (by omega)) (ob_recv hK hmH4.1 rfl) dX3_compare_21 k1598 k1600 ks32 k6 k1601 hd_X3_order rfl ⟨by decide, by decide⟩ (Nat.le_of_ble_eq_true rfl) ⟨by dsimp only; omega, by dsimp only; omega⟩ ?_
    refine q_nm (fun z6 ez6 => ?_)
    obtain rfl : t2 = 0 := by omega
    have hmw : MWR θ S0 w H4 r q dt sv 0 dn rf kn := ⟨hzH4, hu, hmH4, hd, hsv⟩
    exact e_i hx hb hr hlk hS dX3_compare_24 (Nat.le_of_ble_eq_true rfl) (Nat.le_of_ble_eq_true rfl) ⟨ex_i (by subst_vars; first | omega | (simp only [up_s, tri_0, tri_1, tri_2, inI_self, inI_1, inI_31]; done) | (simp only [up_s, tri_0, tri_1, tri_2, inI_self, inI_1, inI_31]; omega) | (simp only [up_s, tri_0, tri_1, tri_2]; subst_vars; first | rfl | omega)), r, q, by first | exact hmw | (subst_vars; exact hmw) | (simp only [inI_self, inI_1, inI_31] at hmw; subst_vars; exact hmw), by first | exact nw_rf | exact nw_up (by omega) | exact nw_up2 (by omega), by first | exact nw_rf | exact nw_up (by omega) | exact nw_up2 (by omega)⟩
  · exact (show False by omega).elim

set_option maxHeartbeats 4000000 in
set_option maxRecDepth 100000 in
theorem mno1_compare (θ : TH) (l : Launch) (S0 : State) (H : Heap) (w : Nat → Nat) (r q : Nat → Nat) (dt : Nat → Int) (sv : Nat → Nat → Int) (th dn rf kn : Int) (hw : MWR θ S0 w H r q dt sv th dn rf kn) (a b : Int) (h_0 : -2147483648 ≤ a ∧ a < 2147483648) (h_1 : -2147483648 ≤ b ∧ b < 2147483648) (h_2 : ¬ (0 ≤ a ∧ a < 6)) : CT l yX3_compare cX3_compare 3 (some .int) 3 63 0 0 [.ref (w 0), .int (iI a), .int (iI b)] S0 H (fun v9 H1 => v9 = some (.int (iI 0)) ∧ ∃ r1 q1 : Nat → Nat, MWR θ S0 w H1 r1 q1 dt sv 1 dn rf kn ∧ NW 6 H.size r r1 ∧ NW 3 H.size q q1) (fun _ _ => False) (WA w H.size) := by
  refine ct_of (by decide +kernel) (Nat.le_of_ble_eq_true rfl) ?_
  intro pg en s mi args below meth co ls fx hs hr hlk hxt hin hl
  subst hs
  obtain ⟨hx, hb, hml, hown, hts⟩ := id fx.1
  have hS : va_S (WA w s.heap.size) s.heap s.heap [] := va_S.rf
  obtain ⟨hz, hu, hm, hd, hsv⟩ := id hw
  have hAB : ∀ x : Nat, (WA w s.heap.size) x → θ.2.2.2 ≤ x := wa_b hu hz.2.1
  have hz0 := hz
  have hK := sz_K fx.2 hz
  have hlt0 := hm.lt
  have hu1 := hu.1
  have hAn : ∀ x : Nat, s.heap.size ≤ x → (WA w s.heap.size) x := fun _ h => Or.inr h
  refine lv_aload_n hx hb dX3_compare_0 rfl (lv_at hl 0 rfl) ?_
  refine lv_iload_n hx hb dX3_compare_1 rfl (lv_at hl 1 rfl) ?_
  refine lv_iload_n hx hb dX3_compare_2 rfl (lv_at hl 2 rfl) ?_
  obtain ⟨r1, hr1⟩ := bex ((a < 0 ∨ 5 < a) ∨ (b < 0 ∨ 5 < b))
  refine c_P (As := [.int (iI a), .int (iI b)]) (rest := [.ref (w 0)]) fx hl (pm_X3_areNo l a b r1 hr1 (by omega) (by omega)) dX3_compare_3 k1162 k1163 k6 k1164 hd_X3_areNo rfl ⟨by decide, by decide⟩ (Nat.le_of_ble_eq_true rfl) ⟨by dsimp only; omega, by dsimp only; omega⟩ ?_
  have br1 : r1 = 0 ∨ r1 = 1 := hr1.elim (fun h => Or.inr h.1) (fun h => Or.inl h.1)
  refine q_con hx hb dX3_compare_6 ?_
  refine q_con hx hb dX3_compare_7 ?_
  obtain ⟨t2, f3, hq1t2, hq2t2⟩ := fails_ex r1 0 0 (by omega) (by omega) (by omega)
  have hmw : MWR θ S0 w s.heap r q dt sv th dn rf kn := ⟨hz, hu, hm, hd, hsv⟩
  refine c_M (w := w) (As := [.int (iI r1), .int (iI 0), .int (iI 0)]) (rest := []) (b := w 0) (C := RX3) fx hl (mw_fails θ l S0 _ w _ _ _ _ _ _ _ _ hmw r1 0 0 t2 f3 (by omega) hq1t2 hq2t2) (ob_recv hK hm.1 rfl) dX3_compare_8 k1119 k1121 ks10 k6 k1122 hd_X3_fails rfl ⟨by decide, by decide⟩ (Nat.le_of_ble_eq_true rfl) ⟨by dsimp only; omega, by dsimp only; omega⟩ hS (fun x hx => hx ▸ Or.inl (Or.inl rfl)) (fun H4 locs hmH4 hszH4 hk0H4 hS => ?_)
  have hkH4 : ∀ x : Nat, x < (s.heap).size → ¬ x = w 0 → H4[x]? = (s.heap)[x]? := hk0H4
  have hzH4 := hz0.at hAB hS
  have hltH4 := hmH4.lt
  refine q_ieq (tgt := 18) hx hb dX3_compare_11 (by decide) (by omega) (fun c5 => ?_) (fun c5 => ?_)
  · exact (show False by omega).elim
  · refine q_con hx hb dX3_compare_14 ?_
    refine lv_goto (tgt := 24) hx hb dX3_compare_15 (by decide) ?_
    obtain rfl : t2 = 1 := by omega
    have hmw : MWR θ S0 w H4 r q dt sv 1 dn rf kn := ⟨hzH4, hu, hmH4, hd, hsv⟩
    exact e_i hx hb hr hlk hS dX3_compare_24 (Nat.le_of_ble_eq_true rfl) (Nat.le_of_ble_eq_true rfl) ⟨ex_i (by omega), r, q, by first | exact hmw | (subst_vars; exact hmw) | (simp only [inI_self, inI_1, inI_31] at hmw; subst_vars; exact hmw), by first | exact nw_rf | exact nw_up (by omega) | exact nw_up2 (by omega), by first | exact nw_rf | exact nw_up (by omega) | exact nw_up2 (by omega)⟩

set_option maxHeartbeats 4000000 in
set_option maxRecDepth 100000 in
theorem mno2_compare (θ : TH) (l : Launch) (S0 : State) (H : Heap) (w : Nat → Nat) (r q : Nat → Nat) (dt : Nat → Int) (sv : Nat → Nat → Int) (th dn rf kn : Int) (hw : MWR θ S0 w H r q dt sv th dn rf kn) (a b : Int) (h_0 : -2147483648 ≤ a ∧ a < 2147483648) (h_1 : -2147483648 ≤ b ∧ b < 2147483648) (h_2 : 0 ≤ a ∧ a < 6) (h_3 : ¬ (0 ≤ b ∧ b < 6)) : CT l yX3_compare cX3_compare 3 (some .int) 3 63 0 0 [.ref (w 0), .int (iI a), .int (iI b)] S0 H (fun v9 H1 => v9 = some (.int (iI 0)) ∧ ∃ r1 q1 : Nat → Nat, MWR θ S0 w H1 r1 q1 dt sv 1 dn rf kn ∧ NW 6 H.size r r1 ∧ NW 3 H.size q q1) (fun _ _ => False) (WA w H.size) := by
  refine ct_of (by decide +kernel) (Nat.le_of_ble_eq_true rfl) ?_
  intro pg en s mi args below meth co ls fx hs hr hlk hxt hin hl
  subst hs
  obtain ⟨hx, hb, hml, hown, hts⟩ := id fx.1
  have hS : va_S (WA w s.heap.size) s.heap s.heap [] := va_S.rf
  obtain ⟨hz, hu, hm, hd, hsv⟩ := id hw
  have hAB : ∀ x : Nat, (WA w s.heap.size) x → θ.2.2.2 ≤ x := wa_b hu hz.2.1
  have hz0 := hz
  have hK := sz_K fx.2 hz
  have hlt0 := hm.lt
  have hu1 := hu.1
  have hAn : ∀ x : Nat, s.heap.size ≤ x → (WA w s.heap.size) x := fun _ h => Or.inr h
  refine lv_aload_n hx hb dX3_compare_0 rfl (lv_at hl 0 rfl) ?_
  refine lv_iload_n hx hb dX3_compare_1 rfl (lv_at hl 1 rfl) ?_
  refine lv_iload_n hx hb dX3_compare_2 rfl (lv_at hl 2 rfl) ?_
  obtain ⟨r1, hr1⟩ := bex ((a < 0 ∨ 5 < a) ∨ (b < 0 ∨ 5 < b))
  refine c_P (As := [.int (iI a), .int (iI b)]) (rest := [.ref (w 0)]) fx hl (pm_X3_areNo l a b r1 hr1 (by omega) (by omega)) dX3_compare_3 k1162 k1163 k6 k1164 hd_X3_areNo rfl ⟨by decide, by decide⟩ (Nat.le_of_ble_eq_true rfl) ⟨by dsimp only; omega, by dsimp only; omega⟩ ?_
  have br1 : r1 = 0 ∨ r1 = 1 := hr1.elim (fun h => Or.inr h.1) (fun h => Or.inl h.1)
  refine q_con hx hb dX3_compare_6 ?_
  refine q_con hx hb dX3_compare_7 ?_
  obtain ⟨t2, f3, hq1t2, hq2t2⟩ := fails_ex r1 0 0 (by omega) (by omega) (by omega)
  have hmw : MWR θ S0 w s.heap r q dt sv th dn rf kn := ⟨hz, hu, hm, hd, hsv⟩
  refine c_M (w := w) (As := [.int (iI r1), .int (iI 0), .int (iI 0)]) (rest := []) (b := w 0) (C := RX3) fx hl (mw_fails θ l S0 _ w _ _ _ _ _ _ _ _ hmw r1 0 0 t2 f3 (by omega) hq1t2 hq2t2) (ob_recv hK hm.1 rfl) dX3_compare_8 k1119 k1121 ks10 k6 k1122 hd_X3_fails rfl ⟨by decide, by decide⟩ (Nat.le_of_ble_eq_true rfl) ⟨by dsimp only; omega, by dsimp only; omega⟩ hS (fun x hx => hx ▸ Or.inl (Or.inl rfl)) (fun H4 locs hmH4 hszH4 hk0H4 hS => ?_)
  have hkH4 : ∀ x : Nat, x < (s.heap).size → ¬ x = w 0 → H4[x]? = (s.heap)[x]? := hk0H4
  have hzH4 := hz0.at hAB hS
  have hltH4 := hmH4.lt
  refine q_ieq (tgt := 18) hx hb dX3_compare_11 (by decide) (by omega) (fun c5 => ?_) (fun c5 => ?_)
  · exact (show False by omega).elim
  · refine q_con hx hb dX3_compare_14 ?_
    refine lv_goto (tgt := 24) hx hb dX3_compare_15 (by decide) ?_
    obtain rfl : t2 = 1 := by omega
    have hmw : MWR θ S0 w H4 r q dt sv 1 dn rf kn := ⟨hzH4, hu, hmH4, hd, hsv⟩
    exact e_i hx hb hr hlk hS dX3_compare_24 (Nat.le_of_ble_eq_true rfl) (Nat.le_of_ble_eq_true rfl) ⟨ex_i (by omega), r, q, by first | exact hmw | (subst_vars; exact hmw) | (simp only [inI_self, inI_1, inI_31] at hmw; subst_vars; exact hmw), by first | exact nw_rf | exact nw_up (by omega) | exact nw_up2 (by omega), by first | exact nw_rf | exact nw_up (by omega) | exact nw_up2 (by omega)⟩

set_option maxHeartbeats 4000000 in
set_option maxRecDepth 100000 in
theorem mr_dayOfYearNow (θ : TH) (l : Launch) (S0 : State) (H : Heap) (w : Nat → Nat) (r q : Nat → Nat) (dt : Nat → Int) (sv : Nat → Nat → Int) (th dn rf kn : Int) (hw : MWR θ S0 w H r q dt sv th dn rf kn) (a : Int) (h_0 : 0 ≤ a ∧ a < 6) : CT l yX3_dayOfYearNow cX3_dayOfYearNow 2 (some .int) 7 148 0 0 [.ref (w 0), .int (iI a)] S0 H (fun v H1 => v = some (.int (iI (dt a.toNat - fI (12 * (mI (dt a.toNat) / 12)) + 1))) ∧ H1 = H) (fun _ _ => False) (fun _ => False) := by
  refine ct_of (by decide +kernel) (Nat.le_of_ble_eq_true rfl) ?_
  intro pg en s mi args below meth co ls fx hs hr hlk hxt hin hl
  subst hs
  obtain ⟨hx, hb, hml, hown, hts⟩ := id fx.1
  have hS : va_S (fun _ : Nat => False) s.heap s.heap [] := va_S.rf
  obtain ⟨hz, hu, hm, hd, hsv⟩ := id hw
  have hAB : ∀ x : Nat, (fun _ : Nat => False) x → θ.2.2.2 ≤ x := fun _ h => h.elim
  have hz0 := hz
  have hK := sz_K fx.2 hz
  have hlt0 := hm.lt
  have hu1 := hu.1
  refine lv_aload_n hx hb dX3_dayOfYearNow_0 rfl (lv_at hl 0 rfl) ?_
  refine lv_iload_n hx hb dX3_dayOfYearNow_1 rfl (lv_at hl 1 rfl) ?_
  have hmw : MWR θ S0 w s.heap r q dt sv th dn rf kn := ⟨hz, hu, hm, hd, hsv⟩
  refine c_HV (As := [.int (iI a)]) (rest := []) (b := w 0) (C := RX3) fx hl (mr_became θ l S0 _ w _ _ _ _ _ _ _ _ hmw a (by omega)) (ob_recv hK hm.1 rfl) dX3_dayOfYearNow_2 k1141 k1143 ks12 k6 k1144 hd_X3_became rfl ⟨by decide, by decide⟩ (Nat.le_of_ble_eq_true rfl) ⟨by dsimp only; omega, by dsimp only; omega⟩ ?_
  have t0z1 := hd a.toNat (by omega)
  refine q_bip hx hb dX3_dayOfYearNow_5 (by decide) ?_
  refine lv_aload_n hx hb dX3_dayOfYearNow_7 rfl (lv_at hl 0 rfl) ?_
  refine r_get (θ := θ) (C := RX3) (T := TX3) (N := 6) (ci := 9) hx hb hts gwX3 hown hK hm.1 rfl 4 (by decide) k1094 (fun _ h => h) (v := .ref (w 1)) rfl dX3_dayOfYearNow_8 ?_
  refine lv_iload_n hx hb dX3_dayOfYearNow_11 rfl (lv_at hl 1 rfl) ?_
  refine r_aald (θ := θ) hx hb hK hm.2.1 (i := a) (by omega) (by decide) dX3_dayOfYearNow_12 ?_
  have rw2 := (hm.2.2.2.1 (a.toNat) (by omega)).1
  have rw2n := (hm.2.2.2.1 (a.toNat) (by omega)).2
  have rw2t := hd (a.toNat) (by omega)
  have rw2l := rw2.lt
  have rw2i := inR rw2t
  have rw2m := inM rw2i
  have rw2d := dI_b (dt a.toNat)
  refine q_con hx hb dX3_dayOfYearNow_13 ?_
  refine r_iald (θ := θ) hx hb hK rw2 (i := 0) (by omega) (by decide) dX3_dayOfYearNow_14 ?_
  refine q_as (mI (dt a.toNat)) rfl ?_
  refine q_bip hx hb dX3_dayOfYearNow_15 (by decide) ?_
  refine c_P (As := [.int (iI (mI (dt a.toNat))), .int (iI 12)]) (rest := [.int (iI 12), .int (iI (dt a.toNat))]) fx hl (pm_X3_down l (mI (dt a.toNat)) 12 (by omega) (by omega)) dX3_dayOfYearNow_17 k1073 k1074 k6 k1075 hd_X3_down rfl ⟨by decide, by decide⟩ (Nat.le_of_ble_eq_true rfl) ⟨by dsimp only; omega, by dsimp only; omega⟩ ?_
  refine q_nm (fun z3 ez3 => ?_)
  refine q_mul hx hb dX3_dayOfYearNow_20 ?_
  refine c_H (As := [.int (iI (12 * z3))]) (rest := [.int (iI (dt a.toNat))]) fx hl (pm_X3_begin θ l S0 _ hz (12 * z3) (by omega)) dX3_dayOfYearNow_21 k1136 k1137 k6 k1138 hd_X3_begin rfl ⟨by decide, by decide⟩ (Nat.le_of_ble_eq_true rfl) ⟨by dsimp only; omega, by dsimp only; omega⟩ ?_
  have t0z4 := fI_bd (12 * z3)
  refine q_sub hx hb dX3_dayOfYearNow_24 ?_
  refine q_con hx hb dX3_dayOfYearNow_25 ?_
  refine q_add hx hb dX3_dayOfYearNow_26 ?_
  exact e_i hx hb hr hlk hS dX3_dayOfYearNow_27 (Nat.le_refl _) (Nat.le_refl _) ⟨ex_i (by subst_vars; first | omega | (simp only [up_s, tri_0, tri_1, tri_2, inI_self, inI_1, inI_31]; done) | (simp only [up_s, tri_0, tri_1, tri_2, inI_self, inI_1, inI_31]; omega) | (simp only [up_s, tri_0, tri_1, tri_2]; subst_vars; first | rfl | omega)), rfl⟩

set_option maxHeartbeats 4000000 in
set_option maxRecDepth 100000 in
theorem mok_dayOfYear (θ : TH) (l : Launch) (S0 : State) (H : Heap) (w : Nat → Nat) (r q : Nat → Nat) (dt : Nat → Int) (sv : Nat → Nat → Int) (th dn rf kn : Int) (hw : MWR θ S0 w H r q dt sv th dn rf kn) (a : Int) (h_0 : -2147483648 ≤ a ∧ a < 2147483648) (h_1 : 0 ≤ a ∧ a < 6) : CT l yX3_dayOfYear cX3_dayOfYear 2 (some .int) 8 169 0 0 [.ref (w 0), .int (iI a)] S0 H (fun v9 H1 => v9 = some (.int (iI (dt a.toNat - fI (12 * (mI (dt a.toNat) / 12)) + 1))) ∧ ∃ r1 q1 : Nat → Nat, MWR θ S0 w H1 r1 q1 dt sv 0 dn rf kn ∧ NW 6 H.size r r1 ∧ NW 3 H.size q q1) (fun _ _ => False) (WA w H.size) := by
  refine ct_of (by decide +kernel) (Nat.le_of_ble_eq_true rfl) ?_
  intro pg en s mi args below meth co ls fx hs hr hlk hxt hin hl
  subst hs
  obtain ⟨hx, hb, hml, hown, hts⟩ := id fx.1
  have hS : va_S (WA w s.heap.size) s.heap s.heap [] := va_S.rf
  obtain ⟨hz, hu, hm, hd, hsv⟩ := id hw
  have hAB : ∀ x : Nat, (WA w s.heap.size) x → θ.2.2.2 ≤ x := wa_b hu hz.2.1
  have hz0 := hz
  have hK := sz_K fx.2 hz
  have hlt0 := hm.lt
  have hu1 := hu.1
  have hAn : ∀ x : Nat, s.heap.size ≤ x → (WA w s.heap.size) x := fun _ h => Or.inr h
  refine lv_aload_n hx hb dX3_dayOfYear_0 rfl (lv_at hl 0 rfl) ?_
  refine lv_iload_n hx hb dX3_dayOfYear_1 rfl (lv_at hl 1 rfl) ?_
  obtain ⟨r1, hr1⟩ := bex (a < 0 ∨ 5 < a)
  refine c_P (As := [.int (iI a)]) (rest := [.ref (w 0)]) fx hl (pm_X3_isNo l a r1 hr1 (by omega)) dX3_dayOfYear_2 k1113 k1114 k6 k1115 hd_X3_isNo rfl ⟨by decide, by decide⟩ (Nat.le_of_ble_eq_true rfl) ⟨by dsimp only; omega, by dsimp only; omega⟩ ?_
  have br1 : r1 = 0 ∨ r1 = 1 := hr1.elim (fun h => Or.inr h.1) (fun h => Or.inl h.1)
  refine q_con hx hb dX3_dayOfYear_5 ?_
  refine q_con hx hb dX3_dayOfYear_6 ?_
  obtain ⟨t2, f3, hq1t2, hq2t2⟩ := fails_ex r1 0 0 (by omega) (by omega) (by omega)
  have hmw : MWR θ S0 w s.heap r q dt sv th dn rf kn := ⟨hz, hu, hm, hd, hsv⟩
  refine c_M (w := w) (As := [.int (iI r1), .int (iI 0), .int (iI 0)]) (rest := []) (b := w 0) (C := RX3) fx hl (mw_fails θ l S0 _ w _ _ _ _ _ _ _ _ hmw r1 0 0 t2 f3 (by omega) hq1t2 hq2t2) (ob_recv hK hm.1 rfl) dX3_dayOfYear_7 k1119 k1121 ks10 k6 k1122 hd_X3_fails rfl ⟨by decide, by decide⟩ (Nat.le_of_ble_eq_true rfl) ⟨by dsimp only; omega, by dsimp only; omega⟩ hS (fun x hx => hx ▸ Or.inl (Or.inl rfl)) (fun H4 locs hmH4 hszH4 hk0H4 hS => ?_)
  have hkH4 : ∀ x : Nat, x < (s.heap).size → ¬ x = w 0 → H4[x]? = (s.heap)[x]? := hk0H4
  have hzH4 := hz0.at hAB hS
  have hltH4 := hmH4.lt
  refine q_ieq (tgt := 17) hx hb dX3_dayOfYear_10 (by decide) (by omega) (fun c5 => ?_) (fun c5 => ?_)
  · refine lv_aload_n hx hb dX3_dayOfYear_17 rfl (lv_at hl 0 rfl) ?_
    refine lv_iload_n hx hb dX3_dayOfYear_18 rfl (lv_at hl 1 rfl) ?_
    have hmw : MWR θ S0 w H4 r q dt sv t2 dn rf kn := ⟨hzH4, hu, hmH4, hd, hsv⟩
    refine c_HV (As := [.int (iI a)]) (rest := []) (b := w 0) (C := RX3) fx hl (mr_dayOfYearNow θ l S0 _ w _ _ _ _ _ _ _ _ hmw a (by omega)) (ob_recv hK hmH4.1 rfl) dX3_dayOfYear_19 k1564 k1566 ks30 k6 k1567 hd_X3_dayOfYearNow rfl ⟨by decide, by decide⟩ (Nat.le_of_ble_eq_true rfl) ⟨by dsimp only; omega, by dsimp only; omega⟩ ?_
    refine q_nm (fun z6 ez6 => ?_)
    obtain rfl : t2 = 0 := by omega
    have hmw : MWR θ S0 w H4 r q dt sv 0 dn rf kn := ⟨hzH4, hu, hmH4, hd, hsv⟩
    exact e_i hx hb hr hlk hS dX3_dayOfYear_22 (Nat.le_of_ble_eq_true rfl) (Nat.le_of_ble_eq_true rfl) ⟨ex_i (by subst_vars; first | omega | (simp only [up_s, tri_0, tri_1, tri_2, inI_self, inI_1, inI_31]; done) | (simp only [up_s, tri_0, tri_1, tri_2, inI_self, inI_1, inI_31]; omega) | (simp only [up_s, tri_0, tri_1, tri_2]; subst_vars; first | rfl | omega)), r, q, by first | exact hmw | (subst_vars; exact hmw) | (simp only [inI_self, inI_1, inI_31] at hmw; subst_vars; exact hmw), by first | exact nw_rf | exact nw_up (by omega) | exact nw_up2 (by omega), by first | exact nw_rf | exact nw_up (by omega) | exact nw_up2 (by omega)⟩
  · exact (show False by omega).elim

set_option maxHeartbeats 4000000 in
set_option maxRecDepth 100000 in
theorem mno1_dayOfYear (θ : TH) (l : Launch) (S0 : State) (H : Heap) (w : Nat → Nat) (r q : Nat → Nat) (dt : Nat → Int) (sv : Nat → Nat → Int) (th dn rf kn : Int) (hw : MWR θ S0 w H r q dt sv th dn rf kn) (a : Int) (h_0 : -2147483648 ≤ a ∧ a < 2147483648) (h_1 : ¬ (0 ≤ a ∧ a < 6)) : CT l yX3_dayOfYear cX3_dayOfYear 2 (some .int) 2 42 0 0 [.ref (w 0), .int (iI a)] S0 H (fun v9 H1 => v9 = some (.int (iI 0)) ∧ ∃ r1 q1 : Nat → Nat, MWR θ S0 w H1 r1 q1 dt sv 1 dn rf kn ∧ NW 6 H.size r r1 ∧ NW 3 H.size q q1) (fun _ _ => False) (WA w H.size) := by
  refine ct_of (by decide +kernel) (Nat.le_of_ble_eq_true rfl) ?_
  intro pg en s mi args below meth co ls fx hs hr hlk hxt hin hl
  subst hs
  obtain ⟨hx, hb, hml, hown, hts⟩ := id fx.1
  have hS : va_S (WA w s.heap.size) s.heap s.heap [] := va_S.rf
  obtain ⟨hz, hu, hm, hd, hsv⟩ := id hw
  have hAB : ∀ x : Nat, (WA w s.heap.size) x → θ.2.2.2 ≤ x := wa_b hu hz.2.1
  have hz0 := hz
  have hK := sz_K fx.2 hz
  have hlt0 := hm.lt
  have hu1 := hu.1
  have hAn : ∀ x : Nat, s.heap.size ≤ x → (WA w s.heap.size) x := fun _ h => Or.inr h
  refine lv_aload_n hx hb dX3_dayOfYear_0 rfl (lv_at hl 0 rfl) ?_
  refine lv_iload_n hx hb dX3_dayOfYear_1 rfl (lv_at hl 1 rfl) ?_
  obtain ⟨r1, hr1⟩ := bex (a < 0 ∨ 5 < a)
  refine c_P (As := [.int (iI a)]) (rest := [.ref (w 0)]) fx hl (pm_X3_isNo l a r1 hr1 (by omega)) dX3_dayOfYear_2 k1113 k1114 k6 k1115 hd_X3_isNo rfl ⟨by decide, by decide⟩ (Nat.le_of_ble_eq_true rfl) ⟨by dsimp only; omega, by dsimp only; omega⟩ ?_
  have br1 : r1 = 0 ∨ r1 = 1 := hr1.elim (fun h => Or.inr h.1) (fun h => Or.inl h.1)
  refine q_con hx hb dX3_dayOfYear_5 ?_
  refine q_con hx hb dX3_dayOfYear_6 ?_
  obtain ⟨t2, f3, hq1t2, hq2t2⟩ := fails_ex r1 0 0 (by omega) (by omega) (by omega)
  have hmw : MWR θ S0 w s.heap r q dt sv th dn rf kn := ⟨hz, hu, hm, hd, hsv⟩
  refine c_M (w := w) (As := [.int (iI r1), .int (iI 0), .int (iI 0)]) (rest := []) (b := w 0) (C := RX3) fx hl (mw_fails θ l S0 _ w _ _ _ _ _ _ _ _ hmw r1 0 0 t2 f3 (by omega) hq1t2 hq2t2) (ob_recv hK hm.1 rfl) dX3_dayOfYear_7 k1119 k1121 ks10 k6 k1122 hd_X3_fails rfl ⟨by decide, by decide⟩ (Nat.le_of_ble_eq_true rfl) ⟨by dsimp only; omega, by dsimp only; omega⟩ hS (fun x hx => hx ▸ Or.inl (Or.inl rfl)) (fun H4 locs hmH4 hszH4 hk0H4 hS => ?_)
  have hkH4 : ∀ x : Nat, x < (s.heap).size → ¬ x = w 0 → H4[x]? = (s.heap)[x]? := hk0H4
  have hzH4 := hz0.at hAB hS
  have hltH4 := hmH4.lt
  refine q_ieq (tgt := 17) hx hb dX3_dayOfYear_10 (by decide) (by omega) (fun c5 => ?_) (fun c5 => ?_)
  · exact (show False by omega).elim
  · refine q_con hx hb dX3_dayOfYear_13 ?_
    refine lv_goto (tgt := 22) hx hb dX3_dayOfYear_14 (by decide) ?_
    obtain rfl : t2 = 1 := by omega
    have hmw : MWR θ S0 w H4 r q dt sv 1 dn rf kn := ⟨hzH4, hu, hmH4, hd, hsv⟩
    exact e_i hx hb hr hlk hS dX3_dayOfYear_22 (Nat.le_of_ble_eq_true rfl) (Nat.le_of_ble_eq_true rfl) ⟨ex_i (by omega), r, q, by first | exact hmw | (subst_vars; exact hmw) | (simp only [inI_self, inI_1, inI_31] at hmw; subst_vars; exact hmw), by first | exact nw_rf | exact nw_up (by omega) | exact nw_up2 (by omega), by first | exact nw_rf | exact nw_up (by omega) | exact nw_up2 (by omega)⟩
