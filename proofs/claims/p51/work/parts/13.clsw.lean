set_option maxHeartbeats 4000000 in
set_option maxRecDepth 100000 in
theorem ok_put (θ : TH) (l : Launch) (hl0 : l.stackTraces = false) (S0 : State) (H : Heap) (u : Nat → Nat) (dt sy sm sd : Nat → Int) (bc rf kn : Int) (hw : CWR θ S0 u H dt sy sm sd bc rf kn) (a v : Int) (h_0 : -2147483648 ≤ a ∧ a < 2147483648) (h_1 : -2147483648 ≤ v ∧ v < 2147483648) (h_2 : 0 ≤ a ∧ a < 6) : CT l yX1_put cX1_put 3 (some .int) 0 0 0 0 [.ref (u 0), .int (iI a), .int (iI v)] S0 H (fun v9 H1 => v9 = some (.int (iI v)) ∧ CW θ u H1 (up dt a.toNat (v)) sy sm sd (bc + 1) rf kn) (fun _ _ => False) (UA u H.size) := by
  refine ct_of (by decide +kernel) (Nat.le_of_ble_eq_true rfl) ?_
  intro pg en s mi args below meth co ls fx hs hr hlk hxt hin hl
  subst hs
  obtain ⟨hx, hb, hml, hown, hts⟩ := id fx.1
  have hS : va_S (UA u s.heap.size) s.heap s.heap [] := va_S.rf
  obtain ⟨hz, hu, ⟨ho, ha1, ha2, ha3, ha4, hsb⟩, hd, hsp⟩ := id hw
  have hAB := ua_b hu hz.2.1
  have hz0 := hz
  have hK := sz_K fx.2 hz
  refine lv_aload_n hx hb dX1_put_0 rfl (lv_at hl 0 rfl) ?_
  refine r_get (θ := θ) (C := RX1) (T := TX1) (N := 8) (ci := 7) hx hb hts gwX1 hown hK ho rfl 0 (by decide) k73 (fun _ h => h) (v := .ref (u 1)) rfl dX1_put_1 ?_
  refine lv_iload_n hx hb dX1_put_4 rfl (lv_at hl 1 rfl) ?_
  refine lv_iload_n hx hb dX1_put_5 rfl (lv_at hl 2 rfl) ?_
  refine r_iast (θ := θ) (a := (u 1)) hx hb hK ha1 (Or.inl ⟨1, by decide, rfl⟩) hS (i := a) (x := v) (by omega) (by decide) dX1_put_6 (fun H1 locs haH1 hszH1 hkH1 hS => ?_)
  have hkeH1 : ∀ i : Nat, i < 7 → ¬ i = 1 → H1[u i]? = (s.heap)[u i]? := fun i hi hne => hkH1 (u i) (fun z => hne (hu.1 i 1 hi (by decide) z))
  have ha2_H1 := ha2.kept (hkeH1 2 (by decide) (by decide))
  have ha3_H1 := ha3.kept (hkeH1 3 (by decide) (by decide))
  have ha4_H1 := ha4.kept (hkeH1 4 (by decide) (by decide))
  have ho_H1 := ho.kept (hkeH1 0 (by decide) (by decide))
  have hsb_H1 := hsbk hsb (hkeH1 5 (by decide) (by decide)) (hkeH1 6 (by decide) (by decide))
  have hzH1 := hz0.at hAB hS
  refine lv_aload_n hx hb dX1_put_7 rfl (lv_at hl 0 rfl) ?_
  refine lv_dup hx hb dX1_put_8 rfl ?_
  refine r_get (θ := θ) (C := RX1) (T := TX1) (N := 8) (ci := 7) hx hb hts gwX1 hown hK ho_H1 rfl 5 (by decide) k78 (fun _ h => h) (v := .int (iI bc)) rfl dX1_put_9 ?_
  refine q_con hx hb dX1_put_12 ?_
  refine q_add hx hb dX1_put_13 ?_
  refine r_put (θ := θ) (C := RX1) (T := TX1) (N := 8) (ci := 7) (v := .int (iI (bc + 1))) (ty := .int) hx hb hts gwX1 tyX1 tyX1_ok nmX1 hown hK ho_H1 (Or.inl ⟨0, by decide, rfl⟩) hS rfl 5 (by decide) k78 (fun _ h => h) rfl (by decide +kernel) rfl rfl (Nat.le_of_ble_eq_true rfl) dX1_put_14 (fun H2 locs hoH2 hszH2 hkH2 hS => ?_)
  have hkeH2 : ∀ i : Nat, i < 7 → ¬ i = 0 → H2[u i]? = (H1)[u i]? := fun i hi hne => hkH2 (u i) (fun z => hne (hu.1 i 0 hi (by decide) z))
  have haH1_H2 := haH1.kept (hkeH2 1 (by decide) (by decide))
  have ha2_H2 := ha2_H1.kept (hkeH2 2 (by decide) (by decide))
  have ha3_H2 := ha3_H1.kept (hkeH2 3 (by decide) (by decide))
  have ha4_H2 := ha4_H1.kept (hkeH2 4 (by decide) (by decide))
  have hsb_H2 := hsbk hsb_H1 (hkeH2 5 (by decide) (by decide)) (hkeH2 6 (by decide) (by decide))
  have hzH2 := hz0.at hAB hS
  have hoH2 : OB θ H2 (u 0) 7 [.ref (u 1), .ref (u 2), .ref (u 3), .ref (u 4), .ref (u 5), .int (iI (bc + 1)), .int (iI rf), .int (iI kn)] := hoH2
  refine lv_iload_n hx hb dX1_put_17 rfl (lv_at hl 2 rfl) ?_
  first | exact e_i hx hb hr hlk hS dX1_put_18 (Nat.le_refl _) (Nat.le_refl _) ⟨ex_i (by omega), by first | exact ⟨hoH2, haH1_H2, ha2_H2, ha3_H2, ha4_H2, hsb_H2⟩ | (subst_vars; exact ⟨hoH2, haH1_H2, ha2_H2, ha3_H2, ha4_H2, hsb_H2⟩)⟩ | exact (show False by omega).elim

set_option maxHeartbeats 4000000 in
set_option maxRecDepth 100000 in
theorem ok_putSpan (θ : TH) (l : Launch) (hl0 : l.stackTraces = false) (S0 : State) (H : Heap) (u : Nat → Nat) (dt sy sm sd : Nat → Int) (bc rf kn : Int) (hw : CWR θ S0 u H dt sy sm sd bc rf kn) (a x y z : Int) (h_0 : -2147483648 ≤ a ∧ a < 2147483648) (h_1 : -2147483648 ≤ x ∧ x < 2147483648) (h_2 : -2147483648 ≤ y ∧ y < 2147483648) (h_3 : -2147483648 ≤ z ∧ z < 2147483648) (h_4 : 0 ≤ a ∧ a < 3) : CT l yX1_putSpan cX1_putSpan 5 none 0 0 0 0 [.ref (u 0), .int (iI a), .int (iI x), .int (iI y), .int (iI z)] S0 H (fun v9 H1 => v9 = none ∧ CW θ u H1 dt (up sy a.toNat (x)) (up sm a.toNat (y)) (up sd a.toNat (z)) (bc + 1) rf kn) (fun _ _ => False) (UA u H.size) := by
  refine ct_of (by decide +kernel) (Nat.le_of_ble_eq_true rfl) ?_
  intro pg en s mi args below meth co ls fx hs hr hlk hxt hin hl
  subst hs
  obtain ⟨hx, hb, hml, hown, hts⟩ := id fx.1
  have hS : va_S (UA u s.heap.size) s.heap s.heap [] := va_S.rf
  obtain ⟨hz, hu, ⟨ho, ha1, ha2, ha3, ha4, hsb⟩, hd, hsp⟩ := id hw
  have hAB := ua_b hu hz.2.1
  have hz0 := hz
  have hK := sz_K fx.2 hz
  refine lv_aload_n hx hb dX1_putSpan_0 rfl (lv_at hl 0 rfl) ?_
  refine r_get (θ := θ) (C := RX1) (T := TX1) (N := 8) (ci := 7) hx hb hts gwX1 hown hK ho rfl 1 (by decide) k74 (fun _ h => h) (v := .ref (u 2)) rfl dX1_putSpan_1 ?_
  refine lv_iload_n hx hb dX1_putSpan_4 rfl (lv_at hl 1 rfl) ?_
  refine lv_iload_n hx hb dX1_putSpan_5 rfl (lv_at hl 2 rfl) ?_
  refine r_iast (θ := θ) (a := (u 2)) hx hb hK ha2 (Or.inl ⟨2, by decide, rfl⟩) hS (i := a) (x := x) (by omega) (by decide) dX1_putSpan_6 (fun H1 locs haH1 hszH1 hkH1 hS => ?_)
  have hkeH1 : ∀ i : Nat, i < 7 → ¬ i = 2 → H1[u i]? = (s.heap)[u i]? := fun i hi hne => hkH1 (u i) (fun z => hne (hu.1 i 2 hi (by decide) z))
  have ha1_H1 := ha1.kept (hkeH1 1 (by decide) (by decide))
  have ha3_H1 := ha3.kept (hkeH1 3 (by decide) (by decide))
  have ha4_H1 := ha4.kept (hkeH1 4 (by decide) (by decide))
  have ho_H1 := ho.kept (hkeH1 0 (by decide) (by decide))
  have hsb_H1 := hsbk hsb (hkeH1 5 (by decide) (by decide)) (hkeH1 6 (by decide) (by decide))
  have hzH1 := hz0.at hAB hS
  refine lv_aload_n hx hb dX1_putSpan_7 rfl (lv_at hl 0 rfl) ?_
  refine r_get (θ := θ) (C := RX1) (T := TX1) (N := 8) (ci := 7) hx hb hts gwX1 hown hK ho_H1 rfl 2 (by decide) k75 (fun _ h => h) (v := .ref (u 3)) rfl dX1_putSpan_8 ?_
  refine lv_iload_n hx hb dX1_putSpan_11 rfl (lv_at hl 1 rfl) ?_
  refine lv_iload_n hx hb dX1_putSpan_12 rfl (lv_at hl 3 rfl) ?_
  refine r_iast (θ := θ) (a := (u 3)) hx hb hK ha3_H1 (Or.inl ⟨3, by decide, rfl⟩) hS (i := a) (x := y) (by omega) (by decide) dX1_putSpan_13 (fun H2 locs haH2 hszH2 hkH2 hS => ?_)
  have hkeH2 : ∀ i : Nat, i < 7 → ¬ i = 3 → H2[u i]? = (H1)[u i]? := fun i hi hne => hkH2 (u i) (fun z => hne (hu.1 i 3 hi (by decide) z))
  have ha1_H2 := ha1_H1.kept (hkeH2 1 (by decide) (by decide))
  have haH1_H2 := haH1.kept (hkeH2 2 (by decide) (by decide))
  have ha4_H2 := ha4_H1.kept (hkeH2 4 (by decide) (by decide))
  have ho_H2 := ho_H1.kept (hkeH2 0 (by decide) (by decide))
  have hsb_H2 := hsbk hsb_H1 (hkeH2 5 (by decide) (by decide)) (hkeH2 6 (by decide) (by decide))
  have hzH2 := hz0.at hAB hS
  refine lv_aload_n hx hb dX1_putSpan_14 rfl (lv_at hl 0 rfl) ?_
  refine r_get (θ := θ) (C := RX1) (T := TX1) (N := 8) (ci := 7) hx hb hts gwX1 hown hK ho_H2 rfl 3 (by decide) k76 (fun _ h => h) (v := .ref (u 4)) rfl dX1_putSpan_15 ?_
  refine lv_iload_n hx hb dX1_putSpan_18 rfl (lv_at hl 1 rfl) ?_
  refine lv_iload hx hb dX1_putSpan_19 (lv_at hl 4 rfl) ?_
  refine r_iast (θ := θ) (a := (u 4)) hx hb hK ha4_H2 (Or.inl ⟨4, by decide, rfl⟩) hS (i := a) (x := z) (by omega) (by decide) dX1_putSpan_21 (fun H3 locs haH3 hszH3 hkH3 hS => ?_)
  have hkeH3 : ∀ i : Nat, i < 7 → ¬ i = 4 → H3[u i]? = (H2)[u i]? := fun i hi hne => hkH3 (u i) (fun z => hne (hu.1 i 4 hi (by decide) z))
  have ha1_H3 := ha1_H2.kept (hkeH3 1 (by decide) (by decide))
  have haH1_H3 := haH1_H2.kept (hkeH3 2 (by decide) (by decide))
  have haH2_H3 := haH2.kept (hkeH3 3 (by decide) (by decide))
  have ho_H3 := ho_H2.kept (hkeH3 0 (by decide) (by decide))
  have hsb_H3 := hsbk hsb_H2 (hkeH3 5 (by decide) (by decide)) (hkeH3 6 (by decide) (by decide))
  have hzH3 := hz0.at hAB hS
  refine lv_aload_n hx hb dX1_putSpan_22 rfl (lv_at hl 0 rfl) ?_
  refine lv_dup hx hb dX1_putSpan_23 rfl ?_
  refine r_get (θ := θ) (C := RX1) (T := TX1) (N := 8) (ci := 7) hx hb hts gwX1 hown hK ho_H3 rfl 5 (by decide) k78 (fun _ h => h) (v := .int (iI bc)) rfl dX1_putSpan_24 ?_
  refine q_con hx hb dX1_putSpan_27 ?_
  refine q_add hx hb dX1_putSpan_28 ?_
  refine r_put (θ := θ) (C := RX1) (T := TX1) (N := 8) (ci := 7) (v := .int (iI (bc + 1))) (ty := .int) hx hb hts gwX1 tyX1 tyX1_ok nmX1 hown hK ho_H3 (Or.inl ⟨0, by decide, rfl⟩) hS rfl 5 (by decide) k78 (fun _ h => h) rfl (by decide +kernel) rfl rfl (Nat.le_of_ble_eq_true rfl) dX1_putSpan_29 (fun H4 locs hoH4 hszH4 hkH4 hS => ?_)
  have hkeH4 : ∀ i : Nat, i < 7 → ¬ i = 0 → H4[u i]? = (H3)[u i]? := fun i hi hne => hkH4 (u i) (fun z => hne (hu.1 i 0 hi (by decide) z))
  have ha1_H4 := ha1_H3.kept (hkeH4 1 (by decide) (by decide))
  have haH1_H4 := haH1_H3.kept (hkeH4 2 (by decide) (by decide))
  have haH2_H4 := haH2_H3.kept (hkeH4 3 (by decide) (by decide))
  have haH3_H4 := haH3.kept (hkeH4 4 (by decide) (by decide))
  have hsb_H4 := hsbk hsb_H3 (hkeH4 5 (by decide) (by decide)) (hkeH4 6 (by decide) (by decide))
  have hzH4 := hz0.at hAB hS
  have hoH4 : OB θ H4 (u 0) 7 [.ref (u 1), .ref (u 2), .ref (u 3), .ref (u 4), .ref (u 5), .int (iI (bc + 1)), .int (iI rf), .int (iI kn)] := hoH4
  exact e_v hx hb hr hlk hS dX1_putSpan_32 (Nat.le_refl _) (Nat.le_refl _) ⟨rfl, by first | exact ⟨hoH4, ha1_H4, haH1_H4, haH2_H4, haH3_H4, hsb_H4⟩ | (subst_vars; exact ⟨hoH4, ha1_H4, haH1_H4, haH2_H4, haH3_H4, hsb_H4⟩)⟩

set_option maxHeartbeats 4000000 in
set_option maxRecDepth 100000 in
theorem ok_refuse (θ : TH) (l : Launch) (hl0 : l.stackTraces = false) (S0 : State) (H : Heap) (u : Nat → Nat) (dt sy sm sd : Nat → Int) (bc rf kn : Int) (hw : CWR θ S0 u H dt sy sm sd bc rf kn) : CT l yX1_refuse cX1_refuse 1 (some .int) 0 0 0 0 [.ref (u 0)] S0 H (fun v9 H1 => v9 = some (.int (iI (-9))) ∧ CW θ u H1 dt sy sm sd bc (rf + 1) kn) (fun _ _ => False) (UA u H.size) := by
  refine ct_of (by decide +kernel) (Nat.le_of_ble_eq_true rfl) ?_
  intro pg en s mi args below meth co ls fx hs hr hlk hxt hin hl
  subst hs
  obtain ⟨hx, hb, hml, hown, hts⟩ := id fx.1
  have hS : va_S (UA u s.heap.size) s.heap s.heap [] := va_S.rf
  obtain ⟨hz, hu, ⟨ho, ha1, ha2, ha3, ha4, hsb⟩, hd, hsp⟩ := id hw
  have hAB := ua_b hu hz.2.1
  have hz0 := hz
  have hK := sz_K fx.2 hz
  refine lv_aload_n hx hb dX1_refuse_0 rfl (lv_at hl 0 rfl) ?_
  refine lv_dup hx hb dX1_refuse_1 rfl ?_
  refine r_get (θ := θ) (C := RX1) (T := TX1) (N := 8) (ci := 7) hx hb hts gwX1 hown hK ho rfl 6 (by decide) k79 (fun _ h => h) (v := .int (iI rf)) rfl dX1_refuse_2 ?_
  refine q_con hx hb dX1_refuse_5 ?_
  refine q_add hx hb dX1_refuse_6 ?_
  refine r_put (θ := θ) (C := RX1) (T := TX1) (N := 8) (ci := 7) (v := .int (iI (rf + 1))) (ty := .int) hx hb hts gwX1 tyX1 tyX1_ok nmX1 hown hK ho (Or.inl ⟨0, by decide, rfl⟩) hS rfl 6 (by decide) k79 (fun _ h => h) rfl (by decide +kernel) rfl rfl (Nat.le_of_ble_eq_true rfl) dX1_refuse_7 (fun H1 locs hoH1 hszH1 hkH1 hS => ?_)
  have hkeH1 : ∀ i : Nat, i < 7 → ¬ i = 0 → H1[u i]? = (s.heap)[u i]? := fun i hi hne => hkH1 (u i) (fun z => hne (hu.1 i 0 hi (by decide) z))
  have ha1_H1 := ha1.kept (hkeH1 1 (by decide) (by decide))
  have ha2_H1 := ha2.kept (hkeH1 2 (by decide) (by decide))
  have ha3_H1 := ha3.kept (hkeH1 3 (by decide) (by decide))
  have ha4_H1 := ha4.kept (hkeH1 4 (by decide) (by decide))
  have hsb_H1 := hsbk hsb (hkeH1 5 (by decide) (by decide)) (hkeH1 6 (by decide) (by decide))
  have hzH1 := hz0.at hAB hS
  have hoH1 : OB θ H1 (u 0) 7 [.ref (u 1), .ref (u 2), .ref (u 3), .ref (u 4), .ref (u 5), .int (iI bc), .int (iI (rf + 1)), .int (iI kn)] := hoH1
  refine q_bip hx hb dX1_refuse_10 (by decide) ?_
  first | exact e_i hx hb hr hlk hS dX1_refuse_12 (Nat.le_refl _) (Nat.le_refl _) ⟨ex_i (by omega), by first | exact ⟨hoH1, ha1_H1, ha2_H1, ha3_H1, ha4_H1, hsb_H1⟩ | (subst_vars; exact ⟨hoH1, ha1_H1, ha2_H1, ha3_H1, ha4_H1, hsb_H1⟩)⟩ | exact (show False by omega).elim

set_option maxHeartbeats 4000000 in
set_option maxRecDepth 100000 in
theorem ok_knock (θ : TH) (l : Launch) (hl0 : l.stackTraces = false) (S0 : State) (H : Heap) (u : Nat → Nat) (dt sy sm sd : Nat → Int) (bc rf kn : Int) (hw : CWR θ S0 u H dt sy sm sd bc rf kn) : CT l yX1_knock cX1_knock 1 (some .int) 0 0 0 0 [.ref (u 0)] S0 H (fun v9 H1 => v9 = some (.int (iI (kn + 1))) ∧ CW θ u H1 dt sy sm sd bc rf (kn + 1)) (fun _ _ => False) (UA u H.size) := by
  refine ct_of (by decide +kernel) (Nat.le_of_ble_eq_true rfl) ?_
  intro pg en s mi args below meth co ls fx hs hr hlk hxt hin hl
  subst hs
  obtain ⟨hx, hb, hml, hown, hts⟩ := id fx.1
  have hS : va_S (UA u s.heap.size) s.heap s.heap [] := va_S.rf
  obtain ⟨hz, hu, ⟨ho, ha1, ha2, ha3, ha4, hsb⟩, hd, hsp⟩ := id hw
  have hAB := ua_b hu hz.2.1
  have hz0 := hz
  have hK := sz_K fx.2 hz
  refine lv_aload_n hx hb dX1_knock_0 rfl (lv_at hl 0 rfl) ?_
  refine lv_dup hx hb dX1_knock_1 rfl ?_
  refine r_get (θ := θ) (C := RX1) (T := TX1) (N := 8) (ci := 7) hx hb hts gwX1 hown hK ho rfl 7 (by decide) k80 (fun _ h => h) (v := .int (iI kn)) rfl dX1_knock_2 ?_
  refine q_con hx hb dX1_knock_5 ?_
  refine q_add hx hb dX1_knock_6 ?_
  refine r_put (θ := θ) (C := RX1) (T := TX1) (N := 8) (ci := 7) (v := .int (iI (kn + 1))) (ty := .int) hx hb hts gwX1 tyX1 tyX1_ok nmX1 hown hK ho (Or.inl ⟨0, by decide, rfl⟩) hS rfl 7 (by decide) k80 (fun _ h => h) rfl (by decide +kernel) rfl rfl (Nat.le_of_ble_eq_true rfl) dX1_knock_7 (fun H1 locs hoH1 hszH1 hkH1 hS => ?_)
  have hkeH1 : ∀ i : Nat, i < 7 → ¬ i = 0 → H1[u i]? = (s.heap)[u i]? := fun i hi hne => hkH1 (u i) (fun z => hne (hu.1 i 0 hi (by decide) z))
  have ha1_H1 := ha1.kept (hkeH1 1 (by decide) (by decide))
  have ha2_H1 := ha2.kept (hkeH1 2 (by decide) (by decide))
  have ha3_H1 := ha3.kept (hkeH1 3 (by decide) (by decide))
  have ha4_H1 := ha4.kept (hkeH1 4 (by decide) (by decide))
  have hsb_H1 := hsbk hsb (hkeH1 5 (by decide) (by decide)) (hkeH1 6 (by decide) (by decide))
  have hzH1 := hz0.at hAB hS
  have hoH1 : OB θ H1 (u 0) 7 [.ref (u 1), .ref (u 2), .ref (u 3), .ref (u 4), .ref (u 5), .int (iI bc), .int (iI rf), .int (iI (kn + 1))] := hoH1
  refine lv_aload_n hx hb dX1_knock_10 rfl (lv_at hl 0 rfl) ?_
  refine r_get (θ := θ) (C := RX1) (T := TX1) (N := 8) (ci := 7) hx hb hts gwX1 hown hK hoH1 rfl 7 (by decide) k80 (fun _ h => h) (v := .int (iI (kn + 1))) rfl dX1_knock_11 ?_
  first | exact e_i hx hb hr hlk hS dX1_knock_14 (Nat.le_refl _) (Nat.le_refl _) ⟨ex_i (by omega), by first | exact ⟨hoH1, ha1_H1, ha2_H1, ha3_H1, ha4_H1, hsb_H1⟩ | (subst_vars; exact ⟨hoH1, ha1_H1, ha2_H1, ha3_H1, ha4_H1, hsb_H1⟩)⟩ | exact (show False by omega).elim

set_option maxHeartbeats 4000000 in
set_option maxRecDepth 100000 in
theorem ok_of (θ : TH) (l : Launch) (hl0 : l.stackTraces = false) (S0 : State) (H : Heap) (u : Nat → Nat) (dt sy sm sd : Nat → Int) (bc rf kn : Int) (hw : CWR θ S0 u H dt sy sm sd bc rf kn) (a y m1 k m : Int) (h_0 : -2147483648 ≤ a ∧ a < 2147483648) (h_1 : -2147483648 ≤ y ∧ y < 2147483648) (h_2 : -2147483648 ≤ m1 ∧ m1 < 2147483648) (h_3 : -2147483648 ≤ k ∧ k < 2147483648) (h_4 : m = 12 * y + m1 - 1) (h_5 : 0 ≤ a ∧ a < 6) (h_6 : -9999 ≤ y ∧ y ≤ 9999) (h_7 : 1 ≤ m1 ∧ m1 ≤ 12) (h_8 : 1 ≤ k ∧ k ≤ 31) (h_9 : k ≤ fI (m + 1) - fI m) : CT l yX1_of cX1_of 6 (some .int) 4 88 0 0 [.ref (u 0), .int (iI a), .int (iI y), .int (iI m1), .int (iI k)] S0 H (fun v9 H1 => v9 = some (.int (iI (inI m k))) ∧ CW θ u H1 (up dt a.toNat (inI m k)) sy sm sd (bc + 1) rf kn) (fun _ _ => False) (UA u H.size) := by
  refine ct_of (by decide +kernel) (Nat.le_of_ble_eq_true rfl) ?_
  intro pg en s mi args below meth co ls fx hs hr hlk hxt hin hl
  subst hs
  obtain ⟨hx, hb, hml, hown, hts⟩ := id fx.1
  have hS : va_S (UA u s.heap.size) s.heap s.heap [] := va_S.rf
  obtain ⟨hz, hu, ⟨ho, ha1, ha2, ha3, ha4, hsb⟩, hd, hsp⟩ := id hw
  have hAB := ua_b hu hz.2.1
  have hz0 := hz
  have hK := sz_K fx.2 hz
  refine lv_iload_n hx hb dX1_of_0 rfl (lv_at hl 1 rfl) ?_
  refine c_N (As := [.int (iI a)]) (rest := []) fx hl (nok_needPlace l S0 _ a (by omega) (by omega)) dX1_of_1 k260 k261 k1 k262 hd_X1_needPlace rfl ⟨by decide, by decide⟩ (Nat.le_of_ble_eq_true rfl) ⟨by dsimp only; omega, by dsimp only; omega⟩ ?_
  refine lv_iload_n hx hb dX1_of_4 rfl (lv_at hl 2 rfl) ?_
  refine q_sip hx hb dX1_of_5 (by decide) ?_
  refine q_sip hx hb dX1_of_8 (by decide) ?_
  refine c_N (As := [.int (iI y), .int (iI (-9999)), .int (iI 9999)]) (rest := []) fx hl (nok_needWithin l S0 _ y (-9999) 9999 (by omega) (by omega) (by omega) (by omega)) dX1_of_11 k172 k173 k1 k174 hd_X1_needWithin rfl ⟨by decide, by decide⟩ (Nat.le_of_ble_eq_true rfl) ⟨by dsimp only; omega, by dsimp only; omega⟩ ?_
  refine lv_iload_n hx hb dX1_of_14 rfl (lv_at hl 3 rfl) ?_
  refine q_con hx hb dX1_of_15 ?_
  refine q_bip hx hb dX1_of_16 (by decide) ?_
  refine c_N (As := [.int (iI m1), .int (iI 1), .int (iI 12)]) (rest := []) fx hl (nok_needWithin l S0 _ m1 1 12 (by omega) (by omega) (by omega) (by omega)) dX1_of_18 k172 k173 k1 k174 hd_X1_needWithin rfl ⟨by decide, by decide⟩ (Nat.le_of_ble_eq_true rfl) ⟨by dsimp only; omega, by dsimp only; omega⟩ ?_
  refine lv_iload hx hb dX1_of_21 (lv_at hl 4 rfl) ?_
  refine q_con hx hb dX1_of_23 ?_
  refine q_bip hx hb dX1_of_24 (by decide) ?_
  refine c_N (As := [.int (iI k), .int (iI 1), .int (iI 31)]) (rest := []) fx hl (nok_needWithin l S0 _ k 1 31 (by omega) (by omega) (by omega) (by omega)) dX1_of_26 k172 k173 k1 k174 hd_X1_needWithin rfl ⟨by decide, by decide⟩ (Nat.le_of_ble_eq_true rfl) ⟨by dsimp only; omega, by dsimp only; omega⟩ ?_
  refine q_bip hx hb dX1_of_29 (by decide) ?_
  refine lv_iload_n hx hb dX1_of_31 rfl (lv_at hl 2 rfl) ?_
  refine q_mul hx hb dX1_of_32 ?_
  refine lv_iload_n hx hb dX1_of_33 rfl (lv_at hl 3 rfl) ?_
  refine q_add hx hb dX1_of_34 ?_
  refine q_con hx hb dX1_of_35 ?_
  refine q_sub hx hb dX1_of_36 ?_
  refine q_as (m) (by omega) ?_
  refine lv_istore (lv' := [(5, .int (iI m)), (0, .ref (u 0)), (1, .int (iI a)), (2, .int (iI y)), (3, .int (iI m1)), (4, .int (iI k))]) hx hb dX1_of_37 hl (by decide) rfl (fun ls hl => ?_)
  refine lv_iload hx hb dX1_of_39 (lv_at hl 0 rfl) ?_
  refine lv_iload hx hb dX1_of_41 (lv_at hl 5 rfl) ?_
  refine c_N (As := [.int (iI m), .int (iI k)]) (rest := []) fx hl (nok_needDayOfMonth l S0 _ m k (by omega) (by omega) (by omega)) dX1_of_43 k703 k704 k1 k705 hd_X1_needDayOfMonth rfl ⟨by decide, by decide⟩ (Nat.le_of_ble_eq_true rfl) ⟨by dsimp only; omega, by dsimp only; omega⟩ ?_
  refine lv_aload_n hx hb dX1_of_46 rfl (lv_at hl 1 rfl) ?_
  refine lv_iload_n hx hb dX1_of_47 rfl (lv_at hl 2 rfl) ?_
  refine lv_iload hx hb dX1_of_48 (lv_at hl 0 rfl) ?_
  refine lv_iload hx hb dX1_of_50 (lv_at hl 5 rfl) ?_
  refine c_P (As := [.int (iI m), .int (iI k)]) (rest := [.int (iI a), .ref (u 0)]) fx hl (pm_X0_dateIn l m k (by omega) (by omega)) dX1_of_52 k722 k132 k13 k133 hd_X0_dateIn rfl ⟨by decide, by decide⟩ (Nat.le_of_ble_eq_true rfl) ⟨by omega, by omega⟩ ?_
  have t0z1 := inI_s (m := m) (k := k) (by omega)
  have t1z1 := fI_bd m
  have t2z1 := fI_bd (m + 1)
  have hcw := hw
  refine c_W (As := [.int (iI a), .int (iI (inI m k))]) (rest := []) (b := u 0) (C := RX1) fx hl (ok_put θ l hl0 S0 _ u _ _ _ _ _ _ _ hcw a (inI m k) (by omega) (by omega) (by omega)) (ob_recv hK ho rfl) dX1_of_55 k723 k725 ks7 k1 k726 hd_X1_put rfl ⟨by decide, by decide⟩ (Nat.le_of_ble_eq_true rfl) ⟨by dsimp only; omega, by dsimp only; omega⟩ hS (fun q h => h.elim Or.inl (fun h => Or.inr (Nat.le_trans hS.1 h))) (fun H2 locs hwH2 hszH2 hkH2 hS => ?_)
  obtain ⟨hoH2, ha1H2, ha2H2, ha3H2, ha4H2, hsbH2⟩ := hwH2
  have hzH2 := hz0.at hAB hS
  first | exact e_i hx hb hr hlk hS dX1_of_58 (Nat.le_refl _) (Nat.le_refl _) ⟨ex_i (by omega), by first | exact ⟨hoH2, ha1H2, ha2H2, ha3H2, ha4H2, hsbH2⟩ | (subst_vars; exact ⟨hoH2, ha1H2, ha2H2, ha3H2, ha4H2, hsbH2⟩)⟩ | exact (show False by omega).elim

set_option maxHeartbeats 4000000 in
set_option maxRecDepth 100000 in
theorem no1_of (θ : TH) (l : Launch) (hl0 : l.stackTraces = false) (S0 : State) (H : Heap) (u : Nat → Nat) (dt sy sm sd : Nat → Int) (bc rf kn : Int) (hw : CWR θ S0 u H dt sy sm sd bc rf kn) (a y m1 k m : Int) (h_0 : -2147483648 ≤ a ∧ a < 2147483648) (h_1 : -2147483648 ≤ y ∧ y < 2147483648) (h_2 : -2147483648 ≤ m1 ∧ m1 < 2147483648) (h_3 : -2147483648 ≤ k ∧ k < 2147483648) (h_4 : m = 12 * y + m1 - 1) (h_5 : ¬ (0 ≤ a ∧ a < 6)) : TX l yX1_of cX1_of 6 (some .int) 7 110 [.ref (u 0), .int (iI a), .int (iI y), .int (iI m1), .int (iI k)] S0 H "java/lang/IndexOutOfBoundsException" := by
  refine ct_of (by decide +kernel) (Nat.le_of_ble_eq_true rfl) ?_
  intro pg en s mi args below meth co ls fx hs hr hlk hxt hin hl
  subst hs
  obtain ⟨hx, hb, hml, hown, hts⟩ := id fx.1
  have hS : va_S (fun q : Nat => s.heap.size ≤ q) s.heap s.heap [] := va_S.rf
  obtain ⟨hz, hu, ⟨ho, ha1, ha2, ha3, ha4, hsb⟩, hd, hsp⟩ := id hw
  have hAB : ∀ q : Nat, (fun q : Nat => s.heap.size ≤ q) q → θ.2.2.2 ≤ q := fun q h => Nat.le_trans hz.2.1 h
  have hz0 := hz
  have hK := sz_K fx.2 hz
  refine lv_iload_n hx hb dX1_of_0 rfl (lv_at hl 1 rfl) ?_
  exact e_cT (As := [.int (iI a)]) (rest := []) fx hl (nno_needPlace θ l hl0 S0 _ hz a (by omega) (by omega)) dX1_of_1 k260 k261 k1 k262 hd_X1_needPlace rfl ⟨by decide, by decide⟩ (Nat.le_of_ble_eq_true rfl) ⟨by decide, by decide⟩ ⟨by decide, by decide⟩ hS (fun _ h => h) hxt hlk (fun H1 h1 h2 => ⟨rfl, h1, h2⟩)

set_option maxHeartbeats 4000000 in
set_option maxRecDepth 100000 in
theorem no2_of (θ : TH) (l : Launch) (hl0 : l.stackTraces = false) (S0 : State) (H : Heap) (u : Nat → Nat) (dt sy sm sd : Nat → Int) (bc rf kn : Int) (hw : CWR θ S0 u H dt sy sm sd bc rf kn) (a y m1 k m : Int) (h_0 : -2147483648 ≤ a ∧ a < 2147483648) (h_1 : -2147483648 ≤ y ∧ y < 2147483648) (h_2 : -2147483648 ≤ m1 ∧ m1 < 2147483648) (h_3 : -2147483648 ≤ k ∧ k < 2147483648) (h_4 : m = 12 * y + m1 - 1) (h_5 : 0 ≤ a ∧ a < 6) (h_6 : ¬ (-9999 ≤ y ∧ y ≤ 9999)) : TX l yX1_of cX1_of 6 (some .int) 7 112 [.ref (u 0), .int (iI a), .int (iI y), .int (iI m1), .int (iI k)] S0 H "java/lang/IllegalArgumentException" := by
  refine ct_of (by decide +kernel) (Nat.le_of_ble_eq_true rfl) ?_
  intro pg en s mi args below meth co ls fx hs hr hlk hxt hin hl
  subst hs
  obtain ⟨hx, hb, hml, hown, hts⟩ := id fx.1
  have hS : va_S (fun q : Nat => s.heap.size ≤ q) s.heap s.heap [] := va_S.rf
  obtain ⟨hz, hu, ⟨ho, ha1, ha2, ha3, ha4, hsb⟩, hd, hsp⟩ := id hw
  have hAB : ∀ q : Nat, (fun q : Nat => s.heap.size ≤ q) q → θ.2.2.2 ≤ q := fun q h => Nat.le_trans hz.2.1 h
  have hz0 := hz
  have hK := sz_K fx.2 hz
  refine lv_iload_n hx hb dX1_of_0 rfl (lv_at hl 1 rfl) ?_
  refine c_N (As := [.int (iI a)]) (rest := []) fx hl (nok_needPlace l S0 _ a (by omega) (by omega)) dX1_of_1 k260 k261 k1 k262 hd_X1_needPlace rfl ⟨by decide, by decide⟩ (Nat.le_of_ble_eq_true rfl) ⟨by dsimp only; omega, by dsimp only; omega⟩ ?_
  refine lv_iload_n hx hb dX1_of_4 rfl (lv_at hl 2 rfl) ?_
  refine q_sip hx hb dX1_of_5 (by decide) ?_
  refine q_sip hx hb dX1_of_8 (by decide) ?_
  exact e_cT (As := [.int (iI y), .int (iI (-9999)), .int (iI 9999)]) (rest := []) fx hl (nno_needWithin θ l hl0 S0 _ hz y (-9999) 9999 (by omega) (by omega) (by omega) (by omega)) dX1_of_11 k172 k173 k1 k174 hd_X1_needWithin rfl ⟨by decide, by decide⟩ (Nat.le_of_ble_eq_true rfl) ⟨by decide, by decide⟩ ⟨by decide, by decide⟩ hS (fun _ h => h) hxt hlk (fun H1 h1 h2 => ⟨rfl, h1, h2⟩)

set_option maxHeartbeats 4000000 in
set_option maxRecDepth 100000 in
theorem no3_of (θ : TH) (l : Launch) (hl0 : l.stackTraces = false) (S0 : State) (H : Heap) (u : Nat → Nat) (dt sy sm sd : Nat → Int) (bc rf kn : Int) (hw : CWR θ S0 u H dt sy sm sd bc rf kn) (a y m1 k m : Int) (h_0 : -2147483648 ≤ a ∧ a < 2147483648) (h_1 : -2147483648 ≤ y ∧ y < 2147483648) (h_2 : -2147483648 ≤ m1 ∧ m1 < 2147483648) (h_3 : -2147483648 ≤ k ∧ k < 2147483648) (h_4 : m = 12 * y + m1 - 1) (h_5 : 0 ≤ a ∧ a < 6) (h_6 : -9999 ≤ y ∧ y ≤ 9999) (h_7 : ¬ (1 ≤ m1 ∧ m1 ≤ 12)) : TX l yX1_of cX1_of 6 (some .int) 7 112 [.ref (u 0), .int (iI a), .int (iI y), .int (iI m1), .int (iI k)] S0 H "java/lang/IllegalArgumentException" := by
  refine ct_of (by decide +kernel) (Nat.le_of_ble_eq_true rfl) ?_
  intro pg en s mi args below meth co ls fx hs hr hlk hxt hin hl
  subst hs
  obtain ⟨hx, hb, hml, hown, hts⟩ := id fx.1
  have hS : va_S (fun q : Nat => s.heap.size ≤ q) s.heap s.heap [] := va_S.rf
  obtain ⟨hz, hu, ⟨ho, ha1, ha2, ha3, ha4, hsb⟩, hd, hsp⟩ := id hw
  have hAB : ∀ q : Nat, (fun q : Nat => s.heap.size ≤ q) q → θ.2.2.2 ≤ q := fun q h => Nat.le_trans hz.2.1 h
  have hz0 := hz
  have hK := sz_K fx.2 hz
  refine lv_iload_n hx hb dX1_of_0 rfl (lv_at hl 1 rfl) ?_
  refine c_N (As := [.int (iI a)]) (rest := []) fx hl (nok_needPlace l S0 _ a (by omega) (by omega)) dX1_of_1 k260 k261 k1 k262 hd_X1_needPlace rfl ⟨by decide, by decide⟩ (Nat.le_of_ble_eq_true rfl) ⟨by dsimp only; omega, by dsimp only; omega⟩ ?_
  refine lv_iload_n hx hb dX1_of_4 rfl (lv_at hl 2 rfl) ?_
  refine q_sip hx hb dX1_of_5 (by decide) ?_
  refine q_sip hx hb dX1_of_8 (by decide) ?_
  refine c_N (As := [.int (iI y), .int (iI (-9999)), .int (iI 9999)]) (rest := []) fx hl (nok_needWithin l S0 _ y (-9999) 9999 (by omega) (by omega) (by omega) (by omega)) dX1_of_11 k172 k173 k1 k174 hd_X1_needWithin rfl ⟨by decide, by decide⟩ (Nat.le_of_ble_eq_true rfl) ⟨by dsimp only; omega, by dsimp only; omega⟩ ?_
  refine lv_iload_n hx hb dX1_of_14 rfl (lv_at hl 3 rfl) ?_
  refine q_con hx hb dX1_of_15 ?_
  refine q_bip hx hb dX1_of_16 (by decide) ?_
  exact e_cT (As := [.int (iI m1), .int (iI 1), .int (iI 12)]) (rest := []) fx hl (nno_needWithin θ l hl0 S0 _ hz m1 1 12 (by omega) (by omega) (by omega) (by omega)) dX1_of_18 k172 k173 k1 k174 hd_X1_needWithin rfl ⟨by decide, by decide⟩ (Nat.le_of_ble_eq_true rfl) ⟨by decide, by decide⟩ ⟨by decide, by decide⟩ hS (fun _ h => h) hxt hlk (fun H1 h1 h2 => ⟨rfl, h1, h2⟩)

set_option maxHeartbeats 4000000 in
set_option maxRecDepth 100000 in
theorem no4_of (θ : TH) (l : Launch) (hl0 : l.stackTraces = false) (S0 : State) (H : Heap) (u : Nat → Nat) (dt sy sm sd : Nat → Int) (bc rf kn : Int) (hw : CWR θ S0 u H dt sy sm sd bc rf kn) (a y m1 k m : Int) (h_0 : -2147483648 ≤ a ∧ a < 2147483648) (h_1 : -2147483648 ≤ y ∧ y < 2147483648) (h_2 : -2147483648 ≤ m1 ∧ m1 < 2147483648) (h_3 : -2147483648 ≤ k ∧ k < 2147483648) (h_4 : m = 12 * y + m1 - 1) (h_5 : 0 ≤ a ∧ a < 6) (h_6 : -9999 ≤ y ∧ y ≤ 9999) (h_7 : 1 ≤ m1 ∧ m1 ≤ 12) (h_8 : ¬ (1 ≤ k ∧ k ≤ 31)) : TX l yX1_of cX1_of 6 (some .int) 7 112 [.ref (u 0), .int (iI a), .int (iI y), .int (iI m1), .int (iI k)] S0 H "java/lang/IllegalArgumentException" := by
  refine ct_of (by decide +kernel) (Nat.le_of_ble_eq_true rfl) ?_
  intro pg en s mi args below meth co ls fx hs hr hlk hxt hin hl
  subst hs
  obtain ⟨hx, hb, hml, hown, hts⟩ := id fx.1
  have hS : va_S (fun q : Nat => s.heap.size ≤ q) s.heap s.heap [] := va_S.rf
  obtain ⟨hz, hu, ⟨ho, ha1, ha2, ha3, ha4, hsb⟩, hd, hsp⟩ := id hw
  have hAB : ∀ q : Nat, (fun q : Nat => s.heap.size ≤ q) q → θ.2.2.2 ≤ q := fun q h => Nat.le_trans hz.2.1 h
  have hz0 := hz
  have hK := sz_K fx.2 hz
  refine lv_iload_n hx hb dX1_of_0 rfl (lv_at hl 1 rfl) ?_
  refine c_N (As := [.int (iI a)]) (rest := []) fx hl (nok_needPlace l S0 _ a (by omega) (by omega)) dX1_of_1 k260 k261 k1 k262 hd_X1_needPlace rfl ⟨by decide, by decide⟩ (Nat.le_of_ble_eq_true rfl) ⟨by dsimp only; omega, by dsimp only; omega⟩ ?_
  refine lv_iload_n hx hb dX1_of_4 rfl (lv_at hl 2 rfl) ?_
  refine q_sip hx hb dX1_of_5 (by decide) ?_
  refine q_sip hx hb dX1_of_8 (by decide) ?_
  refine c_N (As := [.int (iI y), .int (iI (-9999)), .int (iI 9999)]) (rest := []) fx hl (nok_needWithin l S0 _ y (-9999) 9999 (by omega) (by omega) (by omega) (by omega)) dX1_of_11 k172 k173 k1 k174 hd_X1_needWithin rfl ⟨by decide, by decide⟩ (Nat.le_of_ble_eq_true rfl) ⟨by dsimp only; omega, by dsimp only; omega⟩ ?_
  refine lv_iload_n hx hb dX1_of_14 rfl (lv_at hl 3 rfl) ?_
  refine q_con hx hb dX1_of_15 ?_
  refine q_bip hx hb dX1_of_16 (by decide) ?_
  refine c_N (As := [.int (iI m1), .int (iI 1), .int (iI 12)]) (rest := []) fx hl (nok_needWithin l S0 _ m1 1 12 (by omega) (by omega) (by omega) (by omega)) dX1_of_18 k172 k173 k1 k174 hd_X1_needWithin rfl ⟨by decide, by decide⟩ (Nat.le_of_ble_eq_true rfl) ⟨by dsimp only; omega, by dsimp only; omega⟩ ?_
  refine lv_iload hx hb dX1_of_21 (lv_at hl 4 rfl) ?_
  refine q_con hx hb dX1_of_23 ?_
  refine q_bip hx hb dX1_of_24 (by decide) ?_
  exact e_cT (As := [.int (iI k), .int (iI 1), .int (iI 31)]) (rest := []) fx hl (nno_needWithin θ l hl0 S0 _ hz k 1 31 (by omega) (by omega) (by omega) (by omega)) dX1_of_26 k172 k173 k1 k174 hd_X1_needWithin rfl ⟨by decide, by decide⟩ (Nat.le_of_ble_eq_true rfl) ⟨by decide, by decide⟩ ⟨by decide, by decide⟩ hS (fun _ h => h) hxt hlk (fun H1 h1 h2 => ⟨rfl, h1, h2⟩)

set_option maxHeartbeats 4000000 in
set_option maxRecDepth 100000 in
theorem no5_of (θ : TH) (l : Launch) (hl0 : l.stackTraces = false) (S0 : State) (H : Heap) (u : Nat → Nat) (dt sy sm sd : Nat → Int) (bc rf kn : Int) (hw : CWR θ S0 u H dt sy sm sd bc rf kn) (a y m1 k m : Int) (h_0 : -2147483648 ≤ a ∧ a < 2147483648) (h_1 : -2147483648 ≤ y ∧ y < 2147483648) (h_2 : -2147483648 ≤ m1 ∧ m1 < 2147483648) (h_3 : -2147483648 ≤ k ∧ k < 2147483648) (h_4 : m = 12 * y + m1 - 1) (h_5 : 0 ≤ a ∧ a < 6) (h_6 : -9999 ≤ y ∧ y ≤ 9999) (h_7 : 1 ≤ m1 ∧ m1 ≤ 12) (h_8 : 1 ≤ k ∧ k ≤ 31) (h_9 : ¬ (k ≤ fI (m + 1) - fI m)) : TX l yX1_of cX1_of 6 (some .int) 7 111 [.ref (u 0), .int (iI a), .int (iI y), .int (iI m1), .int (iI k)] S0 H "java/lang/IllegalStateException" := by
  refine ct_of (by decide +kernel) (Nat.le_of_ble_eq_true rfl) ?_
  intro pg en s mi args below meth co ls fx hs hr hlk hxt hin hl
  subst hs
  obtain ⟨hx, hb, hml, hown, hts⟩ := id fx.1
  have hS : va_S (fun q : Nat => s.heap.size ≤ q) s.heap s.heap [] := va_S.rf
  obtain ⟨hz, hu, ⟨ho, ha1, ha2, ha3, ha4, hsb⟩, hd, hsp⟩ := id hw
  have hAB : ∀ q : Nat, (fun q : Nat => s.heap.size ≤ q) q → θ.2.2.2 ≤ q := fun q h => Nat.le_trans hz.2.1 h
  have hz0 := hz
  have hK := sz_K fx.2 hz
  refine lv_iload_n hx hb dX1_of_0 rfl (lv_at hl 1 rfl) ?_
  refine c_N (As := [.int (iI a)]) (rest := []) fx hl (nok_needPlace l S0 _ a (by omega) (by omega)) dX1_of_1 k260 k261 k1 k262 hd_X1_needPlace rfl ⟨by decide, by decide⟩ (Nat.le_of_ble_eq_true rfl) ⟨by dsimp only; omega, by dsimp only; omega⟩ ?_
  refine lv_iload_n hx hb dX1_of_4 rfl (lv_at hl 2 rfl) ?_
  refine q_sip hx hb dX1_of_5 (by decide) ?_
  refine q_sip hx hb dX1_of_8 (by decide) ?_
  refine c_N (As := [.int (iI y), .int (iI (-9999)), .int (iI 9999)]) (rest := []) fx hl (nok_needWithin l S0 _ y (-9999) 9999 (by omega) (by omega) (by omega) (by omega)) dX1_of_11 k172 k173 k1 k174 hd_X1_needWithin rfl ⟨by decide, by decide⟩ (Nat.le_of_ble_eq_true rfl) ⟨by dsimp only; omega, by dsimp only; omega⟩ ?_
  refine lv_iload_n hx hb dX1_of_14 rfl (lv_at hl 3 rfl) ?_
  refine q_con hx hb dX1_of_15 ?_
  refine q_bip hx hb dX1_of_16 (by decide) ?_
  refine c_N (As := [.int (iI m1), .int (iI 1), .int (iI 12)]) (rest := []) fx hl (nok_needWithin l S0 _ m1 1 12 (by omega) (by omega) (by omega) (by omega)) dX1_of_18 k172 k173 k1 k174 hd_X1_needWithin rfl ⟨by decide, by decide⟩ (Nat.le_of_ble_eq_true rfl) ⟨by dsimp only; omega, by dsimp only; omega⟩ ?_
  refine lv_iload hx hb dX1_of_21 (lv_at hl 4 rfl) ?_
  refine q_con hx hb dX1_of_23 ?_
  refine q_bip hx hb dX1_of_24 (by decide) ?_
  refine c_N (As := [.int (iI k), .int (iI 1), .int (iI 31)]) (rest := []) fx hl (nok_needWithin l S0 _ k 1 31 (by omega) (by omega) (by omega) (by omega)) dX1_of_26 k172 k173 k1 k174 hd_X1_needWithin rfl ⟨by decide, by decide⟩ (Nat.le_of_ble_eq_true rfl) ⟨by dsimp only; omega, by dsimp only; omega⟩ ?_
  refine q_bip hx hb dX1_of_29 (by decide) ?_
  refine lv_iload_n hx hb dX1_of_31 rfl (lv_at hl 2 rfl) ?_
  refine q_mul hx hb dX1_of_32 ?_
  refine lv_iload_n hx hb dX1_of_33 rfl (lv_at hl 3 rfl) ?_
  refine q_add hx hb dX1_of_34 ?_
  refine q_con hx hb dX1_of_35 ?_
  refine q_sub hx hb dX1_of_36 ?_
  refine q_as (m) (by omega) ?_
  refine lv_istore (lv' := [(5, .int (iI m)), (0, .ref (u 0)), (1, .int (iI a)), (2, .int (iI y)), (3, .int (iI m1)), (4, .int (iI k))]) hx hb dX1_of_37 hl (by decide) rfl (fun ls hl => ?_)
  refine lv_iload hx hb dX1_of_39 (lv_at hl 0 rfl) ?_
  refine lv_iload hx hb dX1_of_41 (lv_at hl 5 rfl) ?_
  exact e_cT (As := [.int (iI m), .int (iI k)]) (rest := []) fx hl (nno_needDayOfMonth θ l hl0 S0 _ hz m k (by omega) (by omega) (by omega)) dX1_of_43 k703 k704 k1 k705 hd_X1_needDayOfMonth rfl ⟨by decide, by decide⟩ (Nat.le_of_ble_eq_true rfl) ⟨by decide, by decide⟩ ⟨by decide, by decide⟩ hS (fun _ h => h) hxt hlk (fun H1 h1 h2 => ⟨rfl, h1, h2⟩)

set_option maxHeartbeats 4000000 in
set_option maxRecDepth 100000 in
theorem ok_ofDay (θ : TH) (l : Launch) (hl0 : l.stackTraces = false) (S0 : State) (H : Heap) (u : Nat → Nat) (dt sy sm sd : Nat → Int) (bc rf kn : Int) (hw : CWR θ S0 u H dt sy sm sd bc rf kn) (a n : Int) (h_0 : -2147483648 ≤ a ∧ a < 2147483648) (h_1 : -2147483648 ≤ n ∧ n < 2147483648) (h_2 : 0 ≤ a ∧ a < 6) (h_3 : -4371587 ≤ n ∧ n ≤ 2932896) : CT l yX1_ofDay cX1_ofDay 3 (some .int) 2 42 0 0 [.ref (u 0), .int (iI a), .int (iI n)] S0 H (fun v9 H1 => v9 = some (.int (iI (wI n))) ∧ CW θ u H1 (up dt a.toNat (n)) sy sm sd (bc + 1) rf kn) (fun _ _ => False) (UA u H.size) := by
  refine ct_of (by decide +kernel) (Nat.le_of_ble_eq_true rfl) ?_
  intro pg en s mi args below meth co ls fx hs hr hlk hxt hin hl
  subst hs
  obtain ⟨hx, hb, hml, hown, hts⟩ := id fx.1
  have hS : va_S (UA u s.heap.size) s.heap s.heap [] := va_S.rf
  obtain ⟨hz, hu, ⟨ho, ha1, ha2, ha3, ha4, hsb⟩, hd, hsp⟩ := id hw
  have hAB := ua_b hu hz.2.1
  have hz0 := hz
  have hK := sz_K fx.2 hz
  refine lv_iload_n hx hb dX1_ofDay_0 rfl (lv_at hl 1 rfl) ?_
  refine c_N (As := [.int (iI a)]) (rest := []) fx hl (nok_needPlace l S0 _ a (by omega) (by omega)) dX1_ofDay_1 k260 k261 k1 k262 hd_X1_needPlace rfl ⟨by decide, by decide⟩ (Nat.le_of_ble_eq_true rfl) ⟨by dsimp only; omega, by dsimp only; omega⟩ ?_
  refine lv_iload_n hx hb dX1_ofDay_4 rfl (lv_at hl 2 rfl) ?_
  refine q_ldc (n := -4371587) hx hb hown (hts _ k734) (by decide) dX1_ofDay_5 ?_
  refine q_ldc (n := 2932896) hx hb hown (hts _ k735) (by decide) dX1_ofDay_7 ?_
  refine c_N (As := [.int (iI n), .int (iI (-4371587)), .int (iI 2932896)]) (rest := []) fx hl (nok_needWithin l S0 _ n (-4371587) 2932896 (by omega) (by omega) (by omega) (by omega)) dX1_ofDay_9 k172 k173 k1 k174 hd_X1_needWithin rfl ⟨by decide, by decide⟩ (Nat.le_of_ble_eq_true rfl) ⟨by dsimp only; omega, by dsimp only; omega⟩ ?_
  refine lv_aload_n hx hb dX1_ofDay_12 rfl (lv_at hl 0 rfl) ?_
  refine lv_iload_n hx hb dX1_ofDay_13 rfl (lv_at hl 1 rfl) ?_
  refine lv_iload_n hx hb dX1_ofDay_14 rfl (lv_at hl 2 rfl) ?_
  have hcw := hw
  refine c_W (As := [.int (iI a), .int (iI n)]) (rest := []) (b := u 0) (C := RX1) fx hl (ok_put θ l hl0 S0 _ u _ _ _ _ _ _ _ hcw a n (by omega) (by omega) (by omega)) (ob_recv hK ho rfl) dX1_ofDay_15 k723 k725 ks7 k1 k726 hd_X1_put rfl ⟨by decide, by decide⟩ (Nat.le_of_ble_eq_true rfl) ⟨by dsimp only; omega, by dsimp only; omega⟩ hS (fun q h => h.elim Or.inl (fun h => Or.inr (Nat.le_trans hS.1 h))) (fun H1 locs hwH1 hszH1 hkH1 hS => ?_)
  obtain ⟨hoH1, ha1H1, ha2H1, ha3H1, ha4H1, hsbH1⟩ := hwH1
  have hzH1 := hz0.at hAB hS
  refine c_P (As := [.int (iI n)]) (rest := []) fx hl (pm_X0_weekdayOf l n (by omega)) dX1_ofDay_18 k293 k294 k13 k295 hd_X0_weekdayOf rfl ⟨by decide, by decide⟩ (Nat.le_of_ble_eq_true rfl) ⟨by omega, by omega⟩ ?_
  have t0z2 := wI_b n
  first | exact e_i hx hb hr hlk hS dX1_ofDay_21 (Nat.le_refl _) (Nat.le_refl _) ⟨ex_i (by omega), by first | exact ⟨hoH1, ha1H1, ha2H1, ha3H1, ha4H1, hsbH1⟩ | (subst_vars; exact ⟨hoH1, ha1H1, ha2H1, ha3H1, ha4H1, hsbH1⟩)⟩ | exact (show False by omega).elim

set_option maxHeartbeats 4000000 in
set_option maxRecDepth 100000 in
theorem no1_ofDay (θ : TH) (l : Launch) (hl0 : l.stackTraces = false) (S0 : State) (H : Heap) (u : Nat → Nat) (dt sy sm sd : Nat → Int) (bc rf kn : Int) (hw : CWR θ S0 u H dt sy sm sd bc rf kn) (a n : Int) (h_0 : -2147483648 ≤ a ∧ a < 2147483648) (h_1 : -2147483648 ≤ n ∧ n < 2147483648) (h_2 : ¬ (0 ≤ a ∧ a < 6)) : TX l yX1_ofDay cX1_ofDay 3 (some .int) 7 110 [.ref (u 0), .int (iI a), .int (iI n)] S0 H "java/lang/IndexOutOfBoundsException" := by
  refine ct_of (by decide +kernel) (Nat.le_of_ble_eq_true rfl) ?_
  intro pg en s mi args below meth co ls fx hs hr hlk hxt hin hl
  subst hs
  obtain ⟨hx, hb, hml, hown, hts⟩ := id fx.1
  have hS : va_S (fun q : Nat => s.heap.size ≤ q) s.heap s.heap [] := va_S.rf
  obtain ⟨hz, hu, ⟨ho, ha1, ha2, ha3, ha4, hsb⟩, hd, hsp⟩ := id hw
  have hAB : ∀ q : Nat, (fun q : Nat => s.heap.size ≤ q) q → θ.2.2.2 ≤ q := fun q h => Nat.le_trans hz.2.1 h
  have hz0 := hz
  have hK := sz_K fx.2 hz
  refine lv_iload_n hx hb dX1_ofDay_0 rfl (lv_at hl 1 rfl) ?_
  exact e_cT (As := [.int (iI a)]) (rest := []) fx hl (nno_needPlace θ l hl0 S0 _ hz a (by omega) (by omega)) dX1_ofDay_1 k260 k261 k1 k262 hd_X1_needPlace rfl ⟨by decide, by decide⟩ (Nat.le_of_ble_eq_true rfl) ⟨by decide, by decide⟩ ⟨by decide, by decide⟩ hS (fun _ h => h) hxt hlk (fun H1 h1 h2 => ⟨rfl, h1, h2⟩)

set_option maxHeartbeats 4000000 in
set_option maxRecDepth 100000 in
theorem no2_ofDay (θ : TH) (l : Launch) (hl0 : l.stackTraces = false) (S0 : State) (H : Heap) (u : Nat → Nat) (dt sy sm sd : Nat → Int) (bc rf kn : Int) (hw : CWR θ S0 u H dt sy sm sd bc rf kn) (a n : Int) (h_0 : -2147483648 ≤ a ∧ a < 2147483648) (h_1 : -2147483648 ≤ n ∧ n < 2147483648) (h_2 : 0 ≤ a ∧ a < 6) (h_3 : ¬ (-4371587 ≤ n ∧ n ≤ 2932896)) : TX l yX1_ofDay cX1_ofDay 3 (some .int) 7 112 [.ref (u 0), .int (iI a), .int (iI n)] S0 H "java/lang/IllegalArgumentException" := by
  refine ct_of (by decide +kernel) (Nat.le_of_ble_eq_true rfl) ?_
  intro pg en s mi args below meth co ls fx hs hr hlk hxt hin hl
  subst hs
  obtain ⟨hx, hb, hml, hown, hts⟩ := id fx.1
  have hS : va_S (fun q : Nat => s.heap.size ≤ q) s.heap s.heap [] := va_S.rf
  obtain ⟨hz, hu, ⟨ho, ha1, ha2, ha3, ha4, hsb⟩, hd, hsp⟩ := id hw
  have hAB : ∀ q : Nat, (fun q : Nat => s.heap.size ≤ q) q → θ.2.2.2 ≤ q := fun q h => Nat.le_trans hz.2.1 h
  have hz0 := hz
  have hK := sz_K fx.2 hz
  refine lv_iload_n hx hb dX1_ofDay_0 rfl (lv_at hl 1 rfl) ?_
  refine c_N (As := [.int (iI a)]) (rest := []) fx hl (nok_needPlace l S0 _ a (by omega) (by omega)) dX1_ofDay_1 k260 k261 k1 k262 hd_X1_needPlace rfl ⟨by decide, by decide⟩ (Nat.le_of_ble_eq_true rfl) ⟨by dsimp only; omega, by dsimp only; omega⟩ ?_
  refine lv_iload_n hx hb dX1_ofDay_4 rfl (lv_at hl 2 rfl) ?_
  refine q_ldc (n := -4371587) hx hb hown (hts _ k734) (by decide) dX1_ofDay_5 ?_
  refine q_ldc (n := 2932896) hx hb hown (hts _ k735) (by decide) dX1_ofDay_7 ?_
  exact e_cT (As := [.int (iI n), .int (iI (-4371587)), .int (iI 2932896)]) (rest := []) fx hl (nno_needWithin θ l hl0 S0 _ hz n (-4371587) 2932896 (by omega) (by omega) (by omega) (by omega)) dX1_ofDay_9 k172 k173 k1 k174 hd_X1_needWithin rfl ⟨by decide, by decide⟩ (Nat.le_of_ble_eq_true rfl) ⟨by decide, by decide⟩ ⟨by decide, by decide⟩ hS (fun _ h => h) hxt hlk (fun H1 h1 h2 => ⟨rfl, h1, h2⟩)

set_option maxHeartbeats 4000000 in
set_option maxRecDepth 100000 in
theorem ok_ofMonth (θ : TH) (l : Launch) (hl0 : l.stackTraces = false) (S0 : State) (H : Heap) (u : Nat → Nat) (dt sy sm sd : Nat → Int) (bc rf kn : Int) (hw : CWR θ S0 u H dt sy sm sd bc rf kn) (a m k : Int) (h_0 : -2147483648 ≤ a ∧ a < 2147483648) (h_1 : -2147483648 ≤ m ∧ m < 2147483648) (h_2 : -2147483648 ≤ k ∧ k < 2147483648) (h_3 : 0 ≤ a ∧ a < 6) (h_4 : -119988 ≤ m ∧ m ≤ 119999) (h_5 : 1 ≤ k ∧ k ≤ 31) : CT l yX1_ofMonth cX1_ofMonth 4 (some .int) 4 90 0 0 [.ref (u 0), .int (iI a), .int (iI m), .int (iI k)] S0 H (fun v9 H1 => v9 = some (.int (iI (dI (inI m k)))) ∧ CW θ u H1 (up dt a.toNat (inI m k)) sy sm sd (bc + 1) rf kn) (fun _ _ => False) (UA u H.size) := by
  refine ct_of (by decide +kernel) (Nat.le_of_ble_eq_true rfl) ?_
  intro pg en s mi args below meth co ls fx hs hr hlk hxt hin hl
  subst hs
  obtain ⟨hx, hb, hml, hown, hts⟩ := id fx.1
  have hS : va_S (UA u s.heap.size) s.heap s.heap [] := va_S.rf
  obtain ⟨hz, hu, ⟨ho, ha1, ha2, ha3, ha4, hsb⟩, hd, hsp⟩ := id hw
  have hAB := ua_b hu hz.2.1
  have hz0 := hz
  have hK := sz_K fx.2 hz
  refine lv_iload_n hx hb dX1_ofMonth_0 rfl (lv_at hl 1 rfl) ?_
  refine c_N (As := [.int (iI a)]) (rest := []) fx hl (nok_needPlace l S0 _ a (by omega) (by omega)) dX1_ofMonth_1 k260 k261 k1 k262 hd_X1_needPlace rfl ⟨by decide, by decide⟩ (Nat.le_of_ble_eq_true rfl) ⟨by dsimp only; omega, by dsimp only; omega⟩ ?_
  refine lv_iload_n hx hb dX1_ofMonth_4 rfl (lv_at hl 2 rfl) ?_
  refine c_N (As := [.int (iI m)]) (rest := []) fx hl (nok_needMonth l S0 _ m (by omega) (by omega)) dX1_ofMonth_5 k743 k744 k1 k745 hd_X1_needMonth rfl ⟨by decide, by decide⟩ (Nat.le_of_ble_eq_true rfl) ⟨by dsimp only; omega, by dsimp only; omega⟩ ?_
  refine lv_iload_n hx hb dX1_ofMonth_8 rfl (lv_at hl 3 rfl) ?_
  refine q_con hx hb dX1_ofMonth_9 ?_
  refine q_bip hx hb dX1_ofMonth_10 (by decide) ?_
  refine c_N (As := [.int (iI k), .int (iI 1), .int (iI 31)]) (rest := []) fx hl (nok_needWithin l S0 _ k 1 31 (by omega) (by omega) (by omega) (by omega)) dX1_ofMonth_12 k172 k173 k1 k174 hd_X1_needWithin rfl ⟨by decide, by decide⟩ (Nat.le_of_ble_eq_true rfl) ⟨by dsimp only; omega, by dsimp only; omega⟩ ?_
  refine lv_aload_n hx hb dX1_ofMonth_15 rfl (lv_at hl 0 rfl) ?_
  refine lv_iload_n hx hb dX1_ofMonth_16 rfl (lv_at hl 1 rfl) ?_
  refine lv_iload_n hx hb dX1_ofMonth_17 rfl (lv_at hl 2 rfl) ?_
  refine lv_iload_n hx hb dX1_ofMonth_18 rfl (lv_at hl 3 rfl) ?_
  refine c_P (As := [.int (iI m), .int (iI k)]) (rest := [.int (iI a), .ref (u 0)]) fx hl (pm_X0_dateIn l m k (by omega) (by omega)) dX1_ofMonth_19 k722 k132 k13 k133 hd_X0_dateIn rfl ⟨by decide, by decide⟩ (Nat.le_of_ble_eq_true rfl) ⟨by omega, by omega⟩ ?_
  have t0z1 := inI_s (m := m) (k := k) (by omega)
  have t1z1 := fI_bd m
  have t2z1 := fI_bd (m + 1)
  have hcw := hw
  refine c_W (As := [.int (iI a), .int (iI (inI m k))]) (rest := []) (b := u 0) (C := RX1) fx hl (ok_put θ l hl0 S0 _ u _ _ _ _ _ _ _ hcw a (inI m k) (by omega) (by omega) (by omega)) (ob_recv hK ho rfl) dX1_ofMonth_22 k723 k725 ks7 k1 k726 hd_X1_put rfl ⟨by decide, by decide⟩ (Nat.le_of_ble_eq_true rfl) ⟨by dsimp only; omega, by dsimp only; omega⟩ hS (fun q h => h.elim Or.inl (fun h => Or.inr (Nat.le_trans hS.1 h))) (fun H2 locs hwH2 hszH2 hkH2 hS => ?_)
  obtain ⟨hoH2, ha1H2, ha2H2, ha3H2, ha4H2, hsbH2⟩ := hwH2
  have hzH2 := hz0.at hAB hS
  refine c_P (As := [.int (iI (inI m k))]) (rest := []) fx hl (pm_X0_dayOf l (inI m k) (by omega)) dX1_ofMonth_25 k288 k129 k13 k130 hd_X0_dayOf rfl ⟨by decide, by decide⟩ (Nat.le_of_ble_eq_true rfl) ⟨by omega, by omega⟩ ?_
  have t0z3 := dI_b (inI m k)
  first | exact e_i hx hb hr hlk hS dX1_ofMonth_28 (Nat.le_refl _) (Nat.le_refl _) ⟨ex_i (by omega), by first | exact ⟨hoH2, ha1H2, ha2H2, ha3H2, ha4H2, hsbH2⟩ | (subst_vars; exact ⟨hoH2, ha1H2, ha2H2, ha3H2, ha4H2, hsbH2⟩)⟩ | exact (show False by omega).elim

set_option maxHeartbeats 4000000 in
set_option maxRecDepth 100000 in
theorem no1_ofMonth (θ : TH) (l : Launch) (hl0 : l.stackTraces = false) (S0 : State) (H : Heap) (u : Nat → Nat) (dt sy sm sd : Nat → Int) (bc rf kn : Int) (hw : CWR θ S0 u H dt sy sm sd bc rf kn) (a m k : Int) (h_0 : -2147483648 ≤ a ∧ a < 2147483648) (h_1 : -2147483648 ≤ m ∧ m < 2147483648) (h_2 : -2147483648 ≤ k ∧ k < 2147483648) (h_3 : ¬ (0 ≤ a ∧ a < 6)) : TX l yX1_ofMonth cX1_ofMonth 4 (some .int) 7 110 [.ref (u 0), .int (iI a), .int (iI m), .int (iI k)] S0 H "java/lang/IndexOutOfBoundsException" := by
  refine ct_of (by decide +kernel) (Nat.le_of_ble_eq_true rfl) ?_
  intro pg en s mi args below meth co ls fx hs hr hlk hxt hin hl
  subst hs
  obtain ⟨hx, hb, hml, hown, hts⟩ := id fx.1
  have hS : va_S (fun q : Nat => s.heap.size ≤ q) s.heap s.heap [] := va_S.rf
  obtain ⟨hz, hu, ⟨ho, ha1, ha2, ha3, ha4, hsb⟩, hd, hsp⟩ := id hw
  have hAB : ∀ q : Nat, (fun q : Nat => s.heap.size ≤ q) q → θ.2.2.2 ≤ q := fun q h => Nat.le_trans hz.2.1 h
  have hz0 := hz
  have hK := sz_K fx.2 hz
  refine lv_iload_n hx hb dX1_ofMonth_0 rfl (lv_at hl 1 rfl) ?_
  exact e_cT (As := [.int (iI a)]) (rest := []) fx hl (nno_needPlace θ l hl0 S0 _ hz a (by omega) (by omega)) dX1_ofMonth_1 k260 k261 k1 k262 hd_X1_needPlace rfl ⟨by decide, by decide⟩ (Nat.le_of_ble_eq_true rfl) ⟨by decide, by decide⟩ ⟨by decide, by decide⟩ hS (fun _ h => h) hxt hlk (fun H1 h1 h2 => ⟨rfl, h1, h2⟩)

set_option maxHeartbeats 4000000 in
set_option maxRecDepth 100000 in
theorem no2_ofMonth (θ : TH) (l : Launch) (hl0 : l.stackTraces = false) (S0 : State) (H : Heap) (u : Nat → Nat) (dt sy sm sd : Nat → Int) (bc rf kn : Int) (hw : CWR θ S0 u H dt sy sm sd bc rf kn) (a m k : Int) (h_0 : -2147483648 ≤ a ∧ a < 2147483648) (h_1 : -2147483648 ≤ m ∧ m < 2147483648) (h_2 : -2147483648 ≤ k ∧ k < 2147483648) (h_3 : 0 ≤ a ∧ a < 6) (h_4 : ¬ (-119988 ≤ m ∧ m ≤ 119999)) : TX l yX1_ofMonth cX1_ofMonth 4 (some .int) 8 132 [.ref (u 0), .int (iI a), .int (iI m), .int (iI k)] S0 H "java/lang/IllegalArgumentException" := by
  refine ct_of (by decide +kernel) (Nat.le_of_ble_eq_true rfl) ?_
  intro pg en s mi args below meth co ls fx hs hr hlk hxt hin hl
  subst hs
  obtain ⟨hx, hb, hml, hown, hts⟩ := id fx.1
  have hS : va_S (fun q : Nat => s.heap.size ≤ q) s.heap s.heap [] := va_S.rf
  obtain ⟨hz, hu, ⟨ho, ha1, ha2, ha3, ha4, hsb⟩, hd, hsp⟩ := id hw
  have hAB : ∀ q : Nat, (fun q : Nat => s.heap.size ≤ q) q → θ.2.2.2 ≤ q := fun q h => Nat.le_trans hz.2.1 h
  have hz0 := hz
  have hK := sz_K fx.2 hz
  refine lv_iload_n hx hb dX1_ofMonth_0 rfl (lv_at hl 1 rfl) ?_
  refine c_N (As := [.int (iI a)]) (rest := []) fx hl (nok_needPlace l S0 _ a (by omega) (by omega)) dX1_ofMonth_1 k260 k261 k1 k262 hd_X1_needPlace rfl ⟨by decide, by decide⟩ (Nat.le_of_ble_eq_true rfl) ⟨by dsimp only; omega, by dsimp only; omega⟩ ?_
  refine lv_iload_n hx hb dX1_ofMonth_4 rfl (lv_at hl 2 rfl) ?_
  exact e_cT (As := [.int (iI m)]) (rest := []) fx hl (nno_needMonth θ l hl0 S0 _ hz m (by omega) (by omega)) dX1_ofMonth_5 k743 k744 k1 k745 hd_X1_needMonth rfl ⟨by decide, by decide⟩ (Nat.le_of_ble_eq_true rfl) ⟨by decide, by decide⟩ ⟨by decide, by decide⟩ hS (fun _ h => h) hxt hlk (fun H1 h1 h2 => ⟨rfl, h1, h2⟩)

set_option maxHeartbeats 4000000 in
set_option maxRecDepth 100000 in
theorem no3_ofMonth (θ : TH) (l : Launch) (hl0 : l.stackTraces = false) (S0 : State) (H : Heap) (u : Nat → Nat) (dt sy sm sd : Nat → Int) (bc rf kn : Int) (hw : CWR θ S0 u H dt sy sm sd bc rf kn) (a m k : Int) (h_0 : -2147483648 ≤ a ∧ a < 2147483648) (h_1 : -2147483648 ≤ m ∧ m < 2147483648) (h_2 : -2147483648 ≤ k ∧ k < 2147483648) (h_3 : 0 ≤ a ∧ a < 6) (h_4 : -119988 ≤ m ∧ m ≤ 119999) (h_5 : ¬ (1 ≤ k ∧ k ≤ 31)) : TX l yX1_ofMonth cX1_ofMonth 4 (some .int) 7 112 [.ref (u 0), .int (iI a), .int (iI m), .int (iI k)] S0 H "java/lang/IllegalArgumentException" := by
  refine ct_of (by decide +kernel) (Nat.le_of_ble_eq_true rfl) ?_
  intro pg en s mi args below meth co ls fx hs hr hlk hxt hin hl
  subst hs
  obtain ⟨hx, hb, hml, hown, hts⟩ := id fx.1
  have hS : va_S (fun q : Nat => s.heap.size ≤ q) s.heap s.heap [] := va_S.rf
  obtain ⟨hz, hu, ⟨ho, ha1, ha2, ha3, ha4, hsb⟩, hd, hsp⟩ := id hw
  have hAB : ∀ q : Nat, (fun q : Nat => s.heap.size ≤ q) q → θ.2.2.2 ≤ q := fun q h => Nat.le_trans hz.2.1 h
  have hz0 := hz
  have hK := sz_K fx.2 hz
  refine lv_iload_n hx hb dX1_ofMonth_0 rfl (lv_at hl 1 rfl) ?_
  refine c_N (As := [.int (iI a)]) (rest := []) fx hl (nok_needPlace l S0 _ a (by omega) (by omega)) dX1_ofMonth_1 k260 k261 k1 k262 hd_X1_needPlace rfl ⟨by decide, by decide⟩ (Nat.le_of_ble_eq_true rfl) ⟨by dsimp only; omega, by dsimp only; omega⟩ ?_
  refine lv_iload_n hx hb dX1_ofMonth_4 rfl (lv_at hl 2 rfl) ?_
  refine c_N (As := [.int (iI m)]) (rest := []) fx hl (nok_needMonth l S0 _ m (by omega) (by omega)) dX1_ofMonth_5 k743 k744 k1 k745 hd_X1_needMonth rfl ⟨by decide, by decide⟩ (Nat.le_of_ble_eq_true rfl) ⟨by dsimp only; omega, by dsimp only; omega⟩ ?_
  refine lv_iload_n hx hb dX1_ofMonth_8 rfl (lv_at hl 3 rfl) ?_
  refine q_con hx hb dX1_ofMonth_9 ?_
  refine q_bip hx hb dX1_ofMonth_10 (by decide) ?_
  exact e_cT (As := [.int (iI k), .int (iI 1), .int (iI 31)]) (rest := []) fx hl (nno_needWithin θ l hl0 S0 _ hz k 1 31 (by omega) (by omega) (by omega) (by omega)) dX1_ofMonth_12 k172 k173 k1 k174 hd_X1_needWithin rfl ⟨by decide, by decide⟩ (Nat.le_of_ble_eq_true rfl) ⟨by decide, by decide⟩ ⟨by decide, by decide⟩ hS (fun _ h => h) hxt hlk (fun H1 h1 h2 => ⟨rfl, h1, h2⟩)

set_option maxHeartbeats 4000000 in
set_option maxRecDepth 100000 in
theorem ok_copy (θ : TH) (l : Launch) (hl0 : l.stackTraces = false) (S0 : State) (H : Heap) (u : Nat → Nat) (dt sy sm sd : Nat → Int) (bc rf kn : Int) (hw : CWR θ S0 u H dt sy sm sd bc rf kn) (a b : Int) (h_0 : -2147483648 ≤ a ∧ a < 2147483648) (h_1 : -2147483648 ≤ b ∧ b < 2147483648) (h_2 : 0 ≤ a ∧ a < 6) (h_3 : 0 ≤ b ∧ b < 6) : CT l yX1_copy cX1_copy 3 (some .int) 1 22 0 0 [.ref (u 0), .int (iI a), .int (iI b)] S0 H (fun v9 H1 => v9 = some (.int (iI (dt b.toNat))) ∧ CW θ u H1 (up dt a.toNat (dt b.toNat)) sy sm sd (bc + 1) rf kn) (fun _ _ => False) (UA u H.size) := by
  refine ct_of (by decide +kernel) (Nat.le_of_ble_eq_true rfl) ?_
  intro pg en s mi args below meth co ls fx hs hr hlk hxt hin hl
  subst hs
  obtain ⟨hx, hb, hml, hown, hts⟩ := id fx.1
  have hS : va_S (UA u s.heap.size) s.heap s.heap [] := va_S.rf
  obtain ⟨hz, hu, ⟨ho, ha1, ha2, ha3, ha4, hsb⟩, hd, hsp⟩ := id hw
  have hAB := ua_b hu hz.2.1
  have hz0 := hz
  have hK := sz_K fx.2 hz
  refine lv_iload_n hx hb dX1_copy_0 rfl (lv_at hl 1 rfl) ?_
  refine c_N (As := [.int (iI a)]) (rest := []) fx hl (nok_needPlace l S0 _ a (by omega) (by omega)) dX1_copy_1 k260 k261 k1 k262 hd_X1_needPlace rfl ⟨by decide, by decide⟩ (Nat.le_of_ble_eq_true rfl) ⟨by dsimp only; omega, by dsimp only; omega⟩ ?_
  refine lv_iload_n hx hb dX1_copy_4 rfl (lv_at hl 2 rfl) ?_
  refine c_N (As := [.int (iI b)]) (rest := []) fx hl (nok_needPlace l S0 _ b (by omega) (by omega)) dX1_copy_5 k260 k261 k1 k262 hd_X1_needPlace rfl ⟨by decide, by decide⟩ (Nat.le_of_ble_eq_true rfl) ⟨by dsimp only; omega, by dsimp only; omega⟩ ?_
  refine lv_aload_n hx hb dX1_copy_8 rfl (lv_at hl 0 rfl) ?_
  refine lv_iload_n hx hb dX1_copy_9 rfl (lv_at hl 1 rfl) ?_
  refine lv_aload_n hx hb dX1_copy_10 rfl (lv_at hl 0 rfl) ?_
  refine r_get (θ := θ) (C := RX1) (T := TX1) (N := 8) (ci := 7) hx hb hts gwX1 hown hK ho rfl 0 (by decide) k73 (fun _ h => h) (v := .ref (u 1)) rfl dX1_copy_11 ?_
  refine lv_iload_n hx hb dX1_copy_14 rfl (lv_at hl 2 rfl) ?_
  refine r_iald (θ := θ) hx hb hK ha1 (i := b) (by omega) (by decide) dX1_copy_15 ?_
  have tr1 := hd (b.toNat) (by omega)
  have hcw := hw
  refine c_W (As := [.int (iI a), .int (iI (dt b.toNat))]) (rest := []) (b := u 0) (C := RX1) fx hl (ok_put θ l hl0 S0 _ u _ _ _ _ _ _ _ hcw a (dt b.toNat) (by omega) (by omega) (by omega)) (ob_recv hK ho rfl) dX1_copy_16 k723 k725 ks7 k1 k726 hd_X1_put rfl ⟨by decide, by decide⟩ (Nat.le_of_ble_eq_true rfl) ⟨by dsimp only; omega, by dsimp only; omega⟩ hS (fun q h => h.elim Or.inl (fun h => Or.inr (Nat.le_trans hS.1 h))) (fun H2 locs hwH2 hszH2 hkH2 hS => ?_)
  obtain ⟨hoH2, ha1H2, ha2H2, ha3H2, ha4H2, hsbH2⟩ := hwH2
  have hzH2 := hz0.at hAB hS
  first | exact e_i hx hb hr hlk hS dX1_copy_19 (Nat.le_refl _) (Nat.le_refl _) ⟨ex_i (by omega), by first | exact ⟨hoH2, ha1H2, ha2H2, ha3H2, ha4H2, hsbH2⟩ | (subst_vars; exact ⟨hoH2, ha1H2, ha2H2, ha3H2, ha4H2, hsbH2⟩)⟩ | exact (show False by omega).elim

set_option maxHeartbeats 4000000 in
set_option maxRecDepth 100000 in
theorem no1_copy (θ : TH) (l : Launch) (hl0 : l.stackTraces = false) (S0 : State) (H : Heap) (u : Nat → Nat) (dt sy sm sd : Nat → Int) (bc rf kn : Int) (hw : CWR θ S0 u H dt sy sm sd bc rf kn) (a b : Int) (h_0 : -2147483648 ≤ a ∧ a < 2147483648) (h_1 : -2147483648 ≤ b ∧ b < 2147483648) (h_2 : ¬ (0 ≤ a ∧ a < 6)) : TX l yX1_copy cX1_copy 3 (some .int) 7 110 [.ref (u 0), .int (iI a), .int (iI b)] S0 H "java/lang/IndexOutOfBoundsException" := by
  refine ct_of (by decide +kernel) (Nat.le_of_ble_eq_true rfl) ?_
  intro pg en s mi args below meth co ls fx hs hr hlk hxt hin hl
  subst hs
  obtain ⟨hx, hb, hml, hown, hts⟩ := id fx.1
  have hS : va_S (fun q : Nat => s.heap.size ≤ q) s.heap s.heap [] := va_S.rf
  obtain ⟨hz, hu, ⟨ho, ha1, ha2, ha3, ha4, hsb⟩, hd, hsp⟩ := id hw
  have hAB : ∀ q : Nat, (fun q : Nat => s.heap.size ≤ q) q → θ.2.2.2 ≤ q := fun q h => Nat.le_trans hz.2.1 h
  have hz0 := hz
  have hK := sz_K fx.2 hz
  refine lv_iload_n hx hb dX1_copy_0 rfl (lv_at hl 1 rfl) ?_
  exact e_cT (As := [.int (iI a)]) (rest := []) fx hl (nno_needPlace θ l hl0 S0 _ hz a (by omega) (by omega)) dX1_copy_1 k260 k261 k1 k262 hd_X1_needPlace rfl ⟨by decide, by decide⟩ (Nat.le_of_ble_eq_true rfl) ⟨by decide, by decide⟩ ⟨by decide, by decide⟩ hS (fun _ h => h) hxt hlk (fun H1 h1 h2 => ⟨rfl, h1, h2⟩)

set_option maxHeartbeats 4000000 in
set_option maxRecDepth 100000 in
theorem no2_copy (θ : TH) (l : Launch) (hl0 : l.stackTraces = false) (S0 : State) (H : Heap) (u : Nat → Nat) (dt sy sm sd : Nat → Int) (bc rf kn : Int) (hw : CWR θ S0 u H dt sy sm sd bc rf kn) (a b : Int) (h_0 : -2147483648 ≤ a ∧ a < 2147483648) (h_1 : -2147483648 ≤ b ∧ b < 2147483648) (h_2 : 0 ≤ a ∧ a < 6) (h_3 : ¬ (0 ≤ b ∧ b < 6)) : TX l yX1_copy cX1_copy 3 (some .int) 7 110 [.ref (u 0), .int (iI a), .int (iI b)] S0 H "java/lang/IndexOutOfBoundsException" := by
  refine ct_of (by decide +kernel) (Nat.le_of_ble_eq_true rfl) ?_
  intro pg en s mi args below meth co ls fx hs hr hlk hxt hin hl
  subst hs
  obtain ⟨hx, hb, hml, hown, hts⟩ := id fx.1
  have hS : va_S (fun q : Nat => s.heap.size ≤ q) s.heap s.heap [] := va_S.rf
  obtain ⟨hz, hu, ⟨ho, ha1, ha2, ha3, ha4, hsb⟩, hd, hsp⟩ := id hw
  have hAB : ∀ q : Nat, (fun q : Nat => s.heap.size ≤ q) q → θ.2.2.2 ≤ q := fun q h => Nat.le_trans hz.2.1 h
  have hz0 := hz
  have hK := sz_K fx.2 hz
  refine lv_iload_n hx hb dX1_copy_0 rfl (lv_at hl 1 rfl) ?_
  refine c_N (As := [.int (iI a)]) (rest := []) fx hl (nok_needPlace l S0 _ a (by omega) (by omega)) dX1_copy_1 k260 k261 k1 k262 hd_X1_needPlace rfl ⟨by decide, by decide⟩ (Nat.le_of_ble_eq_true rfl) ⟨by dsimp only; omega, by dsimp only; omega⟩ ?_
  refine lv_iload_n hx hb dX1_copy_4 rfl (lv_at hl 2 rfl) ?_
  exact e_cT (As := [.int (iI b)]) (rest := []) fx hl (nno_needPlace θ l hl0 S0 _ hz b (by omega) (by omega)) dX1_copy_5 k260 k261 k1 k262 hd_X1_needPlace rfl ⟨by decide, by decide⟩ (Nat.le_of_ble_eq_true rfl) ⟨by decide, by decide⟩ ⟨by decide, by decide⟩ hS (fun _ h => h) hxt hlk (fun H1 h1 h2 => ⟨rfl, h1, h2⟩)

set_option maxHeartbeats 4000000 in
set_option maxRecDepth 100000 in
theorem ok_first (θ : TH) (l : Launch) (hl0 : l.stackTraces = false) (S0 : State) (H : Heap) (u : Nat → Nat) (dt sy sm sd : Nat → Int) (bc rf kn : Int) (hw : CWR θ S0 u H dt sy sm sd bc rf kn) (a : Int) (h_0 : -2147483648 ≤ a ∧ a < 2147483648) (h_1 : 0 ≤ a ∧ a < 6) : CT l yX1_first cX1_first 3 (some .int) 3 70 0 0 [.ref (u 0), .int (iI a)] S0 H (fun v9 H1 => v9 = some (.int (iI (dt a.toNat - fI (mI (dt a.toNat))))) ∧ CW θ u H1 (up dt a.toNat (fI (mI (dt a.toNat)))) sy sm sd (bc + 1) rf kn) (fun _ _ => False) (UA u H.size) := by
  refine ct_of (by decide +kernel) (Nat.le_of_ble_eq_true rfl) ?_
  intro pg en s mi args below meth co ls fx hs hr hlk hxt hin hl
  subst hs
  obtain ⟨hx, hb, hml, hown, hts⟩ := id fx.1
  have hS : va_S (UA u s.heap.size) s.heap s.heap [] := va_S.rf
  obtain ⟨hz, hu, ⟨ho, ha1, ha2, ha3, ha4, hsb⟩, hd, hsp⟩ := id hw
  have hAB := ua_b hu hz.2.1
  have hz0 := hz
  have hK := sz_K fx.2 hz
  refine lv_iload_n hx hb dX1_first_0 rfl (lv_at hl 1 rfl) ?_
  refine c_N (As := [.int (iI a)]) (rest := []) fx hl (nok_needPlace l S0 _ a (by omega) (by omega)) dX1_first_1 k260 k261 k1 k262 hd_X1_needPlace rfl ⟨by decide, by decide⟩ (Nat.le_of_ble_eq_true rfl) ⟨by dsimp only; omega, by dsimp only; omega⟩ ?_
  refine lv_aload_n hx hb dX1_first_4 rfl (lv_at hl 0 rfl) ?_
  refine r_get (θ := θ) (C := RX1) (T := TX1) (N := 8) (ci := 7) hx hb hts gwX1 hown hK ho rfl 0 (by decide) k73 (fun _ h => h) (v := .ref (u 1)) rfl dX1_first_5 ?_
  refine lv_iload_n hx hb dX1_first_8 rfl (lv_at hl 1 rfl) ?_
  refine r_iald (θ := θ) hx hb hK ha1 (i := a) (by omega) (by decide) dX1_first_9 ?_
  have tr1 := hd (a.toNat) (by omega)
  refine lv_istore_n (lv' := [(2, .int (iI (dt a.toNat))), (0, .ref (u 0)), (1, .int (iI a))]) hx hb dX1_first_10 rfl hl (by decide) rfl (fun ls hl => ?_)
  refine lv_iload_n hx hb dX1_first_11 rfl (lv_at hl 0 rfl) ?_
  refine lv_aload_n hx hb dX1_first_12 rfl (lv_at hl 1 rfl) ?_
  refine lv_iload_n hx hb dX1_first_13 rfl (lv_at hl 2 rfl) ?_
  refine lv_iload_n hx hb dX1_first_14 rfl (lv_at hl 0 rfl) ?_
  refine c_P (As := [.int (iI (dt a.toNat))]) (rest := [.int (iI a), .ref (u 0), .int (iI (dt a.toNat))]) fx hl (pm_X0_monthOf l (dt a.toNat) (by omega)) dX1_first_15 k283 k110 k13 k111 hd_X0_monthOf rfl ⟨by decide, by decide⟩ (Nat.le_of_ble_eq_true rfl) ⟨by omega, by omega⟩ ?_
  have t0z2 := mI_s (dt a.toNat)
  have t1z2 := mI_bd (dt a.toNat)
  have t2z2 := len_b (mI (dt a.toNat))
  refine c_P (As := [.int (iI (mI (dt a.toNat)))]) (rest := [.int (iI a), .ref (u 0), .int (iI (dt a.toNat))]) fx hl (pm_X0_firstOf l (mI (dt a.toNat)) (by omega)) dX1_first_18 k306 k119 k13 k120 hd_X0_firstOf rfl ⟨by decide, by decide⟩ (Nat.le_of_ble_eq_true rfl) ⟨by omega, by omega⟩ ?_
  have t0z3 := fI_bd (mI (dt a.toNat))
  have hcw := hw
  refine c_W (As := [.int (iI a), .int (iI (fI (mI (dt a.toNat))))]) (rest := [.int (iI (dt a.toNat))]) (b := u 0) (C := RX1) fx hl (ok_put θ l hl0 S0 _ u _ _ _ _ _ _ _ hcw a (fI (mI (dt a.toNat))) (by omega) (by omega) (by omega)) (ob_recv hK ho rfl) dX1_first_21 k723 k725 ks7 k1 k726 hd_X1_put rfl ⟨by decide, by decide⟩ (Nat.le_of_ble_eq_true rfl) ⟨by dsimp only; omega, by dsimp only; omega⟩ hS (fun q h => h.elim Or.inl (fun h => Or.inr (Nat.le_trans hS.1 h))) (fun H4 locs hwH4 hszH4 hkH4 hS => ?_)
  obtain ⟨hoH4, ha1H4, ha2H4, ha3H4, ha4H4, hsbH4⟩ := hwH4
  have hzH4 := hz0.at hAB hS
  refine q_sub hx hb dX1_first_24 ?_
  first | exact e_i hx hb hr hlk hS dX1_first_25 (Nat.le_refl _) (Nat.le_refl _) ⟨ex_i (by subst_vars; omega), by first | exact ⟨hoH4, ha1H4, ha2H4, ha3H4, ha4H4, hsbH4⟩ | (subst_vars; exact ⟨hoH4, ha1H4, ha2H4, ha3H4, ha4H4, hsbH4⟩)⟩ | exact (show False by omega).elim

set_option maxHeartbeats 4000000 in
set_option maxRecDepth 100000 in
theorem no1_first (θ : TH) (l : Launch) (hl0 : l.stackTraces = false) (S0 : State) (H : Heap) (u : Nat → Nat) (dt sy sm sd : Nat → Int) (bc rf kn : Int) (hw : CWR θ S0 u H dt sy sm sd bc rf kn) (a : Int) (h_0 : -2147483648 ≤ a ∧ a < 2147483648) (h_1 : ¬ (0 ≤ a ∧ a < 6)) : TX l yX1_first cX1_first 3 (some .int) 7 110 [.ref (u 0), .int (iI a)] S0 H "java/lang/IndexOutOfBoundsException" := by
  refine ct_of (by decide +kernel) (Nat.le_of_ble_eq_true rfl) ?_
  intro pg en s mi args below meth co ls fx hs hr hlk hxt hin hl
  subst hs
  obtain ⟨hx, hb, hml, hown, hts⟩ := id fx.1
  have hS : va_S (fun q : Nat => s.heap.size ≤ q) s.heap s.heap [] := va_S.rf
  obtain ⟨hz, hu, ⟨ho, ha1, ha2, ha3, ha4, hsb⟩, hd, hsp⟩ := id hw
  have hAB : ∀ q : Nat, (fun q : Nat => s.heap.size ≤ q) q → θ.2.2.2 ≤ q := fun q h => Nat.le_trans hz.2.1 h
  have hz0 := hz
  have hK := sz_K fx.2 hz
  refine lv_iload_n hx hb dX1_first_0 rfl (lv_at hl 1 rfl) ?_
  exact e_cT (As := [.int (iI a)]) (rest := []) fx hl (nno_needPlace θ l hl0 S0 _ hz a (by omega) (by omega)) dX1_first_1 k260 k261 k1 k262 hd_X1_needPlace rfl ⟨by decide, by decide⟩ (Nat.le_of_ble_eq_true rfl) ⟨by decide, by decide⟩ ⟨by decide, by decide⟩ hS (fun _ h => h) hxt hlk (fun H1 h1 h2 => ⟨rfl, h1, h2⟩)

set_option maxHeartbeats 4000000 in
set_option maxRecDepth 100000 in
theorem ok_last (θ : TH) (l : Launch) (hl0 : l.stackTraces = false) (S0 : State) (H : Heap) (u : Nat → Nat) (dt sy sm sd : Nat → Int) (bc rf kn : Int) (hw : CWR θ S0 u H dt sy sm sd bc rf kn) (a : Int) (h_0 : -2147483648 ≤ a ∧ a < 2147483648) (h_1 : 0 ≤ a ∧ a < 6) : CT l yX1_last cX1_last 3 (some .int) 3 70 0 0 [.ref (u 0), .int (iI a)] S0 H (fun v9 H1 => v9 = some (.int (iI (fI (mI (dt a.toNat) + 1) - 1 - dt a.toNat))) ∧ CW θ u H1 (up dt a.toNat (fI (mI (dt a.toNat) + 1) - 1)) sy sm sd (bc + 1) rf kn) (fun _ _ => False) (UA u H.size) := by
  refine ct_of (by decide +kernel) (Nat.le_of_ble_eq_true rfl) ?_
  intro pg en s mi args below meth co ls fx hs hr hlk hxt hin hl
  subst hs
  obtain ⟨hx, hb, hml, hown, hts⟩ := id fx.1
  have hS : va_S (UA u s.heap.size) s.heap s.heap [] := va_S.rf
  obtain ⟨hz, hu, ⟨ho, ha1, ha2, ha3, ha4, hsb⟩, hd, hsp⟩ := id hw
  have hAB := ua_b hu hz.2.1
  have hz0 := hz
  have hK := sz_K fx.2 hz
  refine lv_iload_n hx hb dX1_last_0 rfl (lv_at hl 1 rfl) ?_
  refine c_N (As := [.int (iI a)]) (rest := []) fx hl (nok_needPlace l S0 _ a (by omega) (by omega)) dX1_last_1 k260 k261 k1 k262 hd_X1_needPlace rfl ⟨by decide, by decide⟩ (Nat.le_of_ble_eq_true rfl) ⟨by dsimp only; omega, by dsimp only; omega⟩ ?_
  refine lv_aload_n hx hb dX1_last_4 rfl (lv_at hl 0 rfl) ?_
  refine r_get (θ := θ) (C := RX1) (T := TX1) (N := 8) (ci := 7) hx hb hts gwX1 hown hK ho rfl 0 (by decide) k73 (fun _ h => h) (v := .ref (u 1)) rfl dX1_last_5 ?_
  refine lv_iload_n hx hb dX1_last_8 rfl (lv_at hl 1 rfl) ?_
  refine r_iald (θ := θ) hx hb hK ha1 (i := a) (by omega) (by decide) dX1_last_9 ?_
  have tr1 := hd (a.toNat) (by omega)
  refine lv_istore_n (lv' := [(2, .int (iI (dt a.toNat))), (0, .ref (u 0)), (1, .int (iI a))]) hx hb dX1_last_10 rfl hl (by decide) rfl (fun ls hl => ?_)
  refine lv_aload_n hx hb dX1_last_11 rfl (lv_at hl 1 rfl) ?_
  refine lv_iload_n hx hb dX1_last_12 rfl (lv_at hl 2 rfl) ?_
  refine lv_iload_n hx hb dX1_last_13 rfl (lv_at hl 0 rfl) ?_
  refine c_P (As := [.int (iI (dt a.toNat))]) (rest := [.int (iI a), .ref (u 0)]) fx hl (pm_X0_monthOf l (dt a.toNat) (by omega)) dX1_last_14 k283 k110 k13 k111 hd_X0_monthOf rfl ⟨by decide, by decide⟩ (Nat.le_of_ble_eq_true rfl) ⟨by omega, by omega⟩ ?_
  have t0z2 := mI_s (dt a.toNat)
  have t1z2 := mI_bd (dt a.toNat)
  have t2z2 := len_b (mI (dt a.toNat))
  refine q_con hx hb dX1_last_17 ?_
  refine q_add hx hb dX1_last_18 ?_
  refine c_P (As := [.int (iI ((mI (dt a.toNat)) + 1))]) (rest := [.int (iI a), .ref (u 0)]) fx hl (pm_X0_firstOf l ((mI (dt a.toNat)) + 1) (by omega)) dX1_last_19 k306 k119 k13 k120 hd_X0_firstOf rfl ⟨by decide, by decide⟩ (Nat.le_of_ble_eq_true rfl) ⟨by omega, by omega⟩ ?_
  have t0z3 := fI_bd ((mI (dt a.toNat)) + 1)
  refine q_con hx hb dX1_last_22 ?_
  refine q_sub hx hb dX1_last_23 ?_
  have hcw := hw
  refine c_W (As := [.int (iI a), .int (iI ((fI ((mI (dt a.toNat)) + 1)) - 1))]) (rest := []) (b := u 0) (C := RX1) fx hl (ok_put θ l hl0 S0 _ u _ _ _ _ _ _ _ hcw a ((fI ((mI (dt a.toNat)) + 1)) - 1) (by omega) (by omega) (by omega)) (ob_recv hK ho rfl) dX1_last_24 k723 k725 ks7 k1 k726 hd_X1_put rfl ⟨by decide, by decide⟩ (Nat.le_of_ble_eq_true rfl) ⟨by dsimp only; omega, by dsimp only; omega⟩ hS (fun q h => h.elim Or.inl (fun h => Or.inr (Nat.le_trans hS.1 h))) (fun H4 locs hwH4 hszH4 hkH4 hS => ?_)
  obtain ⟨hoH4, ha1H4, ha2H4, ha3H4, ha4H4, hsbH4⟩ := hwH4
  have hzH4 := hz0.at hAB hS
  refine q_nm (fun z5 ez5 => ?_)
  refine lv_iload_n hx hb dX1_last_27 rfl (lv_at hl 0 rfl) ?_
  refine q_sub hx hb dX1_last_28 ?_
  first | exact e_i hx hb hr hlk hS dX1_last_29 (Nat.le_refl _) (Nat.le_refl _) ⟨ex_i (by subst_vars; omega), by first | exact ⟨hoH4, ha1H4, ha2H4, ha3H4, ha4H4, hsbH4⟩ | (subst_vars; exact ⟨hoH4, ha1H4, ha2H4, ha3H4, ha4H4, hsbH4⟩)⟩ | exact (show False by omega).elim

set_option maxHeartbeats 4000000 in
set_option maxRecDepth 100000 in
theorem no1_last (θ : TH) (l : Launch) (hl0 : l.stackTraces = false) (S0 : State) (H : Heap) (u : Nat → Nat) (dt sy sm sd : Nat → Int) (bc rf kn : Int) (hw : CWR θ S0 u H dt sy sm sd bc rf kn) (a : Int) (h_0 : -2147483648 ≤ a ∧ a < 2147483648) (h_1 : ¬ (0 ≤ a ∧ a < 6)) : TX l yX1_last cX1_last 3 (some .int) 7 110 [.ref (u 0), .int (iI a)] S0 H "java/lang/IndexOutOfBoundsException" := by
  refine ct_of (by decide +kernel) (Nat.le_of_ble_eq_true rfl) ?_
  intro pg en s mi args below meth co ls fx hs hr hlk hxt hin hl
  subst hs
  obtain ⟨hx, hb, hml, hown, hts⟩ := id fx.1
  have hS : va_S (fun q : Nat => s.heap.size ≤ q) s.heap s.heap [] := va_S.rf
  obtain ⟨hz, hu, ⟨ho, ha1, ha2, ha3, ha4, hsb⟩, hd, hsp⟩ := id hw
  have hAB : ∀ q : Nat, (fun q : Nat => s.heap.size ≤ q) q → θ.2.2.2 ≤ q := fun q h => Nat.le_trans hz.2.1 h
  have hz0 := hz
  have hK := sz_K fx.2 hz
  refine lv_iload_n hx hb dX1_last_0 rfl (lv_at hl 1 rfl) ?_
  exact e_cT (As := [.int (iI a)]) (rest := []) fx hl (nno_needPlace θ l hl0 S0 _ hz a (by omega) (by omega)) dX1_last_1 k260 k261 k1 k262 hd_X1_needPlace rfl ⟨by decide, by decide⟩ (Nat.le_of_ble_eq_true rfl) ⟨by decide, by decide⟩ ⟨by decide, by decide⟩ hS (fun _ h => h) hxt hlk (fun H1 h1 h2 => ⟨rfl, h1, h2⟩)

set_option maxHeartbeats 4000000 in
set_option maxRecDepth 100000 in
theorem ok_withDay (θ : TH) (l : Launch) (hl0 : l.stackTraces = false) (S0 : State) (H : Heap) (u : Nat → Nat) (dt sy sm sd : Nat → Int) (bc rf kn : Int) (hw : CWR θ S0 u H dt sy sm sd bc rf kn) (a k : Int) (h_0 : -2147483648 ≤ a ∧ a < 2147483648) (h_1 : -2147483648 ≤ k ∧ k < 2147483648) (h_2 : 0 ≤ a ∧ a < 6) (h_3 : 1 ≤ k ∧ k ≤ 31) (h_4 : k ≤ fI (mI (dt a.toNat) + 1) - fI (mI (dt a.toNat))) : CT l yX1_withDay cX1_withDay 4 (some .int) 4 88 0 0 [.ref (u 0), .int (iI a), .int (iI k)] S0 H (fun v9 H1 => v9 = some (.int (iI (inI (mI (dt a.toNat)) k))) ∧ CW θ u H1 (up dt a.toNat (inI (mI (dt a.toNat)) k)) sy sm sd (bc + 1) rf kn) (fun _ _ => False) (UA u H.size) := by
  refine ct_of (by decide +kernel) (Nat.le_of_ble_eq_true rfl) ?_
  intro pg en s mi args below meth co ls fx hs hr hlk hxt hin hl
  subst hs
  obtain ⟨hx, hb, hml, hown, hts⟩ := id fx.1
  have hS : va_S (UA u s.heap.size) s.heap s.heap [] := va_S.rf
  obtain ⟨hz, hu, ⟨ho, ha1, ha2, ha3, ha4, hsb⟩, hd, hsp⟩ := id hw
  have hAB := ua_b hu hz.2.1
  have hz0 := hz
  have hK := sz_K fx.2 hz
  refine lv_iload_n hx hb dX1_withDay_0 rfl (lv_at hl 1 rfl) ?_
  refine c_N (As := [.int (iI a)]) (rest := []) fx hl (nok_needPlace l S0 _ a (by omega) (by omega)) dX1_withDay_1 k260 k261 k1 k262 hd_X1_needPlace rfl ⟨by decide, by decide⟩ (Nat.le_of_ble_eq_true rfl) ⟨by dsimp only; omega, by dsimp only; omega⟩ ?_
  refine lv_iload_n hx hb dX1_withDay_4 rfl (lv_at hl 2 rfl) ?_
  refine q_con hx hb dX1_withDay_5 ?_
  refine q_bip hx hb dX1_withDay_6 (by decide) ?_
  refine c_N (As := [.int (iI k), .int (iI 1), .int (iI 31)]) (rest := []) fx hl (nok_needWithin l S0 _ k 1 31 (by omega) (by omega) (by omega) (by omega)) dX1_withDay_8 k172 k173 k1 k174 hd_X1_needWithin rfl ⟨by decide, by decide⟩ (Nat.le_of_ble_eq_true rfl) ⟨by dsimp only; omega, by dsimp only; omega⟩ ?_
  refine lv_aload_n hx hb dX1_withDay_11 rfl (lv_at hl 0 rfl) ?_
  refine r_get (θ := θ) (C := RX1) (T := TX1) (N := 8) (ci := 7) hx hb hts gwX1 hown hK ho rfl 0 (by decide) k73 (fun _ h => h) (v := .ref (u 1)) rfl dX1_withDay_12 ?_
  refine lv_iload_n hx hb dX1_withDay_15 rfl (lv_at hl 1 rfl) ?_
  refine r_iald (θ := θ) hx hb hK ha1 (i := a) (by omega) (by decide) dX1_withDay_16 ?_
  have tr1 := hd (a.toNat) (by omega)
  refine c_P (As := [.int (iI (dt a.toNat))]) (rest := []) fx hl (pm_X0_monthOf l (dt a.toNat) (by omega)) dX1_withDay_17 k283 k110 k13 k111 hd_X0_monthOf rfl ⟨by decide, by decide⟩ (Nat.le_of_ble_eq_true rfl) ⟨by omega, by omega⟩ ?_
  have t0z2 := mI_s (dt a.toNat)
  have t1z2 := mI_bd (dt a.toNat)
  have t2z2 := len_b (mI (dt a.toNat))
  refine lv_istore_n (lv' := [(3, .int (iI (mI (dt a.toNat)))), (0, .ref (u 0)), (1, .int (iI a)), (2, .int (iI k))]) hx hb dX1_withDay_20 rfl hl (by decide) rfl (fun ls hl => ?_)
  refine lv_iload_n hx hb dX1_withDay_21 rfl (lv_at hl 0 rfl) ?_
  refine lv_iload_n hx hb dX1_withDay_22 rfl (lv_at hl 3 rfl) ?_
  refine c_N (As := [.int (iI (mI (dt a.toNat))), .int (iI k)]) (rest := []) fx hl (nok_needDayOfMonth l S0 _ (mI (dt a.toNat)) k (by omega) (by omega) (by omega)) dX1_withDay_23 k703 k704 k1 k705 hd_X1_needDayOfMonth rfl ⟨by decide, by decide⟩ (Nat.le_of_ble_eq_true rfl) ⟨by dsimp only; omega, by dsimp only; omega⟩ ?_
  refine lv_aload_n hx hb dX1_withDay_26 rfl (lv_at hl 1 rfl) ?_
  refine lv_iload_n hx hb dX1_withDay_27 rfl (lv_at hl 2 rfl) ?_
  refine lv_iload_n hx hb dX1_withDay_28 rfl (lv_at hl 0 rfl) ?_
  refine lv_iload_n hx hb dX1_withDay_29 rfl (lv_at hl 3 rfl) ?_
  refine c_P (As := [.int (iI (mI (dt a.toNat))), .int (iI k)]) (rest := [.int (iI a), .ref (u 0)]) fx hl (pm_X0_dateIn l (mI (dt a.toNat)) k (by omega) (by omega)) dX1_withDay_30 k722 k132 k13 k133 hd_X0_dateIn rfl ⟨by decide, by decide⟩ (Nat.le_of_ble_eq_true rfl) ⟨by omega, by omega⟩ ?_
  have t0z3 := inI_s (m := (mI (dt a.toNat))) (k := k) (by omega)
  have t1z3 := fI_bd (mI (dt a.toNat))
  have t2z3 := fI_bd ((mI (dt a.toNat)) + 1)
  have hcw := hw
  refine c_W (As := [.int (iI a), .int (iI (inI (mI (dt a.toNat)) k))]) (rest := []) (b := u 0) (C := RX1) fx hl (ok_put θ l hl0 S0 _ u _ _ _ _ _ _ _ hcw a (inI (mI (dt a.toNat)) k) (by omega) (by omega) (by omega)) (ob_recv hK ho rfl) dX1_withDay_33 k723 k725 ks7 k1 k726 hd_X1_put rfl ⟨by decide, by decide⟩ (Nat.le_of_ble_eq_true rfl) ⟨by dsimp only; omega, by dsimp only; omega⟩ hS (fun q h => h.elim Or.inl (fun h => Or.inr (Nat.le_trans hS.1 h))) (fun H4 locs hwH4 hszH4 hkH4 hS => ?_)
  obtain ⟨hoH4, ha1H4, ha2H4, ha3H4, ha4H4, hsbH4⟩ := hwH4
  have hzH4 := hz0.at hAB hS
  first | exact e_i hx hb hr hlk hS dX1_withDay_36 (Nat.le_refl _) (Nat.le_refl _) ⟨ex_i (by omega), by first | exact ⟨hoH4, ha1H4, ha2H4, ha3H4, ha4H4, hsbH4⟩ | (subst_vars; exact ⟨hoH4, ha1H4, ha2H4, ha3H4, ha4H4, hsbH4⟩)⟩ | exact (show False by omega).elim

set_option maxHeartbeats 4000000 in
set_option maxRecDepth 100000 in
theorem no1_withDay (θ : TH) (l : Launch) (hl0 : l.stackTraces = false) (S0 : State) (H : Heap) (u : Nat → Nat) (dt sy sm sd : Nat → Int) (bc rf kn : Int) (hw : CWR θ S0 u H dt sy sm sd bc rf kn) (a k : Int) (h_0 : -2147483648 ≤ a ∧ a < 2147483648) (h_1 : -2147483648 ≤ k ∧ k < 2147483648) (h_2 : ¬ (0 ≤ a ∧ a < 6)) : TX l yX1_withDay cX1_withDay 4 (some .int) 7 110 [.ref (u 0), .int (iI a), .int (iI k)] S0 H "java/lang/IndexOutOfBoundsException" := by
  refine ct_of (by decide +kernel) (Nat.le_of_ble_eq_true rfl) ?_
  intro pg en s mi args below meth co ls fx hs hr hlk hxt hin hl
  subst hs
  obtain ⟨hx, hb, hml, hown, hts⟩ := id fx.1
  have hS : va_S (fun q : Nat => s.heap.size ≤ q) s.heap s.heap [] := va_S.rf
  obtain ⟨hz, hu, ⟨ho, ha1, ha2, ha3, ha4, hsb⟩, hd, hsp⟩ := id hw
  have hAB : ∀ q : Nat, (fun q : Nat => s.heap.size ≤ q) q → θ.2.2.2 ≤ q := fun q h => Nat.le_trans hz.2.1 h
  have hz0 := hz
  have hK := sz_K fx.2 hz
  refine lv_iload_n hx hb dX1_withDay_0 rfl (lv_at hl 1 rfl) ?_
  exact e_cT (As := [.int (iI a)]) (rest := []) fx hl (nno_needPlace θ l hl0 S0 _ hz a (by omega) (by omega)) dX1_withDay_1 k260 k261 k1 k262 hd_X1_needPlace rfl ⟨by decide, by decide⟩ (Nat.le_of_ble_eq_true rfl) ⟨by decide, by decide⟩ ⟨by decide, by decide⟩ hS (fun _ h => h) hxt hlk (fun H1 h1 h2 => ⟨rfl, h1, h2⟩)

set_option maxHeartbeats 4000000 in
set_option maxRecDepth 100000 in
theorem no2_withDay (θ : TH) (l : Launch) (hl0 : l.stackTraces = false) (S0 : State) (H : Heap) (u : Nat → Nat) (dt sy sm sd : Nat → Int) (bc rf kn : Int) (hw : CWR θ S0 u H dt sy sm sd bc rf kn) (a k : Int) (h_0 : -2147483648 ≤ a ∧ a < 2147483648) (h_1 : -2147483648 ≤ k ∧ k < 2147483648) (h_2 : 0 ≤ a ∧ a < 6) (h_3 : ¬ (1 ≤ k ∧ k ≤ 31)) : TX l yX1_withDay cX1_withDay 4 (some .int) 7 112 [.ref (u 0), .int (iI a), .int (iI k)] S0 H "java/lang/IllegalArgumentException" := by
  refine ct_of (by decide +kernel) (Nat.le_of_ble_eq_true rfl) ?_
  intro pg en s mi args below meth co ls fx hs hr hlk hxt hin hl
  subst hs
  obtain ⟨hx, hb, hml, hown, hts⟩ := id fx.1
  have hS : va_S (fun q : Nat => s.heap.size ≤ q) s.heap s.heap [] := va_S.rf
  obtain ⟨hz, hu, ⟨ho, ha1, ha2, ha3, ha4, hsb⟩, hd, hsp⟩ := id hw
  have hAB : ∀ q : Nat, (fun q : Nat => s.heap.size ≤ q) q → θ.2.2.2 ≤ q := fun q h => Nat.le_trans hz.2.1 h
  have hz0 := hz
  have hK := sz_K fx.2 hz
  refine lv_iload_n hx hb dX1_withDay_0 rfl (lv_at hl 1 rfl) ?_
  refine c_N (As := [.int (iI a)]) (rest := []) fx hl (nok_needPlace l S0 _ a (by omega) (by omega)) dX1_withDay_1 k260 k261 k1 k262 hd_X1_needPlace rfl ⟨by decide, by decide⟩ (Nat.le_of_ble_eq_true rfl) ⟨by dsimp only; omega, by dsimp only; omega⟩ ?_
  refine lv_iload_n hx hb dX1_withDay_4 rfl (lv_at hl 2 rfl) ?_
  refine q_con hx hb dX1_withDay_5 ?_
  refine q_bip hx hb dX1_withDay_6 (by decide) ?_
  exact e_cT (As := [.int (iI k), .int (iI 1), .int (iI 31)]) (rest := []) fx hl (nno_needWithin θ l hl0 S0 _ hz k 1 31 (by omega) (by omega) (by omega) (by omega)) dX1_withDay_8 k172 k173 k1 k174 hd_X1_needWithin rfl ⟨by decide, by decide⟩ (Nat.le_of_ble_eq_true rfl) ⟨by decide, by decide⟩ ⟨by decide, by decide⟩ hS (fun _ h => h) hxt hlk (fun H1 h1 h2 => ⟨rfl, h1, h2⟩)

set_option maxHeartbeats 4000000 in
set_option maxRecDepth 100000 in
theorem no3_withDay (θ : TH) (l : Launch) (hl0 : l.stackTraces = false) (S0 : State) (H : Heap) (u : Nat → Nat) (dt sy sm sd : Nat → Int) (bc rf kn : Int) (hw : CWR θ S0 u H dt sy sm sd bc rf kn) (a k : Int) (h_0 : -2147483648 ≤ a ∧ a < 2147483648) (h_1 : -2147483648 ≤ k ∧ k < 2147483648) (h_2 : 0 ≤ a ∧ a < 6) (h_3 : 1 ≤ k ∧ k ≤ 31) (h_4 : ¬ (k ≤ fI (mI (dt a.toNat) + 1) - fI (mI (dt a.toNat)))) : TX l yX1_withDay cX1_withDay 4 (some .int) 7 111 [.ref (u 0), .int (iI a), .int (iI k)] S0 H "java/lang/IllegalStateException" := by
  refine ct_of (by decide +kernel) (Nat.le_of_ble_eq_true rfl) ?_
  intro pg en s mi args below meth co ls fx hs hr hlk hxt hin hl
  subst hs
  obtain ⟨hx, hb, hml, hown, hts⟩ := id fx.1
  have hS : va_S (fun q : Nat => s.heap.size ≤ q) s.heap s.heap [] := va_S.rf
  obtain ⟨hz, hu, ⟨ho, ha1, ha2, ha3, ha4, hsb⟩, hd, hsp⟩ := id hw
  have hAB : ∀ q : Nat, (fun q : Nat => s.heap.size ≤ q) q → θ.2.2.2 ≤ q := fun q h => Nat.le_trans hz.2.1 h
  have hz0 := hz
  have hK := sz_K fx.2 hz
  refine lv_iload_n hx hb dX1_withDay_0 rfl (lv_at hl 1 rfl) ?_
  refine c_N (As := [.int (iI a)]) (rest := []) fx hl (nok_needPlace l S0 _ a (by omega) (by omega)) dX1_withDay_1 k260 k261 k1 k262 hd_X1_needPlace rfl ⟨by decide, by decide⟩ (Nat.le_of_ble_eq_true rfl) ⟨by dsimp only; omega, by dsimp only; omega⟩ ?_
  refine lv_iload_n hx hb dX1_withDay_4 rfl (lv_at hl 2 rfl) ?_
  refine q_con hx hb dX1_withDay_5 ?_
  refine q_bip hx hb dX1_withDay_6 (by decide) ?_
  refine c_N (As := [.int (iI k), .int (iI 1), .int (iI 31)]) (rest := []) fx hl (nok_needWithin l S0 _ k 1 31 (by omega) (by omega) (by omega) (by omega)) dX1_withDay_8 k172 k173 k1 k174 hd_X1_needWithin rfl ⟨by decide, by decide⟩ (Nat.le_of_ble_eq_true rfl) ⟨by dsimp only; omega, by dsimp only; omega⟩ ?_
  refine lv_aload_n hx hb dX1_withDay_11 rfl (lv_at hl 0 rfl) ?_
  refine r_get (θ := θ) (C := RX1) (T := TX1) (N := 8) (ci := 7) hx hb hts gwX1 hown hK ho rfl 0 (by decide) k73 (fun _ h => h) (v := .ref (u 1)) rfl dX1_withDay_12 ?_
  refine lv_iload_n hx hb dX1_withDay_15 rfl (lv_at hl 1 rfl) ?_
  refine r_iald (θ := θ) hx hb hK ha1 (i := a) (by omega) (by decide) dX1_withDay_16 ?_
  have tr1 := hd (a.toNat) (by omega)
  refine c_P (As := [.int (iI (dt a.toNat))]) (rest := []) fx hl (pm_X0_monthOf l (dt a.toNat) (by omega)) dX1_withDay_17 k283 k110 k13 k111 hd_X0_monthOf rfl ⟨by decide, by decide⟩ (Nat.le_of_ble_eq_true rfl) ⟨by omega, by omega⟩ ?_
  have t0z2 := mI_s (dt a.toNat)
  have t1z2 := mI_bd (dt a.toNat)
  have t2z2 := len_b (mI (dt a.toNat))
  refine lv_istore_n (lv' := [(3, .int (iI (mI (dt a.toNat)))), (0, .ref (u 0)), (1, .int (iI a)), (2, .int (iI k))]) hx hb dX1_withDay_20 rfl hl (by decide) rfl (fun ls hl => ?_)
  refine lv_iload_n hx hb dX1_withDay_21 rfl (lv_at hl 0 rfl) ?_
  refine lv_iload_n hx hb dX1_withDay_22 rfl (lv_at hl 3 rfl) ?_
  exact e_cT (As := [.int (iI (mI (dt a.toNat))), .int (iI k)]) (rest := []) fx hl (nno_needDayOfMonth θ l hl0 S0 _ hz (mI (dt a.toNat)) k (by omega) (by omega) (by omega)) dX1_withDay_23 k703 k704 k1 k705 hd_X1_needDayOfMonth rfl ⟨by decide, by decide⟩ (Nat.le_of_ble_eq_true rfl) ⟨by decide, by decide⟩ ⟨by decide, by decide⟩ hS (fun _ h => h) hxt hlk (fun H1 h1 h2 => ⟨rfl, h1, h2⟩)

set_option maxHeartbeats 4000000 in
set_option maxRecDepth 100000 in
theorem ok_shift (θ : TH) (l : Launch) (hl0 : l.stackTraces = false) (S0 : State) (H : Heap) (u : Nat → Nat) (dt sy sm sd : Nat → Int) (bc rf kn : Int) (hw : CWR θ S0 u H dt sy sm sd bc rf kn) (a n : Int) (h_0 : -2147483648 ≤ a ∧ a < 2147483648) (h_1 : -2147483648 ≤ n ∧ n < 2147483648) (h_2 : 0 ≤ a ∧ a < 6) (h_3 : -240000 ≤ n ∧ n ≤ 240000) (h_4 : -4371587 ≤ shI (dt a.toNat) n ∧ shI (dt a.toNat) n ≤ 2932896) : CT l yX1_shift cX1_shift 4 (some .int) 4 92 0 0 [.ref (u 0), .int (iI a), .int (iI n)] S0 H (fun v9 H1 => v9 = some (.int (iI (dI (shI (dt a.toNat) n)))) ∧ CW θ u H1 (up dt a.toNat (shI (dt a.toNat) n)) sy sm sd (bc + 1) rf kn) (fun _ _ => False) (UA u H.size) := by
  refine ct_of (by decide +kernel) (Nat.le_of_ble_eq_true rfl) ?_
  intro pg en s mi args below meth co ls fx hs hr hlk hxt hin hl
  subst hs
  obtain ⟨hx, hb, hml, hown, hts⟩ := id fx.1
  have hS : va_S (UA u s.heap.size) s.heap s.heap [] := va_S.rf
  obtain ⟨hz, hu, ⟨ho, ha1, ha2, ha3, ha4, hsb⟩, hd, hsp⟩ := id hw
  have hAB := ua_b hu hz.2.1
  have hz0 := hz
  have hK := sz_K fx.2 hz
  refine lv_iload_n hx hb dX1_shift_0 rfl (lv_at hl 1 rfl) ?_
  refine c_N (As := [.int (iI a)]) (rest := []) fx hl (nok_needPlace l S0 _ a (by omega) (by omega)) dX1_shift_1 k260 k261 k1 k262 hd_X1_needPlace rfl ⟨by decide, by decide⟩ (Nat.le_of_ble_eq_true rfl) ⟨by dsimp only; omega, by dsimp only; omega⟩ ?_
  refine lv_iload_n hx hb dX1_shift_4 rfl (lv_at hl 2 rfl) ?_
  refine c_N (As := [.int (iI n)]) (rest := []) fx hl (nok_needMonths l S0 _ n (by omega) (by omega)) dX1_shift_5 k640 k641 k1 k642 hd_X1_needMonths rfl ⟨by decide, by decide⟩ (Nat.le_of_ble_eq_true rfl) ⟨by dsimp only; omega, by dsimp only; omega⟩ ?_
  refine lv_aload_n hx hb dX1_shift_8 rfl (lv_at hl 0 rfl) ?_
  refine r_get (θ := θ) (C := RX1) (T := TX1) (N := 8) (ci := 7) hx hb hts gwX1 hown hK ho rfl 0 (by decide) k73 (fun _ h => h) (v := .ref (u 1)) rfl dX1_shift_9 ?_
  refine lv_iload_n hx hb dX1_shift_12 rfl (lv_at hl 1 rfl) ?_
  refine r_iald (θ := θ) hx hb hK ha1 (i := a) (by omega) (by decide) dX1_shift_13 ?_
  have tr1 := hd (a.toNat) (by omega)
  refine lv_iload_n hx hb dX1_shift_14 rfl (lv_at hl 2 rfl) ?_
  refine c_P (As := [.int (iI (dt a.toNat)), .int (iI n)]) (rest := []) fx hl (pm_X0_shifted l (dt a.toNat) n (by omega) (by omega)) dX1_shift_15 k783 k141 k13 k142 hd_X0_shifted rfl ⟨by decide, by decide⟩ (Nat.le_of_ble_eq_true rfl) ⟨by omega, by omega⟩ ?_
  have t0z2 := shI_s (dt a.toNat) n
  have t1z2 := shI_bd (dt a.toNat) n
  refine lv_istore_n (lv' := [(3, .int (iI (shI (dt a.toNat) n))), (0, .ref (u 0)), (1, .int (iI a)), (2, .int (iI n))]) hx hb dX1_shift_18 rfl hl (by decide) rfl (fun ls hl => ?_)
  refine lv_iload_n hx hb dX1_shift_19 rfl (lv_at hl 0 rfl) ?_
  refine c_N (As := [.int (iI (shI (dt a.toNat) n))]) (rest := []) fx hl (nok_needDate l S0 _ (shI (dt a.toNat) n) (by omega) (by omega)) dX1_shift_20 k784 k785 k1 k786 hd_X1_needDate rfl ⟨by decide, by decide⟩ (Nat.le_of_ble_eq_true rfl) ⟨by dsimp only; omega, by dsimp only; omega⟩ ?_
  refine lv_aload_n hx hb dX1_shift_23 rfl (lv_at hl 1 rfl) ?_
  refine lv_iload_n hx hb dX1_shift_24 rfl (lv_at hl 2 rfl) ?_
  refine lv_iload_n hx hb dX1_shift_25 rfl (lv_at hl 0 rfl) ?_
  have hcw := hw
  refine c_W (As := [.int (iI a), .int (iI (shI (dt a.toNat) n))]) (rest := []) (b := u 0) (C := RX1) fx hl (ok_put θ l hl0 S0 _ u _ _ _ _ _ _ _ hcw a (shI (dt a.toNat) n) (by omega) (by omega) (by omega)) (ob_recv hK ho rfl) dX1_shift_26 k723 k725 ks7 k1 k726 hd_X1_put rfl ⟨by decide, by decide⟩ (Nat.le_of_ble_eq_true rfl) ⟨by dsimp only; omega, by dsimp only; omega⟩ hS (fun q h => h.elim Or.inl (fun h => Or.inr (Nat.le_trans hS.1 h))) (fun H3 locs hwH3 hszH3 hkH3 hS => ?_)
  obtain ⟨hoH3, ha1H3, ha2H3, ha3H3, ha4H3, hsbH3⟩ := hwH3
  have hzH3 := hz0.at hAB hS
  refine c_P (As := [.int (iI (shI (dt a.toNat) n))]) (rest := []) fx hl (pm_X0_dayOf l (shI (dt a.toNat) n) (by omega)) dX1_shift_29 k288 k129 k13 k130 hd_X0_dayOf rfl ⟨by decide, by decide⟩ (Nat.le_of_ble_eq_true rfl) ⟨by omega, by omega⟩ ?_
  have t0z4 := dI_b (shI (dt a.toNat) n)
  first | exact e_i hx hb hr hlk hS dX1_shift_32 (Nat.le_refl _) (Nat.le_refl _) ⟨ex_i (by omega), by first | exact ⟨hoH3, ha1H3, ha2H3, ha3H3, ha4H3, hsbH3⟩ | (subst_vars; exact ⟨hoH3, ha1H3, ha2H3, ha3H3, ha4H3, hsbH3⟩)⟩ | exact (show False by omega).elim

set_option maxHeartbeats 4000000 in
set_option maxRecDepth 100000 in
theorem no1_shift (θ : TH) (l : Launch) (hl0 : l.stackTraces = false) (S0 : State) (H : Heap) (u : Nat → Nat) (dt sy sm sd : Nat → Int) (bc rf kn : Int) (hw : CWR θ S0 u H dt sy sm sd bc rf kn) (a n : Int) (h_0 : -2147483648 ≤ a ∧ a < 2147483648) (h_1 : -2147483648 ≤ n ∧ n < 2147483648) (h_2 : ¬ (0 ≤ a ∧ a < 6)) : TX l yX1_shift cX1_shift 4 (some .int) 7 110 [.ref (u 0), .int (iI a), .int (iI n)] S0 H "java/lang/IndexOutOfBoundsException" := by
  refine ct_of (by decide +kernel) (Nat.le_of_ble_eq_true rfl) ?_
  intro pg en s mi args below meth co ls fx hs hr hlk hxt hin hl
  subst hs
  obtain ⟨hx, hb, hml, hown, hts⟩ := id fx.1
  have hS : va_S (fun q : Nat => s.heap.size ≤ q) s.heap s.heap [] := va_S.rf
  obtain ⟨hz, hu, ⟨ho, ha1, ha2, ha3, ha4, hsb⟩, hd, hsp⟩ := id hw
  have hAB : ∀ q : Nat, (fun q : Nat => s.heap.size ≤ q) q → θ.2.2.2 ≤ q := fun q h => Nat.le_trans hz.2.1 h
  have hz0 := hz
  have hK := sz_K fx.2 hz
  refine lv_iload_n hx hb dX1_shift_0 rfl (lv_at hl 1 rfl) ?_
  exact e_cT (As := [.int (iI a)]) (rest := []) fx hl (nno_needPlace θ l hl0 S0 _ hz a (by omega) (by omega)) dX1_shift_1 k260 k261 k1 k262 hd_X1_needPlace rfl ⟨by decide, by decide⟩ (Nat.le_of_ble_eq_true rfl) ⟨by decide, by decide⟩ ⟨by decide, by decide⟩ hS (fun _ h => h) hxt hlk (fun H1 h1 h2 => ⟨rfl, h1, h2⟩)

set_option maxHeartbeats 4000000 in
set_option maxRecDepth 100000 in
theorem no2_shift (θ : TH) (l : Launch) (hl0 : l.stackTraces = false) (S0 : State) (H : Heap) (u : Nat → Nat) (dt sy sm sd : Nat → Int) (bc rf kn : Int) (hw : CWR θ S0 u H dt sy sm sd bc rf kn) (a n : Int) (h_0 : -2147483648 ≤ a ∧ a < 2147483648) (h_1 : -2147483648 ≤ n ∧ n < 2147483648) (h_2 : 0 ≤ a ∧ a < 6) (h_3 : ¬ (-240000 ≤ n ∧ n ≤ 240000)) : TX l yX1_shift cX1_shift 4 (some .int) 8 132 [.ref (u 0), .int (iI a), .int (iI n)] S0 H "java/lang/IllegalArgumentException" := by
  refine ct_of (by decide +kernel) (Nat.le_of_ble_eq_true rfl) ?_
  intro pg en s mi args below meth co ls fx hs hr hlk hxt hin hl
  subst hs
  obtain ⟨hx, hb, hml, hown, hts⟩ := id fx.1
  have hS : va_S (fun q : Nat => s.heap.size ≤ q) s.heap s.heap [] := va_S.rf
  obtain ⟨hz, hu, ⟨ho, ha1, ha2, ha3, ha4, hsb⟩, hd, hsp⟩ := id hw
  have hAB : ∀ q : Nat, (fun q : Nat => s.heap.size ≤ q) q → θ.2.2.2 ≤ q := fun q h => Nat.le_trans hz.2.1 h
  have hz0 := hz
  have hK := sz_K fx.2 hz
  refine lv_iload_n hx hb dX1_shift_0 rfl (lv_at hl 1 rfl) ?_
  refine c_N (As := [.int (iI a)]) (rest := []) fx hl (nok_needPlace l S0 _ a (by omega) (by omega)) dX1_shift_1 k260 k261 k1 k262 hd_X1_needPlace rfl ⟨by decide, by decide⟩ (Nat.le_of_ble_eq_true rfl) ⟨by dsimp only; omega, by dsimp only; omega⟩ ?_
  refine lv_iload_n hx hb dX1_shift_4 rfl (lv_at hl 2 rfl) ?_
  exact e_cT (As := [.int (iI n)]) (rest := []) fx hl (nno_needMonths θ l hl0 S0 _ hz n (by omega) (by omega)) dX1_shift_5 k640 k641 k1 k642 hd_X1_needMonths rfl ⟨by decide, by decide⟩ (Nat.le_of_ble_eq_true rfl) ⟨by decide, by decide⟩ ⟨by decide, by decide⟩ hS (fun _ h => h) hxt hlk (fun H1 h1 h2 => ⟨rfl, h1, h2⟩)

set_option maxHeartbeats 4000000 in
set_option maxRecDepth 100000 in
theorem no3_shift (θ : TH) (l : Launch) (hl0 : l.stackTraces = false) (S0 : State) (H : Heap) (u : Nat → Nat) (dt sy sm sd : Nat → Int) (bc rf kn : Int) (hw : CWR θ S0 u H dt sy sm sd bc rf kn) (a n : Int) (h_0 : -2147483648 ≤ a ∧ a < 2147483648) (h_1 : -2147483648 ≤ n ∧ n < 2147483648) (h_2 : 0 ≤ a ∧ a < 6) (h_3 : -240000 ≤ n ∧ n ≤ 240000) (h_4 : ¬ (-4371587 ≤ shI (dt a.toNat) n ∧ shI (dt a.toNat) n ≤ 2932896)) : TX l yX1_shift cX1_shift 4 (some .int) 7 110 [.ref (u 0), .int (iI a), .int (iI n)] S0 H "java/lang/IllegalStateException" := by
  refine ct_of (by decide +kernel) (Nat.le_of_ble_eq_true rfl) ?_
  intro pg en s mi args below meth co ls fx hs hr hlk hxt hin hl
  subst hs
  obtain ⟨hx, hb, hml, hown, hts⟩ := id fx.1
  have hS : va_S (fun q : Nat => s.heap.size ≤ q) s.heap s.heap [] := va_S.rf
  obtain ⟨hz, hu, ⟨ho, ha1, ha2, ha3, ha4, hsb⟩, hd, hsp⟩ := id hw
  have hAB : ∀ q : Nat, (fun q : Nat => s.heap.size ≤ q) q → θ.2.2.2 ≤ q := fun q h => Nat.le_trans hz.2.1 h
  have hz0 := hz
  have hK := sz_K fx.2 hz
  refine lv_iload_n hx hb dX1_shift_0 rfl (lv_at hl 1 rfl) ?_
  refine c_N (As := [.int (iI a)]) (rest := []) fx hl (nok_needPlace l S0 _ a (by omega) (by omega)) dX1_shift_1 k260 k261 k1 k262 hd_X1_needPlace rfl ⟨by decide, by decide⟩ (Nat.le_of_ble_eq_true rfl) ⟨by dsimp only; omega, by dsimp only; omega⟩ ?_
  refine lv_iload_n hx hb dX1_shift_4 rfl (lv_at hl 2 rfl) ?_
  refine c_N (As := [.int (iI n)]) (rest := []) fx hl (nok_needMonths l S0 _ n (by omega) (by omega)) dX1_shift_5 k640 k641 k1 k642 hd_X1_needMonths rfl ⟨by decide, by decide⟩ (Nat.le_of_ble_eq_true rfl) ⟨by dsimp only; omega, by dsimp only; omega⟩ ?_
  refine lv_aload_n hx hb dX1_shift_8 rfl (lv_at hl 0 rfl) ?_
  refine r_get (θ := θ) (C := RX1) (T := TX1) (N := 8) (ci := 7) hx hb hts gwX1 hown hK ho rfl 0 (by decide) k73 (fun _ h => h) (v := .ref (u 1)) rfl dX1_shift_9 ?_
  refine lv_iload_n hx hb dX1_shift_12 rfl (lv_at hl 1 rfl) ?_
  refine r_iald (θ := θ) hx hb hK ha1 (i := a) (by omega) (by decide) dX1_shift_13 ?_
  have tr1 := hd (a.toNat) (by omega)
  refine lv_iload_n hx hb dX1_shift_14 rfl (lv_at hl 2 rfl) ?_
  refine c_P (As := [.int (iI (dt a.toNat)), .int (iI n)]) (rest := []) fx hl (pm_X0_shifted l (dt a.toNat) n (by omega) (by omega)) dX1_shift_15 k783 k141 k13 k142 hd_X0_shifted rfl ⟨by decide, by decide⟩ (Nat.le_of_ble_eq_true rfl) ⟨by omega, by omega⟩ ?_
  have t0z2 := shI_s (dt a.toNat) n
  have t1z2 := shI_bd (dt a.toNat) n
  refine lv_istore_n (lv' := [(3, .int (iI (shI (dt a.toNat) n))), (0, .ref (u 0)), (1, .int (iI a)), (2, .int (iI n))]) hx hb dX1_shift_18 rfl hl (by decide) rfl (fun ls hl => ?_)
  refine lv_iload_n hx hb dX1_shift_19 rfl (lv_at hl 0 rfl) ?_
  exact e_cT (As := [.int (iI (shI (dt a.toNat) n))]) (rest := []) fx hl (nno_needDate θ l hl0 S0 _ hz (shI (dt a.toNat) n) (by omega) (by omega)) dX1_shift_20 k784 k785 k1 k786 hd_X1_needDate rfl ⟨by decide, by decide⟩ (Nat.le_of_ble_eq_true rfl) ⟨by decide, by decide⟩ ⟨by decide, by decide⟩ hS (fun _ h => h) hxt hlk (fun H1 h1 h2 => ⟨rfl, h1, h2⟩)

set_option maxHeartbeats 4000000 in
set_option maxRecDepth 100000 in
theorem ok_shiftYears (θ : TH) (l : Launch) (hl0 : l.stackTraces = false) (S0 : State) (H : Heap) (u : Nat → Nat) (dt sy sm sd : Nat → Int) (bc rf kn : Int) (hw : CWR θ S0 u H dt sy sm sd bc rf kn) (a n : Int) (h_0 : -2147483648 ≤ a ∧ a < 2147483648) (h_1 : -2147483648 ≤ n ∧ n < 2147483648) (h_2 : 0 ≤ a ∧ a < 6) (h_3 : -20000 ≤ n ∧ n ≤ 20000) (h_4 : -4371587 ≤ shI (dt a.toNat) (12 * n) ∧ shI (dt a.toNat) (12 * n) ≤ 2932896) : CT l yX1_shiftYears cX1_shiftYears 4 (some .int) 4 92 0 0 [.ref (u 0), .int (iI a), .int (iI n)] S0 H (fun v9 H1 => v9 = some (.int (iI (dI (shI (dt a.toNat) (12 * n))))) ∧ CW θ u H1 (up dt a.toNat (shI (dt a.toNat) (12 * n))) sy sm sd (bc + 1) rf kn) (fun _ _ => False) (UA u H.size) := by
  refine ct_of (by decide +kernel) (Nat.le_of_ble_eq_true rfl) ?_
  intro pg en s mi args below meth co ls fx hs hr hlk hxt hin hl
  subst hs
  obtain ⟨hx, hb, hml, hown, hts⟩ := id fx.1
  have hS : va_S (UA u s.heap.size) s.heap s.heap [] := va_S.rf
  obtain ⟨hz, hu, ⟨ho, ha1, ha2, ha3, ha4, hsb⟩, hd, hsp⟩ := id hw
  have hAB := ua_b hu hz.2.1
  have hz0 := hz
  have hK := sz_K fx.2 hz
  refine lv_iload_n hx hb dX1_shiftYears_0 rfl (lv_at hl 1 rfl) ?_
  refine c_N (As := [.int (iI a)]) (rest := []) fx hl (nok_needPlace l S0 _ a (by omega) (by omega)) dX1_shiftYears_1 k260 k261 k1 k262 hd_X1_needPlace rfl ⟨by decide, by decide⟩ (Nat.le_of_ble_eq_true rfl) ⟨by dsimp only; omega, by dsimp only; omega⟩ ?_
  refine lv_iload_n hx hb dX1_shiftYears_4 rfl (lv_at hl 2 rfl) ?_
  refine q_sip hx hb dX1_shiftYears_5 (by decide) ?_
  refine q_sip hx hb dX1_shiftYears_8 (by decide) ?_
  refine c_N (As := [.int (iI n), .int (iI (-20000)), .int (iI 20000)]) (rest := []) fx hl (nok_needWithin l S0 _ n (-20000) 20000 (by omega) (by omega) (by omega) (by omega)) dX1_shiftYears_11 k172 k173 k1 k174 hd_X1_needWithin rfl ⟨by decide, by decide⟩ (Nat.le_of_ble_eq_true rfl) ⟨by dsimp only; omega, by dsimp only; omega⟩ ?_
  refine lv_aload_n hx hb dX1_shiftYears_14 rfl (lv_at hl 0 rfl) ?_
  refine r_get (θ := θ) (C := RX1) (T := TX1) (N := 8) (ci := 7) hx hb hts gwX1 hown hK ho rfl 0 (by decide) k73 (fun _ h => h) (v := .ref (u 1)) rfl dX1_shiftYears_15 ?_
  refine lv_iload_n hx hb dX1_shiftYears_18 rfl (lv_at hl 1 rfl) ?_
  refine r_iald (θ := θ) hx hb hK ha1 (i := a) (by omega) (by decide) dX1_shiftYears_19 ?_
  have tr1 := hd (a.toNat) (by omega)
  refine q_bip hx hb dX1_shiftYears_20 (by decide) ?_
  refine lv_iload_n hx hb dX1_shiftYears_22 rfl (lv_at hl 2 rfl) ?_
  refine q_mul hx hb dX1_shiftYears_23 ?_
  refine c_P (As := [.int (iI (dt a.toNat)), .int (iI (12 * n))]) (rest := []) fx hl (pm_X0_shifted l (dt a.toNat) (12 * n) (by omega) (by omega)) dX1_shiftYears_24 k783 k141 k13 k142 hd_X0_shifted rfl ⟨by decide, by decide⟩ (Nat.le_of_ble_eq_true rfl) ⟨by omega, by omega⟩ ?_
  have t0z2 := shI_s (dt a.toNat) (12 * n)
  have t1z2 := shI_bd (dt a.toNat) (12 * n)
  refine lv_istore_n (lv' := [(3, .int (iI (shI (dt a.toNat) (12 * n)))), (0, .ref (u 0)), (1, .int (iI a)), (2, .int (iI n))]) hx hb dX1_shiftYears_27 rfl hl (by decide) rfl (fun ls hl => ?_)
  refine lv_iload_n hx hb dX1_shiftYears_28 rfl (lv_at hl 0 rfl) ?_
  refine c_N (As := [.int (iI (shI (dt a.toNat) (12 * n)))]) (rest := []) fx hl (nok_needDate l S0 _ (shI (dt a.toNat) (12 * n)) (by omega) (by omega)) dX1_shiftYears_29 k784 k785 k1 k786 hd_X1_needDate rfl ⟨by decide, by decide⟩ (Nat.le_of_ble_eq_true rfl) ⟨by dsimp only; omega, by dsimp only; omega⟩ ?_
  refine lv_aload_n hx hb dX1_shiftYears_32 rfl (lv_at hl 1 rfl) ?_
  refine lv_iload_n hx hb dX1_shiftYears_33 rfl (lv_at hl 2 rfl) ?_
  refine lv_iload_n hx hb dX1_shiftYears_34 rfl (lv_at hl 0 rfl) ?_
  have hcw := hw
  refine c_W (As := [.int (iI a), .int (iI (shI (dt a.toNat) (12 * n)))]) (rest := []) (b := u 0) (C := RX1) fx hl (ok_put θ l hl0 S0 _ u _ _ _ _ _ _ _ hcw a (shI (dt a.toNat) (12 * n)) (by omega) (by omega) (by omega)) (ob_recv hK ho rfl) dX1_shiftYears_35 k723 k725 ks7 k1 k726 hd_X1_put rfl ⟨by decide, by decide⟩ (Nat.le_of_ble_eq_true rfl) ⟨by dsimp only; omega, by dsimp only; omega⟩ hS (fun q h => h.elim Or.inl (fun h => Or.inr (Nat.le_trans hS.1 h))) (fun H3 locs hwH3 hszH3 hkH3 hS => ?_)
  obtain ⟨hoH3, ha1H3, ha2H3, ha3H3, ha4H3, hsbH3⟩ := hwH3
  have hzH3 := hz0.at hAB hS
  refine c_P (As := [.int (iI (shI (dt a.toNat) (12 * n)))]) (rest := []) fx hl (pm_X0_dayOf l (shI (dt a.toNat) (12 * n)) (by omega)) dX1_shiftYears_38 k288 k129 k13 k130 hd_X0_dayOf rfl ⟨by decide, by decide⟩ (Nat.le_of_ble_eq_true rfl) ⟨by omega, by omega⟩ ?_
  have t0z4 := dI_b (shI (dt a.toNat) (12 * n))
  first | exact e_i hx hb hr hlk hS dX1_shiftYears_41 (Nat.le_refl _) (Nat.le_refl _) ⟨ex_i (by omega), by first | exact ⟨hoH3, ha1H3, ha2H3, ha3H3, ha4H3, hsbH3⟩ | (subst_vars; exact ⟨hoH3, ha1H3, ha2H3, ha3H3, ha4H3, hsbH3⟩)⟩ | exact (show False by omega).elim

set_option maxHeartbeats 4000000 in
set_option maxRecDepth 100000 in
theorem no1_shiftYears (θ : TH) (l : Launch) (hl0 : l.stackTraces = false) (S0 : State) (H : Heap) (u : Nat → Nat) (dt sy sm sd : Nat → Int) (bc rf kn : Int) (hw : CWR θ S0 u H dt sy sm sd bc rf kn) (a n : Int) (h_0 : -2147483648 ≤ a ∧ a < 2147483648) (h_1 : -2147483648 ≤ n ∧ n < 2147483648) (h_2 : ¬ (0 ≤ a ∧ a < 6)) : TX l yX1_shiftYears cX1_shiftYears 4 (some .int) 7 110 [.ref (u 0), .int (iI a), .int (iI n)] S0 H "java/lang/IndexOutOfBoundsException" := by
  refine ct_of (by decide +kernel) (Nat.le_of_ble_eq_true rfl) ?_
  intro pg en s mi args below meth co ls fx hs hr hlk hxt hin hl
  subst hs
  obtain ⟨hx, hb, hml, hown, hts⟩ := id fx.1
  have hS : va_S (fun q : Nat => s.heap.size ≤ q) s.heap s.heap [] := va_S.rf
  obtain ⟨hz, hu, ⟨ho, ha1, ha2, ha3, ha4, hsb⟩, hd, hsp⟩ := id hw
  have hAB : ∀ q : Nat, (fun q : Nat => s.heap.size ≤ q) q → θ.2.2.2 ≤ q := fun q h => Nat.le_trans hz.2.1 h
  have hz0 := hz
  have hK := sz_K fx.2 hz
  refine lv_iload_n hx hb dX1_shiftYears_0 rfl (lv_at hl 1 rfl) ?_
  exact e_cT (As := [.int (iI a)]) (rest := []) fx hl (nno_needPlace θ l hl0 S0 _ hz a (by omega) (by omega)) dX1_shiftYears_1 k260 k261 k1 k262 hd_X1_needPlace rfl ⟨by decide, by decide⟩ (Nat.le_of_ble_eq_true rfl) ⟨by decide, by decide⟩ ⟨by decide, by decide⟩ hS (fun _ h => h) hxt hlk (fun H1 h1 h2 => ⟨rfl, h1, h2⟩)

set_option maxHeartbeats 4000000 in
set_option maxRecDepth 100000 in
theorem no2_shiftYears (θ : TH) (l : Launch) (hl0 : l.stackTraces = false) (S0 : State) (H : Heap) (u : Nat → Nat) (dt sy sm sd : Nat → Int) (bc rf kn : Int) (hw : CWR θ S0 u H dt sy sm sd bc rf kn) (a n : Int) (h_0 : -2147483648 ≤ a ∧ a < 2147483648) (h_1 : -2147483648 ≤ n ∧ n < 2147483648) (h_2 : 0 ≤ a ∧ a < 6) (h_3 : ¬ (-20000 ≤ n ∧ n ≤ 20000)) : TX l yX1_shiftYears cX1_shiftYears 4 (some .int) 7 112 [.ref (u 0), .int (iI a), .int (iI n)] S0 H "java/lang/IllegalArgumentException" := by
  refine ct_of (by decide +kernel) (Nat.le_of_ble_eq_true rfl) ?_
  intro pg en s mi args below meth co ls fx hs hr hlk hxt hin hl
  subst hs
  obtain ⟨hx, hb, hml, hown, hts⟩ := id fx.1
  have hS : va_S (fun q : Nat => s.heap.size ≤ q) s.heap s.heap [] := va_S.rf
  obtain ⟨hz, hu, ⟨ho, ha1, ha2, ha3, ha4, hsb⟩, hd, hsp⟩ := id hw
  have hAB : ∀ q : Nat, (fun q : Nat => s.heap.size ≤ q) q → θ.2.2.2 ≤ q := fun q h => Nat.le_trans hz.2.1 h
  have hz0 := hz
  have hK := sz_K fx.2 hz
  refine lv_iload_n hx hb dX1_shiftYears_0 rfl (lv_at hl 1 rfl) ?_
  refine c_N (As := [.int (iI a)]) (rest := []) fx hl (nok_needPlace l S0 _ a (by omega) (by omega)) dX1_shiftYears_1 k260 k261 k1 k262 hd_X1_needPlace rfl ⟨by decide, by decide⟩ (Nat.le_of_ble_eq_true rfl) ⟨by dsimp only; omega, by dsimp only; omega⟩ ?_
  refine lv_iload_n hx hb dX1_shiftYears_4 rfl (lv_at hl 2 rfl) ?_
  refine q_sip hx hb dX1_shiftYears_5 (by decide) ?_
  refine q_sip hx hb dX1_shiftYears_8 (by decide) ?_
  exact e_cT (As := [.int (iI n), .int (iI (-20000)), .int (iI 20000)]) (rest := []) fx hl (nno_needWithin θ l hl0 S0 _ hz n (-20000) 20000 (by omega) (by omega) (by omega) (by omega)) dX1_shiftYears_11 k172 k173 k1 k174 hd_X1_needWithin rfl ⟨by decide, by decide⟩ (Nat.le_of_ble_eq_true rfl) ⟨by decide, by decide⟩ ⟨by decide, by decide⟩ hS (fun _ h => h) hxt hlk (fun H1 h1 h2 => ⟨rfl, h1, h2⟩)

set_option maxHeartbeats 4000000 in
set_option maxRecDepth 100000 in
theorem no3_shiftYears (θ : TH) (l : Launch) (hl0 : l.stackTraces = false) (S0 : State) (H : Heap) (u : Nat → Nat) (dt sy sm sd : Nat → Int) (bc rf kn : Int) (hw : CWR θ S0 u H dt sy sm sd bc rf kn) (a n : Int) (h_0 : -2147483648 ≤ a ∧ a < 2147483648) (h_1 : -2147483648 ≤ n ∧ n < 2147483648) (h_2 : 0 ≤ a ∧ a < 6) (h_3 : -20000 ≤ n ∧ n ≤ 20000) (h_4 : ¬ (-4371587 ≤ shI (dt a.toNat) (12 * n) ∧ shI (dt a.toNat) (12 * n) ≤ 2932896)) : TX l yX1_shiftYears cX1_shiftYears 4 (some .int) 7 110 [.ref (u 0), .int (iI a), .int (iI n)] S0 H "java/lang/IllegalStateException" := by
  refine ct_of (by decide +kernel) (Nat.le_of_ble_eq_true rfl) ?_
  intro pg en s mi args below meth co ls fx hs hr hlk hxt hin hl
  subst hs
  obtain ⟨hx, hb, hml, hown, hts⟩ := id fx.1
  have hS : va_S (fun q : Nat => s.heap.size ≤ q) s.heap s.heap [] := va_S.rf
  obtain ⟨hz, hu, ⟨ho, ha1, ha2, ha3, ha4, hsb⟩, hd, hsp⟩ := id hw
  have hAB : ∀ q : Nat, (fun q : Nat => s.heap.size ≤ q) q → θ.2.2.2 ≤ q := fun q h => Nat.le_trans hz.2.1 h
  have hz0 := hz
  have hK := sz_K fx.2 hz
  refine lv_iload_n hx hb dX1_shiftYears_0 rfl (lv_at hl 1 rfl) ?_
  refine c_N (As := [.int (iI a)]) (rest := []) fx hl (nok_needPlace l S0 _ a (by omega) (by omega)) dX1_shiftYears_1 k260 k261 k1 k262 hd_X1_needPlace rfl ⟨by decide, by decide⟩ (Nat.le_of_ble_eq_true rfl) ⟨by dsimp only; omega, by dsimp only; omega⟩ ?_
  refine lv_iload_n hx hb dX1_shiftYears_4 rfl (lv_at hl 2 rfl) ?_
  refine q_sip hx hb dX1_shiftYears_5 (by decide) ?_
  refine q_sip hx hb dX1_shiftYears_8 (by decide) ?_
  refine c_N (As := [.int (iI n), .int (iI (-20000)), .int (iI 20000)]) (rest := []) fx hl (nok_needWithin l S0 _ n (-20000) 20000 (by omega) (by omega) (by omega) (by omega)) dX1_shiftYears_11 k172 k173 k1 k174 hd_X1_needWithin rfl ⟨by decide, by decide⟩ (Nat.le_of_ble_eq_true rfl) ⟨by dsimp only; omega, by dsimp only; omega⟩ ?_
  refine lv_aload_n hx hb dX1_shiftYears_14 rfl (lv_at hl 0 rfl) ?_
  refine r_get (θ := θ) (C := RX1) (T := TX1) (N := 8) (ci := 7) hx hb hts gwX1 hown hK ho rfl 0 (by decide) k73 (fun _ h => h) (v := .ref (u 1)) rfl dX1_shiftYears_15 ?_
  refine lv_iload_n hx hb dX1_shiftYears_18 rfl (lv_at hl 1 rfl) ?_
  refine r_iald (θ := θ) hx hb hK ha1 (i := a) (by omega) (by decide) dX1_shiftYears_19 ?_
  have tr1 := hd (a.toNat) (by omega)
  refine q_bip hx hb dX1_shiftYears_20 (by decide) ?_
  refine lv_iload_n hx hb dX1_shiftYears_22 rfl (lv_at hl 2 rfl) ?_
  refine q_mul hx hb dX1_shiftYears_23 ?_
  refine c_P (As := [.int (iI (dt a.toNat)), .int (iI (12 * n))]) (rest := []) fx hl (pm_X0_shifted l (dt a.toNat) (12 * n) (by omega) (by omega)) dX1_shiftYears_24 k783 k141 k13 k142 hd_X0_shifted rfl ⟨by decide, by decide⟩ (Nat.le_of_ble_eq_true rfl) ⟨by omega, by omega⟩ ?_
  have t0z2 := shI_s (dt a.toNat) (12 * n)
  have t1z2 := shI_bd (dt a.toNat) (12 * n)
  refine lv_istore_n (lv' := [(3, .int (iI (shI (dt a.toNat) (12 * n)))), (0, .ref (u 0)), (1, .int (iI a)), (2, .int (iI n))]) hx hb dX1_shiftYears_27 rfl hl (by decide) rfl (fun ls hl => ?_)
  refine lv_iload_n hx hb dX1_shiftYears_28 rfl (lv_at hl 0 rfl) ?_
  exact e_cT (As := [.int (iI (shI (dt a.toNat) (12 * n)))]) (rest := []) fx hl (nno_needDate θ l hl0 S0 _ hz (shI (dt a.toNat) (12 * n)) (by omega) (by omega)) dX1_shiftYears_29 k784 k785 k1 k786 hd_X1_needDate rfl ⟨by decide, by decide⟩ (Nat.le_of_ble_eq_true rfl) ⟨by decide, by decide⟩ ⟨by decide, by decide⟩ hS (fun _ h => h) hxt hlk (fun H1 h1 h2 => ⟨rfl, h1, h2⟩)

set_option maxHeartbeats 4000000 in
set_option maxRecDepth 100000 in
theorem ok_days (θ : TH) (l : Launch) (hl0 : l.stackTraces = false) (S0 : State) (H : Heap) (u : Nat → Nat) (dt sy sm sd : Nat → Int) (bc rf kn : Int) (hw : CWR θ S0 u H dt sy sm sd bc rf kn) (a n : Int) (h_0 : -2147483648 ≤ a ∧ a < 2147483648) (h_1 : -2147483648 ≤ n ∧ n < 2147483648) (h_2 : 0 ≤ a ∧ a < 6) (h_3 : -8000000 ≤ n ∧ n ≤ 8000000) (h_4 : -4371587 ≤ (dt a.toNat + n) ∧ (dt a.toNat + n) ≤ 2932896) : CT l yX1_days cX1_days 4 (some .int) 1 22 0 0 [.ref (u 0), .int (iI a), .int (iI n)] S0 H (fun v9 H1 => v9 = some (.int (iI (dt a.toNat + n))) ∧ CW θ u H1 (up dt a.toNat (dt a.toNat + n)) sy sm sd (bc + 1) rf kn) (fun _ _ => False) (UA u H.size) := by
  refine ct_of (by decide +kernel) (Nat.le_of_ble_eq_true rfl) ?_
  intro pg en s mi args below meth co ls fx hs hr hlk hxt hin hl
  subst hs
  obtain ⟨hx, hb, hml, hown, hts⟩ := id fx.1
  have hS : va_S (UA u s.heap.size) s.heap s.heap [] := va_S.rf
  obtain ⟨hz, hu, ⟨ho, ha1, ha2, ha3, ha4, hsb⟩, hd, hsp⟩ := id hw
  have hAB := ua_b hu hz.2.1
  have hz0 := hz
  have hK := sz_K fx.2 hz
  refine lv_iload_n hx hb dX1_days_0 rfl (lv_at hl 1 rfl) ?_
  refine c_N (As := [.int (iI a)]) (rest := []) fx hl (nok_needPlace l S0 _ a (by omega) (by omega)) dX1_days_1 k260 k261 k1 k262 hd_X1_needPlace rfl ⟨by decide, by decide⟩ (Nat.le_of_ble_eq_true rfl) ⟨by dsimp only; omega, by dsimp only; omega⟩ ?_
  refine lv_iload_n hx hb dX1_days_4 rfl (lv_at hl 2 rfl) ?_
  refine q_ldc (n := -8000000) hx hb hown (hts _ k802) (by decide) dX1_days_5 ?_
  refine q_ldc (n := 8000000) hx hb hown (hts _ k803) (by decide) dX1_days_7 ?_
  refine c_N (As := [.int (iI n), .int (iI (-8000000)), .int (iI 8000000)]) (rest := []) fx hl (nok_needWithin l S0 _ n (-8000000) 8000000 (by omega) (by omega) (by omega) (by omega)) dX1_days_9 k172 k173 k1 k174 hd_X1_needWithin rfl ⟨by decide, by decide⟩ (Nat.le_of_ble_eq_true rfl) ⟨by dsimp only; omega, by dsimp only; omega⟩ ?_
  refine lv_aload_n hx hb dX1_days_12 rfl (lv_at hl 0 rfl) ?_
  refine r_get (θ := θ) (C := RX1) (T := TX1) (N := 8) (ci := 7) hx hb hts gwX1 hown hK ho rfl 0 (by decide) k73 (fun _ h => h) (v := .ref (u 1)) rfl dX1_days_13 ?_
  refine lv_iload_n hx hb dX1_days_16 rfl (lv_at hl 1 rfl) ?_
  refine r_iald (θ := θ) hx hb hK ha1 (i := a) (by omega) (by decide) dX1_days_17 ?_
  have tr1 := hd (a.toNat) (by omega)
  refine lv_iload_n hx hb dX1_days_18 rfl (lv_at hl 2 rfl) ?_
  refine q_add hx hb dX1_days_19 ?_
  refine q_nm (fun z2 ez2 => ?_)
  refine lv_istore_n (lv' := [(3, .int (iI z2)), (0, .ref (u 0)), (1, .int (iI a)), (2, .int (iI n))]) hx hb dX1_days_20 rfl hl (by decide) rfl (fun ls hl => ?_)
  refine lv_iload_n hx hb dX1_days_21 rfl (lv_at hl 0 rfl) ?_
  refine c_N (As := [.int (iI z2)]) (rest := []) fx hl (nok_needDate l S0 _ z2 (by omega) (by omega)) dX1_days_22 k784 k785 k1 k786 hd_X1_needDate rfl ⟨by decide, by decide⟩ (Nat.le_of_ble_eq_true rfl) ⟨by dsimp only; omega, by dsimp only; omega⟩ ?_
  refine lv_aload_n hx hb dX1_days_25 rfl (lv_at hl 1 rfl) ?_
  refine lv_iload_n hx hb dX1_days_26 rfl (lv_at hl 2 rfl) ?_
  refine lv_iload_n hx hb dX1_days_27 rfl (lv_at hl 0 rfl) ?_
  have hcw := hw
  refine c_W (As := [.int (iI a), .int (iI z2)]) (rest := []) (b := u 0) (C := RX1) fx hl (ok_put θ l hl0 S0 _ u _ _ _ _ _ _ _ hcw a z2 (by omega) (by omega) (by omega)) (ob_recv hK ho rfl) dX1_days_28 k723 k725 ks7 k1 k726 hd_X1_put rfl ⟨by decide, by decide⟩ (Nat.le_of_ble_eq_true rfl) ⟨by dsimp only; omega, by dsimp only; omega⟩ hS (fun q h => h.elim Or.inl (fun h => Or.inr (Nat.le_trans hS.1 h))) (fun H3 locs hwH3 hszH3 hkH3 hS => ?_)
  obtain ⟨hoH3, ha1H3, ha2H3, ha3H3, ha4H3, hsbH3⟩ := hwH3
  have hzH3 := hz0.at hAB hS
  first | exact e_i hx hb hr hlk hS dX1_days_31 (Nat.le_refl _) (Nat.le_refl _) ⟨ex_i (by subst_vars; omega), by first | exact ⟨hoH3, ha1H3, ha2H3, ha3H3, ha4H3, hsbH3⟩ | (subst_vars; exact ⟨hoH3, ha1H3, ha2H3, ha3H3, ha4H3, hsbH3⟩)⟩ | exact (show False by omega).elim

set_option maxHeartbeats 4000000 in
set_option maxRecDepth 100000 in
theorem no1_days (θ : TH) (l : Launch) (hl0 : l.stackTraces = false) (S0 : State) (H : Heap) (u : Nat → Nat) (dt sy sm sd : Nat → Int) (bc rf kn : Int) (hw : CWR θ S0 u H dt sy sm sd bc rf kn) (a n : Int) (h_0 : -2147483648 ≤ a ∧ a < 2147483648) (h_1 : -2147483648 ≤ n ∧ n < 2147483648) (h_2 : ¬ (0 ≤ a ∧ a < 6)) : TX l yX1_days cX1_days 4 (some .int) 7 110 [.ref (u 0), .int (iI a), .int (iI n)] S0 H "java/lang/IndexOutOfBoundsException" := by
  refine ct_of (by decide +kernel) (Nat.le_of_ble_eq_true rfl) ?_
  intro pg en s mi args below meth co ls fx hs hr hlk hxt hin hl
  subst hs
  obtain ⟨hx, hb, hml, hown, hts⟩ := id fx.1
  have hS : va_S (fun q : Nat => s.heap.size ≤ q) s.heap s.heap [] := va_S.rf
  obtain ⟨hz, hu, ⟨ho, ha1, ha2, ha3, ha4, hsb⟩, hd, hsp⟩ := id hw
  have hAB : ∀ q : Nat, (fun q : Nat => s.heap.size ≤ q) q → θ.2.2.2 ≤ q := fun q h => Nat.le_trans hz.2.1 h
  have hz0 := hz
  have hK := sz_K fx.2 hz
  refine lv_iload_n hx hb dX1_days_0 rfl (lv_at hl 1 rfl) ?_
  exact e_cT (As := [.int (iI a)]) (rest := []) fx hl (nno_needPlace θ l hl0 S0 _ hz a (by omega) (by omega)) dX1_days_1 k260 k261 k1 k262 hd_X1_needPlace rfl ⟨by decide, by decide⟩ (Nat.le_of_ble_eq_true rfl) ⟨by decide, by decide⟩ ⟨by decide, by decide⟩ hS (fun _ h => h) hxt hlk (fun H1 h1 h2 => ⟨rfl, h1, h2⟩)

set_option maxHeartbeats 4000000 in
set_option maxRecDepth 100000 in
theorem no2_days (θ : TH) (l : Launch) (hl0 : l.stackTraces = false) (S0 : State) (H : Heap) (u : Nat → Nat) (dt sy sm sd : Nat → Int) (bc rf kn : Int) (hw : CWR θ S0 u H dt sy sm sd bc rf kn) (a n : Int) (h_0 : -2147483648 ≤ a ∧ a < 2147483648) (h_1 : -2147483648 ≤ n ∧ n < 2147483648) (h_2 : 0 ≤ a ∧ a < 6) (h_3 : ¬ (-8000000 ≤ n ∧ n ≤ 8000000)) : TX l yX1_days cX1_days 4 (some .int) 7 112 [.ref (u 0), .int (iI a), .int (iI n)] S0 H "java/lang/IllegalArgumentException" := by
  refine ct_of (by decide +kernel) (Nat.le_of_ble_eq_true rfl) ?_
  intro pg en s mi args below meth co ls fx hs hr hlk hxt hin hl
  subst hs
  obtain ⟨hx, hb, hml, hown, hts⟩ := id fx.1
  have hS : va_S (fun q : Nat => s.heap.size ≤ q) s.heap s.heap [] := va_S.rf
  obtain ⟨hz, hu, ⟨ho, ha1, ha2, ha3, ha4, hsb⟩, hd, hsp⟩ := id hw
  have hAB : ∀ q : Nat, (fun q : Nat => s.heap.size ≤ q) q → θ.2.2.2 ≤ q := fun q h => Nat.le_trans hz.2.1 h
  have hz0 := hz
  have hK := sz_K fx.2 hz
  refine lv_iload_n hx hb dX1_days_0 rfl (lv_at hl 1 rfl) ?_
  refine c_N (As := [.int (iI a)]) (rest := []) fx hl (nok_needPlace l S0 _ a (by omega) (by omega)) dX1_days_1 k260 k261 k1 k262 hd_X1_needPlace rfl ⟨by decide, by decide⟩ (Nat.le_of_ble_eq_true rfl) ⟨by dsimp only; omega, by dsimp only; omega⟩ ?_
  refine lv_iload_n hx hb dX1_days_4 rfl (lv_at hl 2 rfl) ?_
  refine q_ldc (n := -8000000) hx hb hown (hts _ k802) (by decide) dX1_days_5 ?_
  refine q_ldc (n := 8000000) hx hb hown (hts _ k803) (by decide) dX1_days_7 ?_
  exact e_cT (As := [.int (iI n), .int (iI (-8000000)), .int (iI 8000000)]) (rest := []) fx hl (nno_needWithin θ l hl0 S0 _ hz n (-8000000) 8000000 (by omega) (by omega) (by omega) (by omega)) dX1_days_9 k172 k173 k1 k174 hd_X1_needWithin rfl ⟨by decide, by decide⟩ (Nat.le_of_ble_eq_true rfl) ⟨by decide, by decide⟩ ⟨by decide, by decide⟩ hS (fun _ h => h) hxt hlk (fun H1 h1 h2 => ⟨rfl, h1, h2⟩)

set_option maxHeartbeats 4000000 in
set_option maxRecDepth 100000 in
theorem no3_days (θ : TH) (l : Launch) (hl0 : l.stackTraces = false) (S0 : State) (H : Heap) (u : Nat → Nat) (dt sy sm sd : Nat → Int) (bc rf kn : Int) (hw : CWR θ S0 u H dt sy sm sd bc rf kn) (a n : Int) (h_0 : -2147483648 ≤ a ∧ a < 2147483648) (h_1 : -2147483648 ≤ n ∧ n < 2147483648) (h_2 : 0 ≤ a ∧ a < 6) (h_3 : -8000000 ≤ n ∧ n ≤ 8000000) (h_4 : ¬ (-4371587 ≤ (dt a.toNat + n) ∧ (dt a.toNat + n) ≤ 2932896)) : TX l yX1_days cX1_days 4 (some .int) 7 110 [.ref (u 0), .int (iI a), .int (iI n)] S0 H "java/lang/IllegalStateException" := by
  refine ct_of (by decide +kernel) (Nat.le_of_ble_eq_true rfl) ?_
  intro pg en s mi args below meth co ls fx hs hr hlk hxt hin hl
  subst hs
  obtain ⟨hx, hb, hml, hown, hts⟩ := id fx.1
  have hS : va_S (fun q : Nat => s.heap.size ≤ q) s.heap s.heap [] := va_S.rf
  obtain ⟨hz, hu, ⟨ho, ha1, ha2, ha3, ha4, hsb⟩, hd, hsp⟩ := id hw
  have hAB : ∀ q : Nat, (fun q : Nat => s.heap.size ≤ q) q → θ.2.2.2 ≤ q := fun q h => Nat.le_trans hz.2.1 h
  have hz0 := hz
  have hK := sz_K fx.2 hz
  refine lv_iload_n hx hb dX1_days_0 rfl (lv_at hl 1 rfl) ?_
  refine c_N (As := [.int (iI a)]) (rest := []) fx hl (nok_needPlace l S0 _ a (by omega) (by omega)) dX1_days_1 k260 k261 k1 k262 hd_X1_needPlace rfl ⟨by decide, by decide⟩ (Nat.le_of_ble_eq_true rfl) ⟨by dsimp only; omega, by dsimp only; omega⟩ ?_
  refine lv_iload_n hx hb dX1_days_4 rfl (lv_at hl 2 rfl) ?_
  refine q_ldc (n := -8000000) hx hb hown (hts _ k802) (by decide) dX1_days_5 ?_
  refine q_ldc (n := 8000000) hx hb hown (hts _ k803) (by decide) dX1_days_7 ?_
  refine c_N (As := [.int (iI n), .int (iI (-8000000)), .int (iI 8000000)]) (rest := []) fx hl (nok_needWithin l S0 _ n (-8000000) 8000000 (by omega) (by omega) (by omega) (by omega)) dX1_days_9 k172 k173 k1 k174 hd_X1_needWithin rfl ⟨by decide, by decide⟩ (Nat.le_of_ble_eq_true rfl) ⟨by dsimp only; omega, by dsimp only; omega⟩ ?_
  refine lv_aload_n hx hb dX1_days_12 rfl (lv_at hl 0 rfl) ?_
  refine r_get (θ := θ) (C := RX1) (T := TX1) (N := 8) (ci := 7) hx hb hts gwX1 hown hK ho rfl 0 (by decide) k73 (fun _ h => h) (v := .ref (u 1)) rfl dX1_days_13 ?_
  refine lv_iload_n hx hb dX1_days_16 rfl (lv_at hl 1 rfl) ?_
  refine r_iald (θ := θ) hx hb hK ha1 (i := a) (by omega) (by decide) dX1_days_17 ?_
  have tr1 := hd (a.toNat) (by omega)
  refine lv_iload_n hx hb dX1_days_18 rfl (lv_at hl 2 rfl) ?_
  refine q_add hx hb dX1_days_19 ?_
  refine q_nm (fun z2 ez2 => ?_)
  refine lv_istore_n (lv' := [(3, .int (iI z2)), (0, .ref (u 0)), (1, .int (iI a)), (2, .int (iI n))]) hx hb dX1_days_20 rfl hl (by decide) rfl (fun ls hl => ?_)
  refine lv_iload_n hx hb dX1_days_21 rfl (lv_at hl 0 rfl) ?_
  exact e_cT (As := [.int (iI z2)]) (rest := []) fx hl (nno_needDate θ l hl0 S0 _ hz z2 (by omega) (by omega)) dX1_days_22 k784 k785 k1 k786 hd_X1_needDate rfl ⟨by decide, by decide⟩ (Nat.le_of_ble_eq_true rfl) ⟨by decide, by decide⟩ ⟨by decide, by decide⟩ hS (fun _ h => h) hxt hlk (fun H1 h1 h2 => ⟨rfl, h1, h2⟩)

set_option maxHeartbeats 4000000 in
set_option maxRecDepth 100000 in
theorem ok_cycles (θ : TH) (l : Launch) (hl0 : l.stackTraces = false) (S0 : State) (H : Heap) (u : Nat → Nat) (dt sy sm sd : Nat → Int) (bc rf kn : Int) (hw : CWR θ S0 u H dt sy sm sd bc rf kn) (a n : Int) (h_0 : -2147483648 ≤ a ∧ a < 2147483648) (h_1 : -2147483648 ≤ n ∧ n < 2147483648) (h_2 : 0 ≤ a ∧ a < 6) (h_3 : -60 ≤ n ∧ n ≤ 60) (h_4 : -4371587 ≤ shI (dt a.toNat) (4800 * n) ∧ shI (dt a.toNat) (4800 * n) ≤ 2932896) : CT l yX1_cycles cX1_cycles 4 (some .int) 4 92 0 0 [.ref (u 0), .int (iI a), .int (iI n)] S0 H (fun v9 H1 => v9 = some (.int (iI (shI (dt a.toNat) (4800 * n)))) ∧ CW θ u H1 (up dt a.toNat (shI (dt a.toNat) (4800 * n))) sy sm sd (bc + 1) rf kn) (fun _ _ => False) (UA u H.size) := by
  refine ct_of (by decide +kernel) (Nat.le_of_ble_eq_true rfl) ?_
  intro pg en s mi args below meth co ls fx hs hr hlk hxt hin hl
  subst hs
  obtain ⟨hx, hb, hml, hown, hts⟩ := id fx.1
  have hS : va_S (UA u s.heap.size) s.heap s.heap [] := va_S.rf
  obtain ⟨hz, hu, ⟨ho, ha1, ha2, ha3, ha4, hsb⟩, hd, hsp⟩ := id hw
  have hAB := ua_b hu hz.2.1
  have hz0 := hz
  have hK := sz_K fx.2 hz
  refine lv_iload_n hx hb dX1_cycles_0 rfl (lv_at hl 1 rfl) ?_
  refine c_N (As := [.int (iI a)]) (rest := []) fx hl (nok_needPlace l S0 _ a (by omega) (by omega)) dX1_cycles_1 k260 k261 k1 k262 hd_X1_needPlace rfl ⟨by decide, by decide⟩ (Nat.le_of_ble_eq_true rfl) ⟨by dsimp only; omega, by dsimp only; omega⟩ ?_
  refine lv_iload_n hx hb dX1_cycles_4 rfl (lv_at hl 2 rfl) ?_
  refine q_bip hx hb dX1_cycles_5 (by decide) ?_
  refine q_bip hx hb dX1_cycles_7 (by decide) ?_
  refine c_N (As := [.int (iI n), .int (iI (-60)), .int (iI 60)]) (rest := []) fx hl (nok_needWithin l S0 _ n (-60) 60 (by omega) (by omega) (by omega) (by omega)) dX1_cycles_9 k172 k173 k1 k174 hd_X1_needWithin rfl ⟨by decide, by decide⟩ (Nat.le_of_ble_eq_true rfl) ⟨by dsimp only; omega, by dsimp only; omega⟩ ?_
  refine lv_aload_n hx hb dX1_cycles_12 rfl (lv_at hl 0 rfl) ?_
  refine r_get (θ := θ) (C := RX1) (T := TX1) (N := 8) (ci := 7) hx hb hts gwX1 hown hK ho rfl 0 (by decide) k73 (fun _ h => h) (v := .ref (u 1)) rfl dX1_cycles_13 ?_
  refine lv_iload_n hx hb dX1_cycles_16 rfl (lv_at hl 1 rfl) ?_
  refine r_iald (θ := θ) hx hb hK ha1 (i := a) (by omega) (by decide) dX1_cycles_17 ?_
  have tr1 := hd (a.toNat) (by omega)
  refine q_sip hx hb dX1_cycles_18 (by decide) ?_
  refine lv_iload_n hx hb dX1_cycles_21 rfl (lv_at hl 2 rfl) ?_
  refine q_mul hx hb dX1_cycles_22 ?_
  refine c_P (As := [.int (iI (dt a.toNat)), .int (iI (4800 * n))]) (rest := []) fx hl (pm_X0_shifted l (dt a.toNat) (4800 * n) (by omega) (by omega)) dX1_cycles_23 k783 k141 k13 k142 hd_X0_shifted rfl ⟨by decide, by decide⟩ (Nat.le_of_ble_eq_true rfl) ⟨by omega, by omega⟩ ?_
  have t0z2 := shI_s (dt a.toNat) (4800 * n)
  have t1z2 := shI_bd (dt a.toNat) (4800 * n)
  refine lv_istore_n (lv' := [(3, .int (iI (shI (dt a.toNat) (4800 * n)))), (0, .ref (u 0)), (1, .int (iI a)), (2, .int (iI n))]) hx hb dX1_cycles_26 rfl hl (by decide) rfl (fun ls hl => ?_)
  refine lv_iload_n hx hb dX1_cycles_27 rfl (lv_at hl 0 rfl) ?_
  refine c_N (As := [.int (iI (shI (dt a.toNat) (4800 * n)))]) (rest := []) fx hl (nok_needDate l S0 _ (shI (dt a.toNat) (4800 * n)) (by omega) (by omega)) dX1_cycles_28 k784 k785 k1 k786 hd_X1_needDate rfl ⟨by decide, by decide⟩ (Nat.le_of_ble_eq_true rfl) ⟨by dsimp only; omega, by dsimp only; omega⟩ ?_
  refine lv_aload_n hx hb dX1_cycles_31 rfl (lv_at hl 1 rfl) ?_
  refine lv_iload_n hx hb dX1_cycles_32 rfl (lv_at hl 2 rfl) ?_
  refine lv_iload_n hx hb dX1_cycles_33 rfl (lv_at hl 0 rfl) ?_
  have hcw := hw
  refine c_W (As := [.int (iI a), .int (iI (shI (dt a.toNat) (4800 * n)))]) (rest := []) (b := u 0) (C := RX1) fx hl (ok_put θ l hl0 S0 _ u _ _ _ _ _ _ _ hcw a (shI (dt a.toNat) (4800 * n)) (by omega) (by omega) (by omega)) (ob_recv hK ho rfl) dX1_cycles_34 k723 k725 ks7 k1 k726 hd_X1_put rfl ⟨by decide, by decide⟩ (Nat.le_of_ble_eq_true rfl) ⟨by dsimp only; omega, by dsimp only; omega⟩ hS (fun q h => h.elim Or.inl (fun h => Or.inr (Nat.le_trans hS.1 h))) (fun H3 locs hwH3 hszH3 hkH3 hS => ?_)
  obtain ⟨hoH3, ha1H3, ha2H3, ha3H3, ha4H3, hsbH3⟩ := hwH3
  have hzH3 := hz0.at hAB hS
  first | exact e_i hx hb hr hlk hS dX1_cycles_37 (Nat.le_refl _) (Nat.le_refl _) ⟨ex_i (by omega), by first | exact ⟨hoH3, ha1H3, ha2H3, ha3H3, ha4H3, hsbH3⟩ | (subst_vars; exact ⟨hoH3, ha1H3, ha2H3, ha3H3, ha4H3, hsbH3⟩)⟩ | exact (show False by omega).elim

set_option maxHeartbeats 4000000 in
set_option maxRecDepth 100000 in
theorem no1_cycles (θ : TH) (l : Launch) (hl0 : l.stackTraces = false) (S0 : State) (H : Heap) (u : Nat → Nat) (dt sy sm sd : Nat → Int) (bc rf kn : Int) (hw : CWR θ S0 u H dt sy sm sd bc rf kn) (a n : Int) (h_0 : -2147483648 ≤ a ∧ a < 2147483648) (h_1 : -2147483648 ≤ n ∧ n < 2147483648) (h_2 : ¬ (0 ≤ a ∧ a < 6)) : TX l yX1_cycles cX1_cycles 4 (some .int) 7 110 [.ref (u 0), .int (iI a), .int (iI n)] S0 H "java/lang/IndexOutOfBoundsException" := by
  refine ct_of (by decide +kernel) (Nat.le_of_ble_eq_true rfl) ?_
  intro pg en s mi args below meth co ls fx hs hr hlk hxt hin hl
  subst hs
  obtain ⟨hx, hb, hml, hown, hts⟩ := id fx.1
  have hS : va_S (fun q : Nat => s.heap.size ≤ q) s.heap s.heap [] := va_S.rf
  obtain ⟨hz, hu, ⟨ho, ha1, ha2, ha3, ha4, hsb⟩, hd, hsp⟩ := id hw
  have hAB : ∀ q : Nat, (fun q : Nat => s.heap.size ≤ q) q → θ.2.2.2 ≤ q := fun q h => Nat.le_trans hz.2.1 h
  have hz0 := hz
  have hK := sz_K fx.2 hz
  refine lv_iload_n hx hb dX1_cycles_0 rfl (lv_at hl 1 rfl) ?_
  exact e_cT (As := [.int (iI a)]) (rest := []) fx hl (nno_needPlace θ l hl0 S0 _ hz a (by omega) (by omega)) dX1_cycles_1 k260 k261 k1 k262 hd_X1_needPlace rfl ⟨by decide, by decide⟩ (Nat.le_of_ble_eq_true rfl) ⟨by decide, by decide⟩ ⟨by decide, by decide⟩ hS (fun _ h => h) hxt hlk (fun H1 h1 h2 => ⟨rfl, h1, h2⟩)

set_option maxHeartbeats 4000000 in
set_option maxRecDepth 100000 in
theorem no2_cycles (θ : TH) (l : Launch) (hl0 : l.stackTraces = false) (S0 : State) (H : Heap) (u : Nat → Nat) (dt sy sm sd : Nat → Int) (bc rf kn : Int) (hw : CWR θ S0 u H dt sy sm sd bc rf kn) (a n : Int) (h_0 : -2147483648 ≤ a ∧ a < 2147483648) (h_1 : -2147483648 ≤ n ∧ n < 2147483648) (h_2 : 0 ≤ a ∧ a < 6) (h_3 : ¬ (-60 ≤ n ∧ n ≤ 60)) : TX l yX1_cycles cX1_cycles 4 (some .int) 7 112 [.ref (u 0), .int (iI a), .int (iI n)] S0 H "java/lang/IllegalArgumentException" := by
  refine ct_of (by decide +kernel) (Nat.le_of_ble_eq_true rfl) ?_
  intro pg en s mi args below meth co ls fx hs hr hlk hxt hin hl
  subst hs
  obtain ⟨hx, hb, hml, hown, hts⟩ := id fx.1
  have hS : va_S (fun q : Nat => s.heap.size ≤ q) s.heap s.heap [] := va_S.rf
  obtain ⟨hz, hu, ⟨ho, ha1, ha2, ha3, ha4, hsb⟩, hd, hsp⟩ := id hw
  have hAB : ∀ q : Nat, (fun q : Nat => s.heap.size ≤ q) q → θ.2.2.2 ≤ q := fun q h => Nat.le_trans hz.2.1 h
  have hz0 := hz
  have hK := sz_K fx.2 hz
  refine lv_iload_n hx hb dX1_cycles_0 rfl (lv_at hl 1 rfl) ?_
  refine c_N (As := [.int (iI a)]) (rest := []) fx hl (nok_needPlace l S0 _ a (by omega) (by omega)) dX1_cycles_1 k260 k261 k1 k262 hd_X1_needPlace rfl ⟨by decide, by decide⟩ (Nat.le_of_ble_eq_true rfl) ⟨by dsimp only; omega, by dsimp only; omega⟩ ?_
  refine lv_iload_n hx hb dX1_cycles_4 rfl (lv_at hl 2 rfl) ?_
  refine q_bip hx hb dX1_cycles_5 (by decide) ?_
  refine q_bip hx hb dX1_cycles_7 (by decide) ?_
  exact e_cT (As := [.int (iI n), .int (iI (-60)), .int (iI 60)]) (rest := []) fx hl (nno_needWithin θ l hl0 S0 _ hz n (-60) 60 (by omega) (by omega) (by omega) (by omega)) dX1_cycles_9 k172 k173 k1 k174 hd_X1_needWithin rfl ⟨by decide, by decide⟩ (Nat.le_of_ble_eq_true rfl) ⟨by decide, by decide⟩ ⟨by decide, by decide⟩ hS (fun _ h => h) hxt hlk (fun H1 h1 h2 => ⟨rfl, h1, h2⟩)

set_option maxHeartbeats 4000000 in
set_option maxRecDepth 100000 in
theorem no3_cycles (θ : TH) (l : Launch) (hl0 : l.stackTraces = false) (S0 : State) (H : Heap) (u : Nat → Nat) (dt sy sm sd : Nat → Int) (bc rf kn : Int) (hw : CWR θ S0 u H dt sy sm sd bc rf kn) (a n : Int) (h_0 : -2147483648 ≤ a ∧ a < 2147483648) (h_1 : -2147483648 ≤ n ∧ n < 2147483648) (h_2 : 0 ≤ a ∧ a < 6) (h_3 : -60 ≤ n ∧ n ≤ 60) (h_4 : ¬ (-4371587 ≤ shI (dt a.toNat) (4800 * n) ∧ shI (dt a.toNat) (4800 * n) ≤ 2932896)) : TX l yX1_cycles cX1_cycles 4 (some .int) 7 110 [.ref (u 0), .int (iI a), .int (iI n)] S0 H "java/lang/IllegalStateException" := by
  refine ct_of (by decide +kernel) (Nat.le_of_ble_eq_true rfl) ?_
  intro pg en s mi args below meth co ls fx hs hr hlk hxt hin hl
  subst hs
  obtain ⟨hx, hb, hml, hown, hts⟩ := id fx.1
  have hS : va_S (fun q : Nat => s.heap.size ≤ q) s.heap s.heap [] := va_S.rf
  obtain ⟨hz, hu, ⟨ho, ha1, ha2, ha3, ha4, hsb⟩, hd, hsp⟩ := id hw
  have hAB : ∀ q : Nat, (fun q : Nat => s.heap.size ≤ q) q → θ.2.2.2 ≤ q := fun q h => Nat.le_trans hz.2.1 h
  have hz0 := hz
  have hK := sz_K fx.2 hz
  refine lv_iload_n hx hb dX1_cycles_0 rfl (lv_at hl 1 rfl) ?_
  refine c_N (As := [.int (iI a)]) (rest := []) fx hl (nok_needPlace l S0 _ a (by omega) (by omega)) dX1_cycles_1 k260 k261 k1 k262 hd_X1_needPlace rfl ⟨by decide, by decide⟩ (Nat.le_of_ble_eq_true rfl) ⟨by dsimp only; omega, by dsimp only; omega⟩ ?_
  refine lv_iload_n hx hb dX1_cycles_4 rfl (lv_at hl 2 rfl) ?_
  refine q_bip hx hb dX1_cycles_5 (by decide) ?_
  refine q_bip hx hb dX1_cycles_7 (by decide) ?_
  refine c_N (As := [.int (iI n), .int (iI (-60)), .int (iI 60)]) (rest := []) fx hl (nok_needWithin l S0 _ n (-60) 60 (by omega) (by omega) (by omega) (by omega)) dX1_cycles_9 k172 k173 k1 k174 hd_X1_needWithin rfl ⟨by decide, by decide⟩ (Nat.le_of_ble_eq_true rfl) ⟨by dsimp only; omega, by dsimp only; omega⟩ ?_
  refine lv_aload_n hx hb dX1_cycles_12 rfl (lv_at hl 0 rfl) ?_
  refine r_get (θ := θ) (C := RX1) (T := TX1) (N := 8) (ci := 7) hx hb hts gwX1 hown hK ho rfl 0 (by decide) k73 (fun _ h => h) (v := .ref (u 1)) rfl dX1_cycles_13 ?_
  refine lv_iload_n hx hb dX1_cycles_16 rfl (lv_at hl 1 rfl) ?_
  refine r_iald (θ := θ) hx hb hK ha1 (i := a) (by omega) (by decide) dX1_cycles_17 ?_
  have tr1 := hd (a.toNat) (by omega)
  refine q_sip hx hb dX1_cycles_18 (by decide) ?_
  refine lv_iload_n hx hb dX1_cycles_21 rfl (lv_at hl 2 rfl) ?_
  refine q_mul hx hb dX1_cycles_22 ?_
  refine c_P (As := [.int (iI (dt a.toNat)), .int (iI (4800 * n))]) (rest := []) fx hl (pm_X0_shifted l (dt a.toNat) (4800 * n) (by omega) (by omega)) dX1_cycles_23 k783 k141 k13 k142 hd_X0_shifted rfl ⟨by decide, by decide⟩ (Nat.le_of_ble_eq_true rfl) ⟨by omega, by omega⟩ ?_
  have t0z2 := shI_s (dt a.toNat) (4800 * n)
  have t1z2 := shI_bd (dt a.toNat) (4800 * n)
  refine lv_istore_n (lv' := [(3, .int (iI (shI (dt a.toNat) (4800 * n)))), (0, .ref (u 0)), (1, .int (iI a)), (2, .int (iI n))]) hx hb dX1_cycles_26 rfl hl (by decide) rfl (fun ls hl => ?_)
  refine lv_iload_n hx hb dX1_cycles_27 rfl (lv_at hl 0 rfl) ?_
  exact e_cT (As := [.int (iI (shI (dt a.toNat) (4800 * n)))]) (rest := []) fx hl (nno_needDate θ l hl0 S0 _ hz (shI (dt a.toNat) (4800 * n)) (by omega) (by omega)) dX1_cycles_28 k784 k785 k1 k786 hd_X1_needDate rfl ⟨by decide, by decide⟩ (Nat.le_of_ble_eq_true rfl) ⟨by decide, by decide⟩ ⟨by decide, by decide⟩ hS (fun _ h => h) hxt hlk (fun H1 h1 h2 => ⟨rfl, h1, h2⟩)

set_option maxHeartbeats 4000000 in
set_option maxRecDepth 100000 in
theorem ok_span (θ : TH) (l : Launch) (hl0 : l.stackTraces = false) (S0 : State) (H : Heap) (u : Nat → Nat) (dt sy sm sd : Nat → Int) (bc rf kn : Int) (hw : CWR θ S0 u H dt sy sm sd bc rf kn) (a x y z : Int) (h_0 : -2147483648 ≤ a ∧ a < 2147483648) (h_1 : -2147483648 ≤ x ∧ x < 2147483648) (h_2 : -2147483648 ≤ y ∧ y < 2147483648) (h_3 : -2147483648 ≤ z ∧ z < 2147483648) (h_4 : 0 ≤ a ∧ a < 3) (h_5 : -20000 ≤ x ∧ x ≤ 20000) (h_6 : -240000 ≤ y ∧ y ≤ 240000) (h_7 : -100000 ≤ z ∧ z ≤ 100000) : CT l yX1_span cX1_span 5 (some .int) 2 42 0 0 [.ref (u 0), .int (iI a), .int (iI x), .int (iI y), .int (iI z)] S0 H (fun v9 H1 => v9 = some (.int (iI (12 * x + y))) ∧ CW θ u H1 dt (up sy a.toNat (x)) (up sm a.toNat (y)) (up sd a.toNat (z)) (bc + 1) rf kn) (fun _ _ => False) (UA u H.size) := by
  refine ct_of (by decide +kernel) (Nat.le_of_ble_eq_true rfl) ?_
  intro pg en s mi args below meth co ls fx hs hr hlk hxt hin hl
  subst hs
  obtain ⟨hx, hb, hml, hown, hts⟩ := id fx.1
  have hS : va_S (UA u s.heap.size) s.heap s.heap [] := va_S.rf
  obtain ⟨hz, hu, ⟨ho, ha1, ha2, ha3, ha4, hsb⟩, hd, hsp⟩ := id hw
  have hAB := ua_b hu hz.2.1
  have hz0 := hz
  have hK := sz_K fx.2 hz
  refine lv_iload_n hx hb dX1_span_0 rfl (lv_at hl 1 rfl) ?_
  refine c_N (As := [.int (iI a)]) (rest := []) fx hl (nok_needSpan l S0 _ a (by omega) (by omega)) dX1_span_1 k671 k672 k1 k673 hd_X1_needSpan rfl ⟨by decide, by decide⟩ (Nat.le_of_ble_eq_true rfl) ⟨by dsimp only; omega, by dsimp only; omega⟩ ?_
  refine lv_iload_n hx hb dX1_span_4 rfl (lv_at hl 2 rfl) ?_
  refine q_sip hx hb dX1_span_5 (by decide) ?_
  refine q_sip hx hb dX1_span_8 (by decide) ?_
  refine c_N (As := [.int (iI x), .int (iI (-20000)), .int (iI 20000)]) (rest := []) fx hl (nok_needWithin l S0 _ x (-20000) 20000 (by omega) (by omega) (by omega) (by omega)) dX1_span_11 k172 k173 k1 k174 hd_X1_needWithin rfl ⟨by decide, by decide⟩ (Nat.le_of_ble_eq_true rfl) ⟨by dsimp only; omega, by dsimp only; omega⟩ ?_
  refine lv_iload_n hx hb dX1_span_14 rfl (lv_at hl 3 rfl) ?_
  refine c_N (As := [.int (iI y)]) (rest := []) fx hl (nok_needMonths l S0 _ y (by omega) (by omega)) dX1_span_15 k640 k641 k1 k642 hd_X1_needMonths rfl ⟨by decide, by decide⟩ (Nat.le_of_ble_eq_true rfl) ⟨by dsimp only; omega, by dsimp only; omega⟩ ?_
  refine lv_iload hx hb dX1_span_18 (lv_at hl 4 rfl) ?_
  refine q_ldc (n := -100000) hx hb hown (hts _ k652) (by decide) dX1_span_20 ?_
  refine q_ldc (n := 100000) hx hb hown (hts _ k653) (by decide) dX1_span_22 ?_
  refine c_N (As := [.int (iI z), .int (iI (-100000)), .int (iI 100000)]) (rest := []) fx hl (nok_needWithin l S0 _ z (-100000) 100000 (by omega) (by omega) (by omega) (by omega)) dX1_span_24 k172 k173 k1 k174 hd_X1_needWithin rfl ⟨by decide, by decide⟩ (Nat.le_of_ble_eq_true rfl) ⟨by dsimp only; omega, by dsimp only; omega⟩ ?_
  refine lv_aload_n hx hb dX1_span_27 rfl (lv_at hl 0 rfl) ?_
  refine lv_iload_n hx hb dX1_span_28 rfl (lv_at hl 1 rfl) ?_
  refine lv_iload_n hx hb dX1_span_29 rfl (lv_at hl 2 rfl) ?_
  refine lv_iload_n hx hb dX1_span_30 rfl (lv_at hl 3 rfl) ?_
  refine lv_iload hx hb dX1_span_31 (lv_at hl 4 rfl) ?_
  have hcw := hw
  refine c_Wv (As := [.int (iI a), .int (iI x), .int (iI y), .int (iI z)]) (rest := []) (b := u 0) (C := RX1) fx hl (ok_putSpan θ l hl0 S0 _ u _ _ _ _ _ _ _ hcw a x y z (by omega) (by omega) (by omega) (by omega) (by omega)) (ob_recv hK ho rfl) dX1_span_33 k832 k834 ks8 k1 k835 hd_X1_putSpan rfl ⟨by decide, by decide⟩ (Nat.le_of_ble_eq_true rfl) ⟨by dsimp only; omega, by dsimp only; omega⟩ hS (fun q h => h.elim Or.inl (fun h => Or.inr (Nat.le_trans hS.1 h))) (fun H1 locs hwH1 hszH1 hkH1 hS => ?_)
  obtain ⟨hoH1, ha1H1, ha2H1, ha3H1, ha4H1, hsbH1⟩ := hwH1
  have hzH1 := hz0.at hAB hS
  refine lv_aload_n hx hb dX1_span_36 rfl (lv_at hl 0 rfl) ?_
  refine lv_iload_n hx hb dX1_span_37 rfl (lv_at hl 1 rfl) ?_
  have hcw : CWR θ S0 u H1 dt (up sy a.toNat (x)) (up sm a.toNat (y)) (up sd a.toNat (z)) (bc + 1) rf kn := ⟨hzH1, hu, ⟨hoH1, ha1H1, ha2H1, ha3H1, ha4H1, hsbH1⟩, hd, (fun j hj => by obtain ⟨g1, g2, g3, g4, g5, g6⟩ := hsp j hj; show -20000 ≤ _ ∧ _; simp only [up]; (split <;> omega))⟩
  refine c_HV (As := [.int (iI a)]) (rest := []) (b := u 0) (C := RX1) fx hl (ok_monthsInAll θ l hl0 S0 _ u _ _ _ _ _ _ _ hcw a (by omega) (by omega)) (ob_recv hK hoH1 rfl) dX1_span_38 k675 k677 ks6 k1 k678 hd_X1_monthsInAll rfl ⟨by decide, by decide⟩ (Nat.le_of_ble_eq_true rfl) ⟨by dsimp only; omega, by dsimp only; omega⟩ ?_
  refine q_nm (fun z2 ez2 => ?_)
  first | exact e_i hx hb hr hlk hS dX1_span_41 (Nat.le_refl _) (Nat.le_refl _) ⟨ex_i (by subst_vars; simp only [up_s]), by first | exact ⟨hoH1, ha1H1, ha2H1, ha3H1, ha4H1, hsbH1⟩ | (subst_vars; exact ⟨hoH1, ha1H1, ha2H1, ha3H1, ha4H1, hsbH1⟩)⟩ | exact (show False by omega).elim

set_option maxHeartbeats 4000000 in
set_option maxRecDepth 100000 in
theorem no1_span (θ : TH) (l : Launch) (hl0 : l.stackTraces = false) (S0 : State) (H : Heap) (u : Nat → Nat) (dt sy sm sd : Nat → Int) (bc rf kn : Int) (hw : CWR θ S0 u H dt sy sm sd bc rf kn) (a x y z : Int) (h_0 : -2147483648 ≤ a ∧ a < 2147483648) (h_1 : -2147483648 ≤ x ∧ x < 2147483648) (h_2 : -2147483648 ≤ y ∧ y < 2147483648) (h_3 : -2147483648 ≤ z ∧ z < 2147483648) (h_4 : ¬ (0 ≤ a ∧ a < 3)) : TX l yX1_span cX1_span 5 (some .int) 7 110 [.ref (u 0), .int (iI a), .int (iI x), .int (iI y), .int (iI z)] S0 H "java/lang/IndexOutOfBoundsException" := by
  refine ct_of (by decide +kernel) (Nat.le_of_ble_eq_true rfl) ?_
  intro pg en s mi args below meth co ls fx hs hr hlk hxt hin hl
  subst hs
  obtain ⟨hx, hb, hml, hown, hts⟩ := id fx.1
  have hS : va_S (fun q : Nat => s.heap.size ≤ q) s.heap s.heap [] := va_S.rf
  obtain ⟨hz, hu, ⟨ho, ha1, ha2, ha3, ha4, hsb⟩, hd, hsp⟩ := id hw
  have hAB : ∀ q : Nat, (fun q : Nat => s.heap.size ≤ q) q → θ.2.2.2 ≤ q := fun q h => Nat.le_trans hz.2.1 h
  have hz0 := hz
  have hK := sz_K fx.2 hz
  refine lv_iload_n hx hb dX1_span_0 rfl (lv_at hl 1 rfl) ?_
  exact e_cT (As := [.int (iI a)]) (rest := []) fx hl (nno_needSpan θ l hl0 S0 _ hz a (by omega) (by omega)) dX1_span_1 k671 k672 k1 k673 hd_X1_needSpan rfl ⟨by decide, by decide⟩ (Nat.le_of_ble_eq_true rfl) ⟨by decide, by decide⟩ ⟨by decide, by decide⟩ hS (fun _ h => h) hxt hlk (fun H1 h1 h2 => ⟨rfl, h1, h2⟩)

set_option maxHeartbeats 4000000 in
set_option maxRecDepth 100000 in
theorem no2_span (θ : TH) (l : Launch) (hl0 : l.stackTraces = false) (S0 : State) (H : Heap) (u : Nat → Nat) (dt sy sm sd : Nat → Int) (bc rf kn : Int) (hw : CWR θ S0 u H dt sy sm sd bc rf kn) (a x y z : Int) (h_0 : -2147483648 ≤ a ∧ a < 2147483648) (h_1 : -2147483648 ≤ x ∧ x < 2147483648) (h_2 : -2147483648 ≤ y ∧ y < 2147483648) (h_3 : -2147483648 ≤ z ∧ z < 2147483648) (h_4 : 0 ≤ a ∧ a < 3) (h_5 : ¬ (-20000 ≤ x ∧ x ≤ 20000)) : TX l yX1_span cX1_span 5 (some .int) 7 112 [.ref (u 0), .int (iI a), .int (iI x), .int (iI y), .int (iI z)] S0 H "java/lang/IllegalArgumentException" := by
  refine ct_of (by decide +kernel) (Nat.le_of_ble_eq_true rfl) ?_
  intro pg en s mi args below meth co ls fx hs hr hlk hxt hin hl
  subst hs
  obtain ⟨hx, hb, hml, hown, hts⟩ := id fx.1
  have hS : va_S (fun q : Nat => s.heap.size ≤ q) s.heap s.heap [] := va_S.rf
  obtain ⟨hz, hu, ⟨ho, ha1, ha2, ha3, ha4, hsb⟩, hd, hsp⟩ := id hw
  have hAB : ∀ q : Nat, (fun q : Nat => s.heap.size ≤ q) q → θ.2.2.2 ≤ q := fun q h => Nat.le_trans hz.2.1 h
  have hz0 := hz
  have hK := sz_K fx.2 hz
  refine lv_iload_n hx hb dX1_span_0 rfl (lv_at hl 1 rfl) ?_
  refine c_N (As := [.int (iI a)]) (rest := []) fx hl (nok_needSpan l S0 _ a (by omega) (by omega)) dX1_span_1 k671 k672 k1 k673 hd_X1_needSpan rfl ⟨by decide, by decide⟩ (Nat.le_of_ble_eq_true rfl) ⟨by dsimp only; omega, by dsimp only; omega⟩ ?_
  refine lv_iload_n hx hb dX1_span_4 rfl (lv_at hl 2 rfl) ?_
  refine q_sip hx hb dX1_span_5 (by decide) ?_
  refine q_sip hx hb dX1_span_8 (by decide) ?_
  exact e_cT (As := [.int (iI x), .int (iI (-20000)), .int (iI 20000)]) (rest := []) fx hl (nno_needWithin θ l hl0 S0 _ hz x (-20000) 20000 (by omega) (by omega) (by omega) (by omega)) dX1_span_11 k172 k173 k1 k174 hd_X1_needWithin rfl ⟨by decide, by decide⟩ (Nat.le_of_ble_eq_true rfl) ⟨by decide, by decide⟩ ⟨by decide, by decide⟩ hS (fun _ h => h) hxt hlk (fun H1 h1 h2 => ⟨rfl, h1, h2⟩)

set_option maxHeartbeats 4000000 in
set_option maxRecDepth 100000 in
theorem no3_span (θ : TH) (l : Launch) (hl0 : l.stackTraces = false) (S0 : State) (H : Heap) (u : Nat → Nat) (dt sy sm sd : Nat → Int) (bc rf kn : Int) (hw : CWR θ S0 u H dt sy sm sd bc rf kn) (a x y z : Int) (h_0 : -2147483648 ≤ a ∧ a < 2147483648) (h_1 : -2147483648 ≤ x ∧ x < 2147483648) (h_2 : -2147483648 ≤ y ∧ y < 2147483648) (h_3 : -2147483648 ≤ z ∧ z < 2147483648) (h_4 : 0 ≤ a ∧ a < 3) (h_5 : -20000 ≤ x ∧ x ≤ 20000) (h_6 : ¬ (-240000 ≤ y ∧ y ≤ 240000)) : TX l yX1_span cX1_span 5 (some .int) 8 132 [.ref (u 0), .int (iI a), .int (iI x), .int (iI y), .int (iI z)] S0 H "java/lang/IllegalArgumentException" := by
  refine ct_of (by decide +kernel) (Nat.le_of_ble_eq_true rfl) ?_
  intro pg en s mi args below meth co ls fx hs hr hlk hxt hin hl
  subst hs
  obtain ⟨hx, hb, hml, hown, hts⟩ := id fx.1
  have hS : va_S (fun q : Nat => s.heap.size ≤ q) s.heap s.heap [] := va_S.rf
  obtain ⟨hz, hu, ⟨ho, ha1, ha2, ha3, ha4, hsb⟩, hd, hsp⟩ := id hw
  have hAB : ∀ q : Nat, (fun q : Nat => s.heap.size ≤ q) q → θ.2.2.2 ≤ q := fun q h => Nat.le_trans hz.2.1 h
  have hz0 := hz
  have hK := sz_K fx.2 hz
  refine lv_iload_n hx hb dX1_span_0 rfl (lv_at hl 1 rfl) ?_
  refine c_N (As := [.int (iI a)]) (rest := []) fx hl (nok_needSpan l S0 _ a (by omega) (by omega)) dX1_span_1 k671 k672 k1 k673 hd_X1_needSpan rfl ⟨by decide, by decide⟩ (Nat.le_of_ble_eq_true rfl) ⟨by dsimp only; omega, by dsimp only; omega⟩ ?_
  refine lv_iload_n hx hb dX1_span_4 rfl (lv_at hl 2 rfl) ?_
  refine q_sip hx hb dX1_span_5 (by decide) ?_
  refine q_sip hx hb dX1_span_8 (by decide) ?_
  refine c_N (As := [.int (iI x), .int (iI (-20000)), .int (iI 20000)]) (rest := []) fx hl (nok_needWithin l S0 _ x (-20000) 20000 (by omega) (by omega) (by omega) (by omega)) dX1_span_11 k172 k173 k1 k174 hd_X1_needWithin rfl ⟨by decide, by decide⟩ (Nat.le_of_ble_eq_true rfl) ⟨by dsimp only; omega, by dsimp only; omega⟩ ?_
  refine lv_iload_n hx hb dX1_span_14 rfl (lv_at hl 3 rfl) ?_
  exact e_cT (As := [.int (iI y)]) (rest := []) fx hl (nno_needMonths θ l hl0 S0 _ hz y (by omega) (by omega)) dX1_span_15 k640 k641 k1 k642 hd_X1_needMonths rfl ⟨by decide, by decide⟩ (Nat.le_of_ble_eq_true rfl) ⟨by decide, by decide⟩ ⟨by decide, by decide⟩ hS (fun _ h => h) hxt hlk (fun H1 h1 h2 => ⟨rfl, h1, h2⟩)

set_option maxHeartbeats 4000000 in
set_option maxRecDepth 100000 in
theorem no4_span (θ : TH) (l : Launch) (hl0 : l.stackTraces = false) (S0 : State) (H : Heap) (u : Nat → Nat) (dt sy sm sd : Nat → Int) (bc rf kn : Int) (hw : CWR θ S0 u H dt sy sm sd bc rf kn) (a x y z : Int) (h_0 : -2147483648 ≤ a ∧ a < 2147483648) (h_1 : -2147483648 ≤ x ∧ x < 2147483648) (h_2 : -2147483648 ≤ y ∧ y < 2147483648) (h_3 : -2147483648 ≤ z ∧ z < 2147483648) (h_4 : 0 ≤ a ∧ a < 3) (h_5 : -20000 ≤ x ∧ x ≤ 20000) (h_6 : -240000 ≤ y ∧ y ≤ 240000) (h_7 : ¬ (-100000 ≤ z ∧ z ≤ 100000)) : TX l yX1_span cX1_span 5 (some .int) 7 112 [.ref (u 0), .int (iI a), .int (iI x), .int (iI y), .int (iI z)] S0 H "java/lang/IllegalArgumentException" := by
  refine ct_of (by decide +kernel) (Nat.le_of_ble_eq_true rfl) ?_
  intro pg en s mi args below meth co ls fx hs hr hlk hxt hin hl
  subst hs
  obtain ⟨hx, hb, hml, hown, hts⟩ := id fx.1
  have hS : va_S (fun q : Nat => s.heap.size ≤ q) s.heap s.heap [] := va_S.rf
  obtain ⟨hz, hu, ⟨ho, ha1, ha2, ha3, ha4, hsb⟩, hd, hsp⟩ := id hw
  have hAB : ∀ q : Nat, (fun q : Nat => s.heap.size ≤ q) q → θ.2.2.2 ≤ q := fun q h => Nat.le_trans hz.2.1 h
  have hz0 := hz
  have hK := sz_K fx.2 hz
  refine lv_iload_n hx hb dX1_span_0 rfl (lv_at hl 1 rfl) ?_
  refine c_N (As := [.int (iI a)]) (rest := []) fx hl (nok_needSpan l S0 _ a (by omega) (by omega)) dX1_span_1 k671 k672 k1 k673 hd_X1_needSpan rfl ⟨by decide, by decide⟩ (Nat.le_of_ble_eq_true rfl) ⟨by dsimp only; omega, by dsimp only; omega⟩ ?_
  refine lv_iload_n hx hb dX1_span_4 rfl (lv_at hl 2 rfl) ?_
  refine q_sip hx hb dX1_span_5 (by decide) ?_
  refine q_sip hx hb dX1_span_8 (by decide) ?_
  refine c_N (As := [.int (iI x), .int (iI (-20000)), .int (iI 20000)]) (rest := []) fx hl (nok_needWithin l S0 _ x (-20000) 20000 (by omega) (by omega) (by omega) (by omega)) dX1_span_11 k172 k173 k1 k174 hd_X1_needWithin rfl ⟨by decide, by decide⟩ (Nat.le_of_ble_eq_true rfl) ⟨by dsimp only; omega, by dsimp only; omega⟩ ?_
  refine lv_iload_n hx hb dX1_span_14 rfl (lv_at hl 3 rfl) ?_
  refine c_N (As := [.int (iI y)]) (rest := []) fx hl (nok_needMonths l S0 _ y (by omega) (by omega)) dX1_span_15 k640 k641 k1 k642 hd_X1_needMonths rfl ⟨by decide, by decide⟩ (Nat.le_of_ble_eq_true rfl) ⟨by dsimp only; omega, by dsimp only; omega⟩ ?_
  refine lv_iload hx hb dX1_span_18 (lv_at hl 4 rfl) ?_
  refine q_ldc (n := -100000) hx hb hown (hts _ k652) (by decide) dX1_span_20 ?_
  refine q_ldc (n := 100000) hx hb hown (hts _ k653) (by decide) dX1_span_22 ?_
  exact e_cT (As := [.int (iI z), .int (iI (-100000)), .int (iI 100000)]) (rest := []) fx hl (nno_needWithin θ l hl0 S0 _ hz z (-100000) 100000 (by omega) (by omega) (by omega) (by omega)) dX1_span_24 k172 k173 k1 k174 hd_X1_needWithin rfl ⟨by decide, by decide⟩ (Nat.le_of_ble_eq_true rfl) ⟨by decide, by decide⟩ ⟨by decide, by decide⟩ hS (fun _ h => h) hxt hlk (fun H1 h1 h2 => ⟨rfl, h1, h2⟩)

set_option maxHeartbeats 4000000 in
set_option maxRecDepth 100000 in
theorem ok_turnSpan (θ : TH) (l : Launch) (hl0 : l.stackTraces = false) (S0 : State) (H : Heap) (u : Nat → Nat) (dt sy sm sd : Nat → Int) (bc rf kn : Int) (hw : CWR θ S0 u H dt sy sm sd bc rf kn) (a : Int) (h_0 : -2147483648 ≤ a ∧ a < 2147483648) (h_1 : 0 ≤ a ∧ a < 3) : CT l yX1_turnSpan cX1_turnSpan 2 (some .int) 1 24 0 0 [.ref (u 0), .int (iI a)] S0 H (fun v9 H1 => v9 = some (.int (iI (12 * -sy a.toNat + -sm a.toNat))) ∧ CW θ u H1 dt (up sy a.toNat (-sy a.toNat)) (up sm a.toNat (-sm a.toNat)) (up sd a.toNat (-sd a.toNat)) (bc + 1) rf kn) (fun _ _ => False) (UA u H.size) := by
  refine ct_of (by decide +kernel) (Nat.le_of_ble_eq_true rfl) ?_
  intro pg en s mi args below meth co ls fx hs hr hlk hxt hin hl
  subst hs
  obtain ⟨hx, hb, hml, hown, hts⟩ := id fx.1
  have hS : va_S (UA u s.heap.size) s.heap s.heap [] := va_S.rf
  obtain ⟨hz, hu, ⟨ho, ha1, ha2, ha3, ha4, hsb⟩, hd, hsp⟩ := id hw
  have hAB := ua_b hu hz.2.1
  have hz0 := hz
  have hK := sz_K fx.2 hz
  refine lv_iload_n hx hb dX1_turnSpan_0 rfl (lv_at hl 1 rfl) ?_
  refine c_N (As := [.int (iI a)]) (rest := []) fx hl (nok_needSpan l S0 _ a (by omega) (by omega)) dX1_turnSpan_1 k671 k672 k1 k673 hd_X1_needSpan rfl ⟨by decide, by decide⟩ (Nat.le_of_ble_eq_true rfl) ⟨by dsimp only; omega, by dsimp only; omega⟩ ?_
  refine lv_aload_n hx hb dX1_turnSpan_4 rfl (lv_at hl 0 rfl) ?_
  refine lv_iload_n hx hb dX1_turnSpan_5 rfl (lv_at hl 1 rfl) ?_
  refine lv_aload_n hx hb dX1_turnSpan_6 rfl (lv_at hl 0 rfl) ?_
  refine r_get (θ := θ) (C := RX1) (T := TX1) (N := 8) (ci := 7) hx hb hts gwX1 hown hK ho rfl 1 (by decide) k74 (fun _ h => h) (v := .ref (u 2)) rfl dX1_turnSpan_7 ?_
  refine lv_iload_n hx hb dX1_turnSpan_10 rfl (lv_at hl 1 rfl) ?_
  refine r_iald (θ := θ) hx hb hK ha2 (i := a) (by omega) (by decide) dX1_turnSpan_11 ?_
  have tr1 := hsp (a.toNat) (by omega)
  refine q_neg hx hb dX1_turnSpan_12 ?_
  refine lv_aload_n hx hb dX1_turnSpan_13 rfl (lv_at hl 0 rfl) ?_
  refine r_get (θ := θ) (C := RX1) (T := TX1) (N := 8) (ci := 7) hx hb hts gwX1 hown hK ho rfl 2 (by decide) k75 (fun _ h => h) (v := .ref (u 3)) rfl dX1_turnSpan_14 ?_
  refine lv_iload_n hx hb dX1_turnSpan_17 rfl (lv_at hl 1 rfl) ?_
  refine r_iald (θ := θ) hx hb hK ha3 (i := a) (by omega) (by decide) dX1_turnSpan_18 ?_
  have tr2 := hsp (a.toNat) (by omega)
  refine q_neg hx hb dX1_turnSpan_19 ?_
  refine lv_aload_n hx hb dX1_turnSpan_20 rfl (lv_at hl 0 rfl) ?_
  refine r_get (θ := θ) (C := RX1) (T := TX1) (N := 8) (ci := 7) hx hb hts gwX1 hown hK ho rfl 3 (by decide) k76 (fun _ h => h) (v := .ref (u 4)) rfl dX1_turnSpan_21 ?_
  refine lv_iload_n hx hb dX1_turnSpan_24 rfl (lv_at hl 1 rfl) ?_
  refine r_iald (θ := θ) hx hb hK ha4 (i := a) (by omega) (by decide) dX1_turnSpan_25 ?_
  have tr3 := hsp (a.toNat) (by omega)
  refine q_neg hx hb dX1_turnSpan_26 ?_
  have hcw := hw
  refine c_Wv (As := [.int (iI a), .int (iI (-(sy a.toNat))), .int (iI (-(sm a.toNat))), .int (iI (-(sd a.toNat)))]) (rest := []) (b := u 0) (C := RX1) fx hl (ok_putSpan θ l hl0 S0 _ u _ _ _ _ _ _ _ hcw a (-(sy a.toNat)) (-(sm a.toNat)) (-(sd a.toNat)) (by omega) (by omega) (by omega) (by omega) (by omega)) (ob_recv hK ho rfl) dX1_turnSpan_27 k832 k834 ks8 k1 k835 hd_X1_putSpan rfl ⟨by decide, by decide⟩ (Nat.le_of_ble_eq_true rfl) ⟨by dsimp only; omega, by dsimp only; omega⟩ hS (fun q h => h.elim Or.inl (fun h => Or.inr (Nat.le_trans hS.1 h))) (fun H4 locs hwH4 hszH4 hkH4 hS => ?_)
  obtain ⟨hoH4, ha1H4, ha2H4, ha3H4, ha4H4, hsbH4⟩ := hwH4
  have hzH4 := hz0.at hAB hS
  refine lv_aload_n hx hb dX1_turnSpan_30 rfl (lv_at hl 0 rfl) ?_
  refine lv_iload_n hx hb dX1_turnSpan_31 rfl (lv_at hl 1 rfl) ?_
  have hcw : CWR θ S0 u H4 dt (up sy a.toNat ((-(sy a.toNat)))) (up sm a.toNat ((-(sm a.toNat)))) (up sd a.toNat ((-(sd a.toNat)))) (bc + 1) rf kn := ⟨hzH4, hu, ⟨hoH4, ha1H4, ha2H4, ha3H4, ha4H4, hsbH4⟩, hd, (fun j hj => by obtain ⟨g1, g2, g3, g4, g5, g6⟩ := hsp j hj; show -20000 ≤ _ ∧ _; simp only [up]; (split <;> omega))⟩
  refine c_HV (As := [.int (iI a)]) (rest := []) (b := u 0) (C := RX1) fx hl (ok_monthsInAll θ l hl0 S0 _ u _ _ _ _ _ _ _ hcw a (by omega) (by omega)) (ob_recv hK hoH4 rfl) dX1_turnSpan_32 k675 k677 ks6 k1 k678 hd_X1_monthsInAll rfl ⟨by decide, by decide⟩ (Nat.le_of_ble_eq_true rfl) ⟨by dsimp only; omega, by dsimp only; omega⟩ ?_
  refine q_nm (fun z5 ez5 => ?_)
  first | exact e_i hx hb hr hlk hS dX1_turnSpan_35 (Nat.le_refl _) (Nat.le_refl _) ⟨ex_i (by subst_vars; simp only [up_s]), by first | exact ⟨hoH4, ha1H4, ha2H4, ha3H4, ha4H4, hsbH4⟩ | (subst_vars; exact ⟨hoH4, ha1H4, ha2H4, ha3H4, ha4H4, hsbH4⟩)⟩ | exact (show False by omega).elim

set_option maxHeartbeats 4000000 in
set_option maxRecDepth 100000 in
theorem no1_turnSpan (θ : TH) (l : Launch) (hl0 : l.stackTraces = false) (S0 : State) (H : Heap) (u : Nat → Nat) (dt sy sm sd : Nat → Int) (bc rf kn : Int) (hw : CWR θ S0 u H dt sy sm sd bc rf kn) (a : Int) (h_0 : -2147483648 ≤ a ∧ a < 2147483648) (h_1 : ¬ (0 ≤ a ∧ a < 3)) : TX l yX1_turnSpan cX1_turnSpan 2 (some .int) 7 110 [.ref (u 0), .int (iI a)] S0 H "java/lang/IndexOutOfBoundsException" := by
  refine ct_of (by decide +kernel) (Nat.le_of_ble_eq_true rfl) ?_
  intro pg en s mi args below meth co ls fx hs hr hlk hxt hin hl
  subst hs
  obtain ⟨hx, hb, hml, hown, hts⟩ := id fx.1
  have hS : va_S (fun q : Nat => s.heap.size ≤ q) s.heap s.heap [] := va_S.rf
  obtain ⟨hz, hu, ⟨ho, ha1, ha2, ha3, ha4, hsb⟩, hd, hsp⟩ := id hw
  have hAB : ∀ q : Nat, (fun q : Nat => s.heap.size ≤ q) q → θ.2.2.2 ≤ q := fun q h => Nat.le_trans hz.2.1 h
  have hz0 := hz
  have hK := sz_K fx.2 hz
  refine lv_iload_n hx hb dX1_turnSpan_0 rfl (lv_at hl 1 rfl) ?_
  exact e_cT (As := [.int (iI a)]) (rest := []) fx hl (nno_needSpan θ l hl0 S0 _ hz a (by omega) (by omega)) dX1_turnSpan_1 k671 k672 k1 k673 hd_X1_needSpan rfl ⟨by decide, by decide⟩ (Nat.le_of_ble_eq_true rfl) ⟨by decide, by decide⟩ ⟨by decide, by decide⟩ hS (fun _ h => h) hxt hlk (fun H1 h1 h2 => ⟨rfl, h1, h2⟩)

set_option maxHeartbeats 4000000 in
set_option maxRecDepth 100000 in
theorem ok_addSpan (θ : TH) (l : Launch) (hl0 : l.stackTraces = false) (S0 : State) (H : Heap) (u : Nat → Nat) (dt sy sm sd : Nat → Int) (bc rf kn : Int) (hw : CWR θ S0 u H dt sy sm sd bc rf kn) (a b : Int) (h_0 : -2147483648 ≤ a ∧ a < 2147483648) (h_1 : -2147483648 ≤ b ∧ b < 2147483648) (h_2 : 0 ≤ a ∧ a < 3) (h_3 : 0 ≤ b ∧ b < 3) (h_4 : -20000 ≤ sy a.toNat + sy b.toNat ∧ sy a.toNat + sy b.toNat ≤ 20000) (h_5 : -240000 ≤ sm a.toNat + sm b.toNat ∧ sm a.toNat + sm b.toNat ≤ 240000) (h_6 : -100000 ≤ sd a.toNat + sd b.toNat ∧ sd a.toNat + sd b.toNat ≤ 100000) : CT l yX1_addSpan cX1_addSpan 6 (some .int) 1 24 0 0 [.ref (u 0), .int (iI a), .int (iI b)] S0 H (fun v9 H1 => v9 = some (.int (iI (sd a.toNat + sd b.toNat))) ∧ CW θ u H1 dt (up sy a.toNat (sy a.toNat + sy b.toNat)) (up sm a.toNat (sm a.toNat + sm b.toNat)) (up sd a.toNat (sd a.toNat + sd b.toNat)) (bc + 1) rf kn) (fun _ _ => False) (UA u H.size) := by
  refine ct_of (by decide +kernel) (Nat.le_of_ble_eq_true rfl) ?_
  intro pg en s mi args below meth co ls fx hs hr hlk hxt hin hl
  subst hs
  obtain ⟨hx, hb, hml, hown, hts⟩ := id fx.1
  have hS : va_S (UA u s.heap.size) s.heap s.heap [] := va_S.rf
  obtain ⟨hz, hu, ⟨ho, ha1, ha2, ha3, ha4, hsb⟩, hd, hsp⟩ := id hw
  have hAB := ua_b hu hz.2.1
  have hz0 := hz
  have hK := sz_K fx.2 hz
  refine lv_iload_n hx hb dX1_addSpan_0 rfl (lv_at hl 1 rfl) ?_
  refine c_N (As := [.int (iI a)]) (rest := []) fx hl (nok_needSpan l S0 _ a (by omega) (by omega)) dX1_addSpan_1 k671 k672 k1 k673 hd_X1_needSpan rfl ⟨by decide, by decide⟩ (Nat.le_of_ble_eq_true rfl) ⟨by dsimp only; omega, by dsimp only; omega⟩ ?_
  refine lv_iload_n hx hb dX1_addSpan_4 rfl (lv_at hl 2 rfl) ?_
  refine c_N (As := [.int (iI b)]) (rest := []) fx hl (nok_needSpan l S0 _ b (by omega) (by omega)) dX1_addSpan_5 k671 k672 k1 k673 hd_X1_needSpan rfl ⟨by decide, by decide⟩ (Nat.le_of_ble_eq_true rfl) ⟨by dsimp only; omega, by dsimp only; omega⟩ ?_
  refine lv_aload_n hx hb dX1_addSpan_8 rfl (lv_at hl 0 rfl) ?_
  refine r_get (θ := θ) (C := RX1) (T := TX1) (N := 8) (ci := 7) hx hb hts gwX1 hown hK ho rfl 1 (by decide) k74 (fun _ h => h) (v := .ref (u 2)) rfl dX1_addSpan_9 ?_
  refine lv_iload_n hx hb dX1_addSpan_12 rfl (lv_at hl 1 rfl) ?_
  refine r_iald (θ := θ) hx hb hK ha2 (i := a) (by omega) (by decide) dX1_addSpan_13 ?_
  have tr1 := hsp (a.toNat) (by omega)
  refine lv_aload_n hx hb dX1_addSpan_14 rfl (lv_at hl 0 rfl) ?_
  refine r_get (θ := θ) (C := RX1) (T := TX1) (N := 8) (ci := 7) hx hb hts gwX1 hown hK ho rfl 1 (by decide) k74 (fun _ h => h) (v := .ref (u 2)) rfl dX1_addSpan_15 ?_
  refine lv_iload_n hx hb dX1_addSpan_18 rfl (lv_at hl 2 rfl) ?_
  refine r_iald (θ := θ) hx hb hK ha2 (i := b) (by omega) (by decide) dX1_addSpan_19 ?_
  have tr2 := hsp (b.toNat) (by omega)
  refine q_add hx hb dX1_addSpan_20 ?_
  refine q_nm (fun z3 ez3 => ?_)
  refine lv_istore_n (lv' := [(3, .int (iI z3)), (0, .ref (u 0)), (1, .int (iI a)), (2, .int (iI b))]) hx hb dX1_addSpan_21 rfl hl (by decide) rfl (fun ls hl => ?_)
  refine lv_aload_n hx hb dX1_addSpan_22 rfl (lv_at hl 1 rfl) ?_
  refine r_get (θ := θ) (C := RX1) (T := TX1) (N := 8) (ci := 7) hx hb hts gwX1 hown hK ho rfl 2 (by decide) k75 (fun _ h => h) (v := .ref (u 3)) rfl dX1_addSpan_23 ?_
  refine lv_iload_n hx hb dX1_addSpan_26 rfl (lv_at hl 2 rfl) ?_
  refine r_iald (θ := θ) hx hb hK ha3 (i := a) (by omega) (by decide) dX1_addSpan_27 ?_
  have tr4 := hsp (a.toNat) (by omega)
  refine lv_aload_n hx hb dX1_addSpan_28 rfl (lv_at hl 1 rfl) ?_
  refine r_get (θ := θ) (C := RX1) (T := TX1) (N := 8) (ci := 7) hx hb hts gwX1 hown hK ho rfl 2 (by decide) k75 (fun _ h => h) (v := .ref (u 3)) rfl dX1_addSpan_29 ?_
  refine lv_iload_n hx hb dX1_addSpan_32 rfl (lv_at hl 3 rfl) ?_
  refine r_iald (θ := θ) hx hb hK ha3 (i := b) (by omega) (by decide) dX1_addSpan_33 ?_
  have tr5 := hsp (b.toNat) (by omega)
  refine q_add hx hb dX1_addSpan_34 ?_
  refine q_nm (fun z6 ez6 => ?_)
  refine lv_istore (lv' := [(4, .int (iI z6)), (3, .int (iI z3)), (0, .ref (u 0)), (1, .int (iI a)), (2, .int (iI b))]) hx hb dX1_addSpan_35 hl (by decide) rfl (fun ls hl => ?_)
  refine lv_aload_n hx hb dX1_addSpan_37 rfl (lv_at hl 2 rfl) ?_
  refine r_get (θ := θ) (C := RX1) (T := TX1) (N := 8) (ci := 7) hx hb hts gwX1 hown hK ho rfl 3 (by decide) k76 (fun _ h => h) (v := .ref (u 4)) rfl dX1_addSpan_38 ?_
  refine lv_iload_n hx hb dX1_addSpan_41 rfl (lv_at hl 3 rfl) ?_
  refine r_iald (θ := θ) hx hb hK ha4 (i := a) (by omega) (by decide) dX1_addSpan_42 ?_
  have tr7 := hsp (a.toNat) (by omega)
  refine lv_aload_n hx hb dX1_addSpan_43 rfl (lv_at hl 2 rfl) ?_
  refine r_get (θ := θ) (C := RX1) (T := TX1) (N := 8) (ci := 7) hx hb hts gwX1 hown hK ho rfl 3 (by decide) k76 (fun _ h => h) (v := .ref (u 4)) rfl dX1_addSpan_44 ?_
  refine lv_iload_n hx hb dX1_addSpan_47 rfl (lv_at hl 4 rfl) ?_
  refine r_iald (θ := θ) hx hb hK ha4 (i := b) (by omega) (by decide) dX1_addSpan_48 ?_
  have tr8 := hsp (b.toNat) (by omega)
  refine q_add hx hb dX1_addSpan_49 ?_
  refine q_nm (fun z9 ez9 => ?_)
  refine lv_istore (lv' := [(5, .int (iI z9)), (4, .int (iI z6)), (3, .int (iI z3)), (0, .ref (u 0)), (1, .int (iI a)), (2, .int (iI b))]) hx hb dX1_addSpan_50 hl (by decide) rfl (fun ls hl => ?_)
  refine lv_iload_n hx hb dX1_addSpan_52 rfl (lv_at hl 2 rfl) ?_
  refine q_sip hx hb dX1_addSpan_53 (by decide) ?_
  refine c_N (As := [.int (iI z3), .int (iI 20000)]) (rest := []) fx hl (nok_needOfSpan l S0 _ z3 20000 (by omega) (by omega) (by omega)) dX1_addSpan_56 k854 k855 k1 k856 hd_X1_needOfSpan rfl ⟨by decide, by decide⟩ (Nat.le_of_ble_eq_true rfl) ⟨by dsimp only; omega, by dsimp only; omega⟩ ?_
  refine lv_iload hx hb dX1_addSpan_59 (lv_at hl 1 rfl) ?_
  refine q_ldc (n := 240000) hx hb hown (hts _ k644) (by decide) dX1_addSpan_61 ?_
  refine c_N (As := [.int (iI z6), .int (iI 240000)]) (rest := []) fx hl (nok_needOfSpan l S0 _ z6 240000 (by omega) (by omega) (by omega)) dX1_addSpan_63 k854 k855 k1 k856 hd_X1_needOfSpan rfl ⟨by decide, by decide⟩ (Nat.le_of_ble_eq_true rfl) ⟨by dsimp only; omega, by dsimp only; omega⟩ ?_
  refine lv_iload hx hb dX1_addSpan_66 (lv_at hl 0 rfl) ?_
  refine q_ldc (n := 100000) hx hb hown (hts _ k653) (by decide) dX1_addSpan_68 ?_
  refine c_N (As := [.int (iI z9), .int (iI 100000)]) (rest := []) fx hl (nok_needOfSpan l S0 _ z9 100000 (by omega) (by omega) (by omega)) dX1_addSpan_70 k854 k855 k1 k856 hd_X1_needOfSpan rfl ⟨by decide, by decide⟩ (Nat.le_of_ble_eq_true rfl) ⟨by dsimp only; omega, by dsimp only; omega⟩ ?_
  refine lv_aload_n hx hb dX1_addSpan_73 rfl (lv_at hl 3 rfl) ?_
  refine lv_iload_n hx hb dX1_addSpan_74 rfl (lv_at hl 4 rfl) ?_
  refine lv_iload_n hx hb dX1_addSpan_75 rfl (lv_at hl 2 rfl) ?_
  refine lv_iload hx hb dX1_addSpan_76 (lv_at hl 1 rfl) ?_
  refine lv_iload hx hb dX1_addSpan_78 (lv_at hl 0 rfl) ?_
  have hcw := hw
  refine c_Wv (As := [.int (iI a), .int (iI z3), .int (iI z6), .int (iI z9)]) (rest := []) (b := u 0) (C := RX1) fx hl (ok_putSpan θ l hl0 S0 _ u _ _ _ _ _ _ _ hcw a z3 z6 z9 (by omega) (by omega) (by omega) (by omega) (by omega)) (ob_recv hK ho rfl) dX1_addSpan_80 k832 k834 ks8 k1 k835 hd_X1_putSpan rfl ⟨by decide, by decide⟩ (Nat.le_of_ble_eq_true rfl) ⟨by dsimp only; omega, by dsimp only; omega⟩ hS (fun q h => h.elim Or.inl (fun h => Or.inr (Nat.le_trans hS.1 h))) (fun H10 locs hwH10 hszH10 hkH10 hS => ?_)
  obtain ⟨hoH10, ha1H10, ha2H10, ha3H10, ha4H10, hsbH10⟩ := hwH10
  have hzH10 := hz0.at hAB hS
  refine lv_iload hx hb dX1_addSpan_83 (lv_at hl 0 rfl) ?_
  first | exact e_i hx hb hr hlk hS dX1_addSpan_85 (Nat.le_refl _) (Nat.le_refl _) ⟨ex_i (by subst_vars; rfl), by first | exact ⟨hoH10, ha1H10, ha2H10, ha3H10, ha4H10, hsbH10⟩ | (subst_vars; exact ⟨hoH10, ha1H10, ha2H10, ha3H10, ha4H10, hsbH10⟩)⟩ | exact (show False by omega).elim

set_option maxHeartbeats 4000000 in
set_option maxRecDepth 100000 in
theorem no1_addSpan (θ : TH) (l : Launch) (hl0 : l.stackTraces = false) (S0 : State) (H : Heap) (u : Nat → Nat) (dt sy sm sd : Nat → Int) (bc rf kn : Int) (hw : CWR θ S0 u H dt sy sm sd bc rf kn) (a b : Int) (h_0 : -2147483648 ≤ a ∧ a < 2147483648) (h_1 : -2147483648 ≤ b ∧ b < 2147483648) (h_2 : ¬ (0 ≤ a ∧ a < 3)) : TX l yX1_addSpan cX1_addSpan 6 (some .int) 7 110 [.ref (u 0), .int (iI a), .int (iI b)] S0 H "java/lang/IndexOutOfBoundsException" := by
  refine ct_of (by decide +kernel) (Nat.le_of_ble_eq_true rfl) ?_
  intro pg en s mi args below meth co ls fx hs hr hlk hxt hin hl
  subst hs
  obtain ⟨hx, hb, hml, hown, hts⟩ := id fx.1
  have hS : va_S (fun q : Nat => s.heap.size ≤ q) s.heap s.heap [] := va_S.rf
  obtain ⟨hz, hu, ⟨ho, ha1, ha2, ha3, ha4, hsb⟩, hd, hsp⟩ := id hw
  have hAB : ∀ q : Nat, (fun q : Nat => s.heap.size ≤ q) q → θ.2.2.2 ≤ q := fun q h => Nat.le_trans hz.2.1 h
  have hz0 := hz
  have hK := sz_K fx.2 hz
  refine lv_iload_n hx hb dX1_addSpan_0 rfl (lv_at hl 1 rfl) ?_
  exact e_cT (As := [.int (iI a)]) (rest := []) fx hl (nno_needSpan θ l hl0 S0 _ hz a (by omega) (by omega)) dX1_addSpan_1 k671 k672 k1 k673 hd_X1_needSpan rfl ⟨by decide, by decide⟩ (Nat.le_of_ble_eq_true rfl) ⟨by decide, by decide⟩ ⟨by decide, by decide⟩ hS (fun _ h => h) hxt hlk (fun H1 h1 h2 => ⟨rfl, h1, h2⟩)

set_option maxHeartbeats 4000000 in
set_option maxRecDepth 100000 in
theorem no2_addSpan (θ : TH) (l : Launch) (hl0 : l.stackTraces = false) (S0 : State) (H : Heap) (u : Nat → Nat) (dt sy sm sd : Nat → Int) (bc rf kn : Int) (hw : CWR θ S0 u H dt sy sm sd bc rf kn) (a b : Int) (h_0 : -2147483648 ≤ a ∧ a < 2147483648) (h_1 : -2147483648 ≤ b ∧ b < 2147483648) (h_2 : 0 ≤ a ∧ a < 3) (h_3 : ¬ (0 ≤ b ∧ b < 3)) : TX l yX1_addSpan cX1_addSpan 6 (some .int) 7 110 [.ref (u 0), .int (iI a), .int (iI b)] S0 H "java/lang/IndexOutOfBoundsException" := by
  refine ct_of (by decide +kernel) (Nat.le_of_ble_eq_true rfl) ?_
  intro pg en s mi args below meth co ls fx hs hr hlk hxt hin hl
  subst hs
  obtain ⟨hx, hb, hml, hown, hts⟩ := id fx.1
  have hS : va_S (fun q : Nat => s.heap.size ≤ q) s.heap s.heap [] := va_S.rf
  obtain ⟨hz, hu, ⟨ho, ha1, ha2, ha3, ha4, hsb⟩, hd, hsp⟩ := id hw
  have hAB : ∀ q : Nat, (fun q : Nat => s.heap.size ≤ q) q → θ.2.2.2 ≤ q := fun q h => Nat.le_trans hz.2.1 h
  have hz0 := hz
  have hK := sz_K fx.2 hz
  refine lv_iload_n hx hb dX1_addSpan_0 rfl (lv_at hl 1 rfl) ?_
  refine c_N (As := [.int (iI a)]) (rest := []) fx hl (nok_needSpan l S0 _ a (by omega) (by omega)) dX1_addSpan_1 k671 k672 k1 k673 hd_X1_needSpan rfl ⟨by decide, by decide⟩ (Nat.le_of_ble_eq_true rfl) ⟨by dsimp only; omega, by dsimp only; omega⟩ ?_
  refine lv_iload_n hx hb dX1_addSpan_4 rfl (lv_at hl 2 rfl) ?_
  exact e_cT (As := [.int (iI b)]) (rest := []) fx hl (nno_needSpan θ l hl0 S0 _ hz b (by omega) (by omega)) dX1_addSpan_5 k671 k672 k1 k673 hd_X1_needSpan rfl ⟨by decide, by decide⟩ (Nat.le_of_ble_eq_true rfl) ⟨by decide, by decide⟩ ⟨by decide, by decide⟩ hS (fun _ h => h) hxt hlk (fun H1 h1 h2 => ⟨rfl, h1, h2⟩)

set_option maxHeartbeats 4000000 in
set_option maxRecDepth 100000 in
theorem no3_addSpan (θ : TH) (l : Launch) (hl0 : l.stackTraces = false) (S0 : State) (H : Heap) (u : Nat → Nat) (dt sy sm sd : Nat → Int) (bc rf kn : Int) (hw : CWR θ S0 u H dt sy sm sd bc rf kn) (a b : Int) (h_0 : -2147483648 ≤ a ∧ a < 2147483648) (h_1 : -2147483648 ≤ b ∧ b < 2147483648) (h_2 : 0 ≤ a ∧ a < 3) (h_3 : 0 ≤ b ∧ b < 3) (h_4 : ¬ (-20000 ≤ sy a.toNat + sy b.toNat ∧ sy a.toNat + sy b.toNat ≤ 20000)) : TX l yX1_addSpan cX1_addSpan 6 (some .int) 7 111 [.ref (u 0), .int (iI a), .int (iI b)] S0 H "java/lang/IllegalStateException" := by
  refine ct_of (by decide +kernel) (Nat.le_of_ble_eq_true rfl) ?_
  intro pg en s mi args below meth co ls fx hs hr hlk hxt hin hl
  subst hs
  obtain ⟨hx, hb, hml, hown, hts⟩ := id fx.1
  have hS : va_S (fun q : Nat => s.heap.size ≤ q) s.heap s.heap [] := va_S.rf
  obtain ⟨hz, hu, ⟨ho, ha1, ha2, ha3, ha4, hsb⟩, hd, hsp⟩ := id hw
  have hAB : ∀ q : Nat, (fun q : Nat => s.heap.size ≤ q) q → θ.2.2.2 ≤ q := fun q h => Nat.le_trans hz.2.1 h
  have hz0 := hz
  have hK := sz_K fx.2 hz
  refine lv_iload_n hx hb dX1_addSpan_0 rfl (lv_at hl 1 rfl) ?_
  refine c_N (As := [.int (iI a)]) (rest := []) fx hl (nok_needSpan l S0 _ a (by omega) (by omega)) dX1_addSpan_1 k671 k672 k1 k673 hd_X1_needSpan rfl ⟨by decide, by decide⟩ (Nat.le_of_ble_eq_true rfl) ⟨by dsimp only; omega, by dsimp only; omega⟩ ?_
  refine lv_iload_n hx hb dX1_addSpan_4 rfl (lv_at hl 2 rfl) ?_
  refine c_N (As := [.int (iI b)]) (rest := []) fx hl (nok_needSpan l S0 _ b (by omega) (by omega)) dX1_addSpan_5 k671 k672 k1 k673 hd_X1_needSpan rfl ⟨by decide, by decide⟩ (Nat.le_of_ble_eq_true rfl) ⟨by dsimp only; omega, by dsimp only; omega⟩ ?_
  refine lv_aload_n hx hb dX1_addSpan_8 rfl (lv_at hl 0 rfl) ?_
  refine r_get (θ := θ) (C := RX1) (T := TX1) (N := 8) (ci := 7) hx hb hts gwX1 hown hK ho rfl 1 (by decide) k74 (fun _ h => h) (v := .ref (u 2)) rfl dX1_addSpan_9 ?_
  refine lv_iload_n hx hb dX1_addSpan_12 rfl (lv_at hl 1 rfl) ?_
  refine r_iald (θ := θ) hx hb hK ha2 (i := a) (by omega) (by decide) dX1_addSpan_13 ?_
  have tr1 := hsp (a.toNat) (by omega)
  refine lv_aload_n hx hb dX1_addSpan_14 rfl (lv_at hl 0 rfl) ?_
  refine r_get (θ := θ) (C := RX1) (T := TX1) (N := 8) (ci := 7) hx hb hts gwX1 hown hK ho rfl 1 (by decide) k74 (fun _ h => h) (v := .ref (u 2)) rfl dX1_addSpan_15 ?_
  refine lv_iload_n hx hb dX1_addSpan_18 rfl (lv_at hl 2 rfl) ?_
  refine r_iald (θ := θ) hx hb hK ha2 (i := b) (by omega) (by decide) dX1_addSpan_19 ?_
  have tr2 := hsp (b.toNat) (by omega)
  refine q_add hx hb dX1_addSpan_20 ?_
  refine q_nm (fun z3 ez3 => ?_)
  refine lv_istore_n (lv' := [(3, .int (iI z3)), (0, .ref (u 0)), (1, .int (iI a)), (2, .int (iI b))]) hx hb dX1_addSpan_21 rfl hl (by decide) rfl (fun ls hl => ?_)
  refine lv_aload_n hx hb dX1_addSpan_22 rfl (lv_at hl 1 rfl) ?_
  refine r_get (θ := θ) (C := RX1) (T := TX1) (N := 8) (ci := 7) hx hb hts gwX1 hown hK ho rfl 2 (by decide) k75 (fun _ h => h) (v := .ref (u 3)) rfl dX1_addSpan_23 ?_
  refine lv_iload_n hx hb dX1_addSpan_26 rfl (lv_at hl 2 rfl) ?_
  refine r_iald (θ := θ) hx hb hK ha3 (i := a) (by omega) (by decide) dX1_addSpan_27 ?_
  have tr4 := hsp (a.toNat) (by omega)
  refine lv_aload_n hx hb dX1_addSpan_28 rfl (lv_at hl 1 rfl) ?_
  refine r_get (θ := θ) (C := RX1) (T := TX1) (N := 8) (ci := 7) hx hb hts gwX1 hown hK ho rfl 2 (by decide) k75 (fun _ h => h) (v := .ref (u 3)) rfl dX1_addSpan_29 ?_
  refine lv_iload_n hx hb dX1_addSpan_32 rfl (lv_at hl 3 rfl) ?_
  refine r_iald (θ := θ) hx hb hK ha3 (i := b) (by omega) (by decide) dX1_addSpan_33 ?_
  have tr5 := hsp (b.toNat) (by omega)
  refine q_add hx hb dX1_addSpan_34 ?_
  refine q_nm (fun z6 ez6 => ?_)
  refine lv_istore (lv' := [(4, .int (iI z6)), (3, .int (iI z3)), (0, .ref (u 0)), (1, .int (iI a)), (2, .int (iI b))]) hx hb dX1_addSpan_35 hl (by decide) rfl (fun ls hl => ?_)
  refine lv_aload_n hx hb dX1_addSpan_37 rfl (lv_at hl 2 rfl) ?_
  refine r_get (θ := θ) (C := RX1) (T := TX1) (N := 8) (ci := 7) hx hb hts gwX1 hown hK ho rfl 3 (by decide) k76 (fun _ h => h) (v := .ref (u 4)) rfl dX1_addSpan_38 ?_
  refine lv_iload_n hx hb dX1_addSpan_41 rfl (lv_at hl 3 rfl) ?_
  refine r_iald (θ := θ) hx hb hK ha4 (i := a) (by omega) (by decide) dX1_addSpan_42 ?_
  have tr7 := hsp (a.toNat) (by omega)
  refine lv_aload_n hx hb dX1_addSpan_43 rfl (lv_at hl 2 rfl) ?_
  refine r_get (θ := θ) (C := RX1) (T := TX1) (N := 8) (ci := 7) hx hb hts gwX1 hown hK ho rfl 3 (by decide) k76 (fun _ h => h) (v := .ref (u 4)) rfl dX1_addSpan_44 ?_
  refine lv_iload_n hx hb dX1_addSpan_47 rfl (lv_at hl 4 rfl) ?_
  refine r_iald (θ := θ) hx hb hK ha4 (i := b) (by omega) (by decide) dX1_addSpan_48 ?_
  have tr8 := hsp (b.toNat) (by omega)
  refine q_add hx hb dX1_addSpan_49 ?_
  refine q_nm (fun z9 ez9 => ?_)
  refine lv_istore (lv' := [(5, .int (iI z9)), (4, .int (iI z6)), (3, .int (iI z3)), (0, .ref (u 0)), (1, .int (iI a)), (2, .int (iI b))]) hx hb dX1_addSpan_50 hl (by decide) rfl (fun ls hl => ?_)
  refine lv_iload_n hx hb dX1_addSpan_52 rfl (lv_at hl 2 rfl) ?_
  refine q_sip hx hb dX1_addSpan_53 (by decide) ?_
  exact e_cT (As := [.int (iI z3), .int (iI 20000)]) (rest := []) fx hl (nno_needOfSpan θ l hl0 S0 _ hz z3 20000 (by omega) (by omega) (by omega)) dX1_addSpan_56 k854 k855 k1 k856 hd_X1_needOfSpan rfl ⟨by decide, by decide⟩ (Nat.le_of_ble_eq_true rfl) ⟨by decide, by decide⟩ ⟨by decide, by decide⟩ hS (fun _ h => h) hxt hlk (fun H1 h1 h2 => ⟨rfl, h1, h2⟩)

set_option maxHeartbeats 4000000 in
set_option maxRecDepth 100000 in
theorem no4_addSpan (θ : TH) (l : Launch) (hl0 : l.stackTraces = false) (S0 : State) (H : Heap) (u : Nat → Nat) (dt sy sm sd : Nat → Int) (bc rf kn : Int) (hw : CWR θ S0 u H dt sy sm sd bc rf kn) (a b : Int) (h_0 : -2147483648 ≤ a ∧ a < 2147483648) (h_1 : -2147483648 ≤ b ∧ b < 2147483648) (h_2 : 0 ≤ a ∧ a < 3) (h_3 : 0 ≤ b ∧ b < 3) (h_4 : -20000 ≤ sy a.toNat + sy b.toNat ∧ sy a.toNat + sy b.toNat ≤ 20000) (h_5 : ¬ (-240000 ≤ sm a.toNat + sm b.toNat ∧ sm a.toNat + sm b.toNat ≤ 240000)) : TX l yX1_addSpan cX1_addSpan 6 (some .int) 7 111 [.ref (u 0), .int (iI a), .int (iI b)] S0 H "java/lang/IllegalStateException" := by
  refine ct_of (by decide +kernel) (Nat.le_of_ble_eq_true rfl) ?_
  intro pg en s mi args below meth co ls fx hs hr hlk hxt hin hl
  subst hs
  obtain ⟨hx, hb, hml, hown, hts⟩ := id fx.1
  have hS : va_S (fun q : Nat => s.heap.size ≤ q) s.heap s.heap [] := va_S.rf
  obtain ⟨hz, hu, ⟨ho, ha1, ha2, ha3, ha4, hsb⟩, hd, hsp⟩ := id hw
  have hAB : ∀ q : Nat, (fun q : Nat => s.heap.size ≤ q) q → θ.2.2.2 ≤ q := fun q h => Nat.le_trans hz.2.1 h
  have hz0 := hz
  have hK := sz_K fx.2 hz
  refine lv_iload_n hx hb dX1_addSpan_0 rfl (lv_at hl 1 rfl) ?_
  refine c_N (As := [.int (iI a)]) (rest := []) fx hl (nok_needSpan l S0 _ a (by omega) (by omega)) dX1_addSpan_1 k671 k672 k1 k673 hd_X1_needSpan rfl ⟨by decide, by decide⟩ (Nat.le_of_ble_eq_true rfl) ⟨by dsimp only; omega, by dsimp only; omega⟩ ?_
  refine lv_iload_n hx hb dX1_addSpan_4 rfl (lv_at hl 2 rfl) ?_
  refine c_N (As := [.int (iI b)]) (rest := []) fx hl (nok_needSpan l S0 _ b (by omega) (by omega)) dX1_addSpan_5 k671 k672 k1 k673 hd_X1_needSpan rfl ⟨by decide, by decide⟩ (Nat.le_of_ble_eq_true rfl) ⟨by dsimp only; omega, by dsimp only; omega⟩ ?_
  refine lv_aload_n hx hb dX1_addSpan_8 rfl (lv_at hl 0 rfl) ?_
  refine r_get (θ := θ) (C := RX1) (T := TX1) (N := 8) (ci := 7) hx hb hts gwX1 hown hK ho rfl 1 (by decide) k74 (fun _ h => h) (v := .ref (u 2)) rfl dX1_addSpan_9 ?_
  refine lv_iload_n hx hb dX1_addSpan_12 rfl (lv_at hl 1 rfl) ?_
  refine r_iald (θ := θ) hx hb hK ha2 (i := a) (by omega) (by decide) dX1_addSpan_13 ?_
  have tr1 := hsp (a.toNat) (by omega)
  refine lv_aload_n hx hb dX1_addSpan_14 rfl (lv_at hl 0 rfl) ?_
  refine r_get (θ := θ) (C := RX1) (T := TX1) (N := 8) (ci := 7) hx hb hts gwX1 hown hK ho rfl 1 (by decide) k74 (fun _ h => h) (v := .ref (u 2)) rfl dX1_addSpan_15 ?_
  refine lv_iload_n hx hb dX1_addSpan_18 rfl (lv_at hl 2 rfl) ?_
  refine r_iald (θ := θ) hx hb hK ha2 (i := b) (by omega) (by decide) dX1_addSpan_19 ?_
  have tr2 := hsp (b.toNat) (by omega)
  refine q_add hx hb dX1_addSpan_20 ?_
  refine q_nm (fun z3 ez3 => ?_)
  refine lv_istore_n (lv' := [(3, .int (iI z3)), (0, .ref (u 0)), (1, .int (iI a)), (2, .int (iI b))]) hx hb dX1_addSpan_21 rfl hl (by decide) rfl (fun ls hl => ?_)
  refine lv_aload_n hx hb dX1_addSpan_22 rfl (lv_at hl 1 rfl) ?_
  refine r_get (θ := θ) (C := RX1) (T := TX1) (N := 8) (ci := 7) hx hb hts gwX1 hown hK ho rfl 2 (by decide) k75 (fun _ h => h) (v := .ref (u 3)) rfl dX1_addSpan_23 ?_
  refine lv_iload_n hx hb dX1_addSpan_26 rfl (lv_at hl 2 rfl) ?_
  refine r_iald (θ := θ) hx hb hK ha3 (i := a) (by omega) (by decide) dX1_addSpan_27 ?_
  have tr4 := hsp (a.toNat) (by omega)
  refine lv_aload_n hx hb dX1_addSpan_28 rfl (lv_at hl 1 rfl) ?_
  refine r_get (θ := θ) (C := RX1) (T := TX1) (N := 8) (ci := 7) hx hb hts gwX1 hown hK ho rfl 2 (by decide) k75 (fun _ h => h) (v := .ref (u 3)) rfl dX1_addSpan_29 ?_
  refine lv_iload_n hx hb dX1_addSpan_32 rfl (lv_at hl 3 rfl) ?_
  refine r_iald (θ := θ) hx hb hK ha3 (i := b) (by omega) (by decide) dX1_addSpan_33 ?_
  have tr5 := hsp (b.toNat) (by omega)
  refine q_add hx hb dX1_addSpan_34 ?_
  refine q_nm (fun z6 ez6 => ?_)
  refine lv_istore (lv' := [(4, .int (iI z6)), (3, .int (iI z3)), (0, .ref (u 0)), (1, .int (iI a)), (2, .int (iI b))]) hx hb dX1_addSpan_35 hl (by decide) rfl (fun ls hl => ?_)
  refine lv_aload_n hx hb dX1_addSpan_37 rfl (lv_at hl 2 rfl) ?_
  refine r_get (θ := θ) (C := RX1) (T := TX1) (N := 8) (ci := 7) hx hb hts gwX1 hown hK ho rfl 3 (by decide) k76 (fun _ h => h) (v := .ref (u 4)) rfl dX1_addSpan_38 ?_
  refine lv_iload_n hx hb dX1_addSpan_41 rfl (lv_at hl 3 rfl) ?_
  refine r_iald (θ := θ) hx hb hK ha4 (i := a) (by omega) (by decide) dX1_addSpan_42 ?_
  have tr7 := hsp (a.toNat) (by omega)
  refine lv_aload_n hx hb dX1_addSpan_43 rfl (lv_at hl 2 rfl) ?_
  refine r_get (θ := θ) (C := RX1) (T := TX1) (N := 8) (ci := 7) hx hb hts gwX1 hown hK ho rfl 3 (by decide) k76 (fun _ h => h) (v := .ref (u 4)) rfl dX1_addSpan_44 ?_
  refine lv_iload_n hx hb dX1_addSpan_47 rfl (lv_at hl 4 rfl) ?_
  refine r_iald (θ := θ) hx hb hK ha4 (i := b) (by omega) (by decide) dX1_addSpan_48 ?_
  have tr8 := hsp (b.toNat) (by omega)
  refine q_add hx hb dX1_addSpan_49 ?_
  refine q_nm (fun z9 ez9 => ?_)
  refine lv_istore (lv' := [(5, .int (iI z9)), (4, .int (iI z6)), (3, .int (iI z3)), (0, .ref (u 0)), (1, .int (iI a)), (2, .int (iI b))]) hx hb dX1_addSpan_50 hl (by decide) rfl (fun ls hl => ?_)
  refine lv_iload_n hx hb dX1_addSpan_52 rfl (lv_at hl 2 rfl) ?_
  refine q_sip hx hb dX1_addSpan_53 (by decide) ?_
  refine c_N (As := [.int (iI z3), .int (iI 20000)]) (rest := []) fx hl (nok_needOfSpan l S0 _ z3 20000 (by omega) (by omega) (by omega)) dX1_addSpan_56 k854 k855 k1 k856 hd_X1_needOfSpan rfl ⟨by decide, by decide⟩ (Nat.le_of_ble_eq_true rfl) ⟨by dsimp only; omega, by dsimp only; omega⟩ ?_
  refine lv_iload hx hb dX1_addSpan_59 (lv_at hl 1 rfl) ?_
  refine q_ldc (n := 240000) hx hb hown (hts _ k644) (by decide) dX1_addSpan_61 ?_
  exact e_cT (As := [.int (iI z6), .int (iI 240000)]) (rest := []) fx hl (nno_needOfSpan θ l hl0 S0 _ hz z6 240000 (by omega) (by omega) (by omega)) dX1_addSpan_63 k854 k855 k1 k856 hd_X1_needOfSpan rfl ⟨by decide, by decide⟩ (Nat.le_of_ble_eq_true rfl) ⟨by decide, by decide⟩ ⟨by decide, by decide⟩ hS (fun _ h => h) hxt hlk (fun H1 h1 h2 => ⟨rfl, h1, h2⟩)

set_option maxHeartbeats 4000000 in
set_option maxRecDepth 100000 in
theorem no5_addSpan (θ : TH) (l : Launch) (hl0 : l.stackTraces = false) (S0 : State) (H : Heap) (u : Nat → Nat) (dt sy sm sd : Nat → Int) (bc rf kn : Int) (hw : CWR θ S0 u H dt sy sm sd bc rf kn) (a b : Int) (h_0 : -2147483648 ≤ a ∧ a < 2147483648) (h_1 : -2147483648 ≤ b ∧ b < 2147483648) (h_2 : 0 ≤ a ∧ a < 3) (h_3 : 0 ≤ b ∧ b < 3) (h_4 : -20000 ≤ sy a.toNat + sy b.toNat ∧ sy a.toNat + sy b.toNat ≤ 20000) (h_5 : -240000 ≤ sm a.toNat + sm b.toNat ∧ sm a.toNat + sm b.toNat ≤ 240000) (h_6 : ¬ (-100000 ≤ sd a.toNat + sd b.toNat ∧ sd a.toNat + sd b.toNat ≤ 100000)) : TX l yX1_addSpan cX1_addSpan 6 (some .int) 7 111 [.ref (u 0), .int (iI a), .int (iI b)] S0 H "java/lang/IllegalStateException" := by
  refine ct_of (by decide +kernel) (Nat.le_of_ble_eq_true rfl) ?_
  intro pg en s mi args below meth co ls fx hs hr hlk hxt hin hl
  subst hs
  obtain ⟨hx, hb, hml, hown, hts⟩ := id fx.1
  have hS : va_S (fun q : Nat => s.heap.size ≤ q) s.heap s.heap [] := va_S.rf
  obtain ⟨hz, hu, ⟨ho, ha1, ha2, ha3, ha4, hsb⟩, hd, hsp⟩ := id hw
  have hAB : ∀ q : Nat, (fun q : Nat => s.heap.size ≤ q) q → θ.2.2.2 ≤ q := fun q h => Nat.le_trans hz.2.1 h
  have hz0 := hz
  have hK := sz_K fx.2 hz
  refine lv_iload_n hx hb dX1_addSpan_0 rfl (lv_at hl 1 rfl) ?_
  refine c_N (As := [.int (iI a)]) (rest := []) fx hl (nok_needSpan l S0 _ a (by omega) (by omega)) dX1_addSpan_1 k671 k672 k1 k673 hd_X1_needSpan rfl ⟨by decide, by decide⟩ (Nat.le_of_ble_eq_true rfl) ⟨by dsimp only; omega, by dsimp only; omega⟩ ?_
  refine lv_iload_n hx hb dX1_addSpan_4 rfl (lv_at hl 2 rfl) ?_
  refine c_N (As := [.int (iI b)]) (rest := []) fx hl (nok_needSpan l S0 _ b (by omega) (by omega)) dX1_addSpan_5 k671 k672 k1 k673 hd_X1_needSpan rfl ⟨by decide, by decide⟩ (Nat.le_of_ble_eq_true rfl) ⟨by dsimp only; omega, by dsimp only; omega⟩ ?_
  refine lv_aload_n hx hb dX1_addSpan_8 rfl (lv_at hl 0 rfl) ?_
  refine r_get (θ := θ) (C := RX1) (T := TX1) (N := 8) (ci := 7) hx hb hts gwX1 hown hK ho rfl 1 (by decide) k74 (fun _ h => h) (v := .ref (u 2)) rfl dX1_addSpan_9 ?_
  refine lv_iload_n hx hb dX1_addSpan_12 rfl (lv_at hl 1 rfl) ?_
  refine r_iald (θ := θ) hx hb hK ha2 (i := a) (by omega) (by decide) dX1_addSpan_13 ?_
  have tr1 := hsp (a.toNat) (by omega)
  refine lv_aload_n hx hb dX1_addSpan_14 rfl (lv_at hl 0 rfl) ?_
  refine r_get (θ := θ) (C := RX1) (T := TX1) (N := 8) (ci := 7) hx hb hts gwX1 hown hK ho rfl 1 (by decide) k74 (fun _ h => h) (v := .ref (u 2)) rfl dX1_addSpan_15 ?_
  refine lv_iload_n hx hb dX1_addSpan_18 rfl (lv_at hl 2 rfl) ?_
  refine r_iald (θ := θ) hx hb hK ha2 (i := b) (by omega) (by decide) dX1_addSpan_19 ?_
  have tr2 := hsp (b.toNat) (by omega)
  refine q_add hx hb dX1_addSpan_20 ?_
  refine q_nm (fun z3 ez3 => ?_)
  refine lv_istore_n (lv' := [(3, .int (iI z3)), (0, .ref (u 0)), (1, .int (iI a)), (2, .int (iI b))]) hx hb dX1_addSpan_21 rfl hl (by decide) rfl (fun ls hl => ?_)
  refine lv_aload_n hx hb dX1_addSpan_22 rfl (lv_at hl 1 rfl) ?_
  refine r_get (θ := θ) (C := RX1) (T := TX1) (N := 8) (ci := 7) hx hb hts gwX1 hown hK ho rfl 2 (by decide) k75 (fun _ h => h) (v := .ref (u 3)) rfl dX1_addSpan_23 ?_
  refine lv_iload_n hx hb dX1_addSpan_26 rfl (lv_at hl 2 rfl) ?_
  refine r_iald (θ := θ) hx hb hK ha3 (i := a) (by omega) (by decide) dX1_addSpan_27 ?_
  have tr4 := hsp (a.toNat) (by omega)
  refine lv_aload_n hx hb dX1_addSpan_28 rfl (lv_at hl 1 rfl) ?_
  refine r_get (θ := θ) (C := RX1) (T := TX1) (N := 8) (ci := 7) hx hb hts gwX1 hown hK ho rfl 2 (by decide) k75 (fun _ h => h) (v := .ref (u 3)) rfl dX1_addSpan_29 ?_
  refine lv_iload_n hx hb dX1_addSpan_32 rfl (lv_at hl 3 rfl) ?_
  refine r_iald (θ := θ) hx hb hK ha3 (i := b) (by omega) (by decide) dX1_addSpan_33 ?_
  have tr5 := hsp (b.toNat) (by omega)
  refine q_add hx hb dX1_addSpan_34 ?_
  refine q_nm (fun z6 ez6 => ?_)
  refine lv_istore (lv' := [(4, .int (iI z6)), (3, .int (iI z3)), (0, .ref (u 0)), (1, .int (iI a)), (2, .int (iI b))]) hx hb dX1_addSpan_35 hl (by decide) rfl (fun ls hl => ?_)
  refine lv_aload_n hx hb dX1_addSpan_37 rfl (lv_at hl 2 rfl) ?_
  refine r_get (θ := θ) (C := RX1) (T := TX1) (N := 8) (ci := 7) hx hb hts gwX1 hown hK ho rfl 3 (by decide) k76 (fun _ h => h) (v := .ref (u 4)) rfl dX1_addSpan_38 ?_
  refine lv_iload_n hx hb dX1_addSpan_41 rfl (lv_at hl 3 rfl) ?_
  refine r_iald (θ := θ) hx hb hK ha4 (i := a) (by omega) (by decide) dX1_addSpan_42 ?_
  have tr7 := hsp (a.toNat) (by omega)
  refine lv_aload_n hx hb dX1_addSpan_43 rfl (lv_at hl 2 rfl) ?_
  refine r_get (θ := θ) (C := RX1) (T := TX1) (N := 8) (ci := 7) hx hb hts gwX1 hown hK ho rfl 3 (by decide) k76 (fun _ h => h) (v := .ref (u 4)) rfl dX1_addSpan_44 ?_
  refine lv_iload_n hx hb dX1_addSpan_47 rfl (lv_at hl 4 rfl) ?_
  refine r_iald (θ := θ) hx hb hK ha4 (i := b) (by omega) (by decide) dX1_addSpan_48 ?_
  have tr8 := hsp (b.toNat) (by omega)
  refine q_add hx hb dX1_addSpan_49 ?_
  refine q_nm (fun z9 ez9 => ?_)
  refine lv_istore (lv' := [(5, .int (iI z9)), (4, .int (iI z6)), (3, .int (iI z3)), (0, .ref (u 0)), (1, .int (iI a)), (2, .int (iI b))]) hx hb dX1_addSpan_50 hl (by decide) rfl (fun ls hl => ?_)
  refine lv_iload_n hx hb dX1_addSpan_52 rfl (lv_at hl 2 rfl) ?_
  refine q_sip hx hb dX1_addSpan_53 (by decide) ?_
  refine c_N (As := [.int (iI z3), .int (iI 20000)]) (rest := []) fx hl (nok_needOfSpan l S0 _ z3 20000 (by omega) (by omega) (by omega)) dX1_addSpan_56 k854 k855 k1 k856 hd_X1_needOfSpan rfl ⟨by decide, by decide⟩ (Nat.le_of_ble_eq_true rfl) ⟨by dsimp only; omega, by dsimp only; omega⟩ ?_
  refine lv_iload hx hb dX1_addSpan_59 (lv_at hl 1 rfl) ?_
  refine q_ldc (n := 240000) hx hb hown (hts _ k644) (by decide) dX1_addSpan_61 ?_
  refine c_N (As := [.int (iI z6), .int (iI 240000)]) (rest := []) fx hl (nok_needOfSpan l S0 _ z6 240000 (by omega) (by omega) (by omega)) dX1_addSpan_63 k854 k855 k1 k856 hd_X1_needOfSpan rfl ⟨by decide, by decide⟩ (Nat.le_of_ble_eq_true rfl) ⟨by dsimp only; omega, by dsimp only; omega⟩ ?_
  refine lv_iload hx hb dX1_addSpan_66 (lv_at hl 0 rfl) ?_
  refine q_ldc (n := 100000) hx hb hown (hts _ k653) (by decide) dX1_addSpan_68 ?_
  exact e_cT (As := [.int (iI z9), .int (iI 100000)]) (rest := []) fx hl (nno_needOfSpan θ l hl0 S0 _ hz z9 100000 (by omega) (by omega) (by omega)) dX1_addSpan_70 k854 k855 k1 k856 hd_X1_needOfSpan rfl ⟨by decide, by decide⟩ (Nat.le_of_ble_eq_true rfl) ⟨by decide, by decide⟩ ⟨by decide, by decide⟩ hS (fun _ h => h) hxt hlk (fun H1 h1 h2 => ⟨rfl, h1, h2⟩)

set_option maxHeartbeats 4000000 in
set_option maxRecDepth 100000 in
theorem ok_act (θ : TH) (l : Launch) (hl0 : l.stackTraces = false) (S0 : State) (H : Heap) (u : Nat → Nat) (dt sy sm sd : Nat → Int) (bc rf kn : Int) (hw : CWR θ S0 u H dt sy sm sd bc rf kn) (a s1 f g n k r : Int) (h_0 : -2147483648 ≤ a ∧ a < 2147483648) (h_1 : -2147483648 ≤ s1 ∧ s1 < 2147483648) (h_2 : -2147483648 ≤ f ∧ f < 2147483648) (h_3 : -2147483648 ≤ g ∧ g < 2147483648) (h_4 : f = 0 ∨ f = 1) (h_5 : g = 0 ∨ g = 1) (h_6 : (g = 0 → n = 12 * sy s1.toNat + sm s1.toNat) ∧ (g = 1 → n = -(12 * sy s1.toNat + sm s1.toNat))) (h_7 : (g = 0 → k = sd s1.toNat) ∧ (g = 1 → k = -(sd s1.toNat))) (h_8 : (f = 1 → r = shI (dt a.toNat + k) n) ∧ (f = 0 → r = shI (dt a.toNat) n + k)) (h_9 : 0 ≤ a ∧ a < 6) (h_10 : 0 ≤ s1 ∧ s1 < 3) (h_11 : -4371587 ≤ r ∧ r ≤ 2932896) : CT l yX1_act cX1_act 9 (some .int) 5 114 0 0 [.ref (u 0), .int (iI a), .int (iI s1), .int (iI f), .int (iI g)] S0 H (fun v9 H1 => v9 = some (.int (iI r)) ∧ CW θ u H1 (up dt a.toNat r) sy sm sd (bc + 1) rf kn) (fun _ _ => False) (UA u H.size) := by
  refine ct_of (by decide +kernel) (Nat.le_of_ble_eq_true rfl) ?_
  intro pg en s mi args below meth co ls fx hs hr hlk hxt hin hl
  subst hs
  obtain ⟨hx, hb, hml, hown, hts⟩ := id fx.1
  have hS : va_S (UA u s.heap.size) s.heap s.heap [] := va_S.rf
  obtain ⟨hz, hu, ⟨ho, ha1, ha2, ha3, ha4, hsb⟩, hd, hsp⟩ := id hw
  have hAB := ua_b hu hz.2.1
  have hz0 := hz
  have hK := sz_K fx.2 hz
  have tq_s1 : (0 ≤ s1 ∧ s1 < 3) → (-20000 ≤ sy s1.toNat ∧ sy s1.toNat ≤ 20000 ∧ -240000 ≤ sm s1.toNat ∧ sm s1.toNat ≤ 240000 ∧ -100000 ≤ sd s1.toNat ∧ sd s1.toNat ≤ 100000) := fun h => hsp _ (by omega)
  refine lv_iload_n hx hb dX1_act_0 rfl (lv_at hl 1 rfl) ?_
  refine c_N (As := [.int (iI a)]) (rest := []) fx hl (nok_needPlace l S0 _ a (by omega) (by omega)) dX1_act_1 k260 k261 k1 k262 hd_X1_needPlace rfl ⟨by decide, by decide⟩ (Nat.le_of_ble_eq_true rfl) ⟨by dsimp only; omega, by dsimp only; omega⟩ ?_
  refine lv_iload_n hx hb dX1_act_4 rfl (lv_at hl 2 rfl) ?_
  refine c_N (As := [.int (iI s1)]) (rest := []) fx hl (nok_needSpan l S0 _ s1 (by omega) (by omega)) dX1_act_5 k671 k672 k1 k673 hd_X1_needSpan rfl ⟨by decide, by decide⟩ (Nat.le_of_ble_eq_true rfl) ⟨by dsimp only; omega, by dsimp only; omega⟩ ?_
  refine lv_iload hx hb dX1_act_8 (lv_at hl 4 rfl) ?_
  refine q_ieq (tgt := 17) hx hb dX1_act_10 (by decide) (by omega) (fun c1 => ?_) (fun c1 => ?_)
  · refine q_con hx hb dX1_act_17 ?_
    refine lv_istore (lv' := [(5, .int (iI 1)), (0, .ref (u 0)), (1, .int (iI a)), (2, .int (iI s1)), (3, .int (iI f)), (4, .int (iI g))]) hx hb dX1_act_18 hl (by decide) rfl (fun ls hl => ?_)
    refine lv_iload hx hb dX1_act_20 (lv_at hl 0 rfl) ?_
    refine lv_aload_n hx hb dX1_act_22 rfl (lv_at hl 1 rfl) ?_
    refine lv_iload_n hx hb dX1_act_23 rfl (lv_at hl 3 rfl) ?_
    have hcw := hw
    refine c_HV (As := [.int (iI s1)]) (rest := [.int (iI 1)]) (b := u 0) (C := RX1) fx hl (ok_monthsInAll θ l hl0 S0 _ u _ _ _ _ _ _ _ hcw s1 (by omega) (by omega)) (ob_recv hK ho rfl) dX1_act_24 k675 k677 ks6 k1 k678 hd_X1_monthsInAll rfl ⟨by decide, by decide⟩ (Nat.le_of_ble_eq_true rfl) ⟨by dsimp only; omega, by dsimp only; omega⟩ ?_
    refine q_nm (fun z2 ez2 => ?_)
    refine q_mul hx hb dX1_act_27 ?_
    refine q_as (n) (by omega) ?_
    refine lv_istore (lv' := [(6, .int (iI n)), (5, .int (iI 1)), (0, .ref (u 0)), (1, .int (iI a)), (2, .int (iI s1)), (3, .int (iI f)), (4, .int (iI g))]) hx hb dX1_act_28 hl (by decide) rfl (fun ls hl => ?_)
    refine lv_iload hx hb dX1_act_30 (lv_at hl 1 rfl) ?_
    refine lv_aload_n hx hb dX1_act_32 rfl (lv_at hl 2 rfl) ?_
    refine r_get (θ := θ) (C := RX1) (T := TX1) (N := 8) (ci := 7) hx hb hts gwX1 hown hK ho rfl 3 (by decide) k76 (fun _ h => h) (v := .ref (u 4)) rfl dX1_act_33 ?_
    refine lv_iload_n hx hb dX1_act_36 rfl (lv_at hl 4 rfl) ?_
    refine r_iald (θ := θ) hx hb hK ha4 (i := s1) (by omega) (by decide) dX1_act_37 ?_
    have tr3 := hsp (s1.toNat) (by omega)
    refine q_mul hx hb dX1_act_38 ?_
    refine q_as (k) (by omega) ?_
    refine lv_istore (lv' := [(7, .int (iI k)), (6, .int (iI n)), (5, .int (iI 1)), (0, .ref (u 0)), (1, .int (iI a)), (2, .int (iI s1)), (3, .int (iI f)), (4, .int (iI g))]) hx hb dX1_act_39 hl (by decide) rfl (fun ls hl => ?_)
    refine lv_iload_n hx hb dX1_act_41 rfl (lv_at hl 6 rfl) ?_
    refine q_ieq (tgt := 61) hx hb dX1_act_42 (by decide) (by omega) (fun c4 => ?_) (fun c4 => ?_)
    · refine lv_aload_n hx hb dX1_act_61 rfl (lv_at hl 3 rfl) ?_
      refine r_get (θ := θ) (C := RX1) (T := TX1) (N := 8) (ci := 7) hx hb hts gwX1 hown hK ho rfl 0 (by decide) k73 (fun _ h => h) (v := .ref (u 1)) rfl dX1_act_62 ?_
      refine lv_iload_n hx hb dX1_act_65 rfl (lv_at hl 4 rfl) ?_
      refine r_iald (θ := θ) hx hb hK ha1 (i := a) (by omega) (by decide) dX1_act_66 ?_
      have tr5 := hd (a.toNat) (by omega)
      refine lv_iload hx hb dX1_act_67 (lv_at hl 1 rfl) ?_
      refine lv_iload hx hb dX1_act_69 (lv_at hl 0 rfl) ?_
      refine c_P (As := [.int (iI (dt a.toNat)), .int (iI n), .int (iI k)]) (rest := []) fx hl (pm_X0_monthsFirst l (dt a.toNat) n k (by omega) (by omega)) dX1_act_71 k657 k160 k13 k161 hd_X0_monthsFirst rfl ⟨by decide, by decide⟩ (Nat.le_of_ble_eq_true rfl) ⟨by omega, by omega⟩ ?_
      refine q_nm (fun z6 ez6 => ?_)
      have t0z6 := shI_bd (dt a.toNat) n
      refine q_as (r) (by omega) ?_
      refine lv_istore (lv' := [(8, .int (iI r)), (7, .int (iI k)), (6, .int (iI n)), (5, .int (iI 1)), (0, .ref (u 0)), (1, .int (iI a)), (2, .int (iI s1)), (3, .int (iI f)), (4, .int (iI g))]) hx hb dX1_act_74 hl (by decide) rfl (fun ls hl => ?_)
      refine lv_iload hx hb dX1_act_76 (lv_at hl 0 rfl) ?_
      refine c_N (As := [.int (iI r)]) (rest := []) fx hl (nok_needDate l S0 _ r (by omega) (by omega)) dX1_act_78 k784 k785 k1 k786 hd_X1_needDate rfl ⟨by decide, by decide⟩ (Nat.le_of_ble_eq_true rfl) ⟨by dsimp only; omega, by dsimp only; omega⟩ ?_
      refine lv_aload_n hx hb dX1_act_81 rfl (lv_at hl 4 rfl) ?_
      refine lv_iload_n hx hb dX1_act_82 rfl (lv_at hl 5 rfl) ?_
      refine lv_iload hx hb dX1_act_83 (lv_at hl 0 rfl) ?_
      have hcw := hw
      refine c_W (As := [.int (iI a), .int (iI r)]) (rest := []) (b := u 0) (C := RX1) fx hl (ok_put θ l hl0 S0 _ u _ _ _ _ _ _ _ hcw a r (by omega) (by omega) (by omega)) (ob_recv hK ho rfl) dX1_act_85 k723 k725 ks7 k1 k726 hd_X1_put rfl ⟨by decide, by decide⟩ (Nat.le_of_ble_eq_true rfl) ⟨by dsimp only; omega, by dsimp only; omega⟩ hS (fun q h => h.elim Or.inl (fun h => Or.inr (Nat.le_trans hS.1 h))) (fun H7 locs hwH7 hszH7 hkH7 hS => ?_)
      obtain ⟨hoH7, ha1H7, ha2H7, ha3H7, ha4H7, hsbH7⟩ := hwH7
      have hzH7 := hz0.at hAB hS
      first | exact e_i hx hb hr hlk hS dX1_act_88 (Nat.le_refl _) (Nat.le_refl _) ⟨ex_i (by omega), by first | exact ⟨hoH7, ha1H7, ha2H7, ha3H7, ha4H7, hsbH7⟩ | (subst_vars; exact ⟨hoH7, ha1H7, ha2H7, ha3H7, ha4H7, hsbH7⟩)⟩ | exact (show False by omega).elim
    · refine lv_aload_n hx hb dX1_act_45 rfl (lv_at hl 3 rfl) ?_
      refine r_get (θ := θ) (C := RX1) (T := TX1) (N := 8) (ci := 7) hx hb hts gwX1 hown hK ho rfl 0 (by decide) k73 (fun _ h => h) (v := .ref (u 1)) rfl dX1_act_46 ?_
      refine lv_iload_n hx hb dX1_act_49 rfl (lv_at hl 4 rfl) ?_
      refine r_iald (θ := θ) hx hb hK ha1 (i := a) (by omega) (by decide) dX1_act_50 ?_
      have tr8 := hd (a.toNat) (by omega)
      refine lv_iload hx hb dX1_act_51 (lv_at hl 1 rfl) ?_
      refine lv_iload hx hb dX1_act_53 (lv_at hl 0 rfl) ?_
      refine c_P (As := [.int (iI (dt a.toNat)), .int (iI n), .int (iI k)]) (rest := []) fx hl (pm_X0_daysFirst l (dt a.toNat) n k (by omega) (by omega) (by omega)) dX1_act_55 k654 k655 k13 k656 hd_X0_daysFirst rfl ⟨by decide, by decide⟩ (Nat.le_of_ble_eq_true rfl) ⟨by omega, by omega⟩ ?_
      have t0z9 := shI_bd ((dt a.toNat) + k) n
      refine lv_goto (tgt := 74) hx hb dX1_act_58 (by decide) ?_
      refine q_as (r) (by omega) ?_
      refine lv_istore (lv' := [(8, .int (iI r)), (7, .int (iI k)), (6, .int (iI n)), (5, .int (iI 1)), (0, .ref (u 0)), (1, .int (iI a)), (2, .int (iI s1)), (3, .int (iI f)), (4, .int (iI g))]) hx hb dX1_act_74 hl (by decide) rfl (fun ls hl => ?_)
      refine lv_iload hx hb dX1_act_76 (lv_at hl 0 rfl) ?_
      refine c_N (As := [.int (iI r)]) (rest := []) fx hl (nok_needDate l S0 _ r (by omega) (by omega)) dX1_act_78 k784 k785 k1 k786 hd_X1_needDate rfl ⟨by decide, by decide⟩ (Nat.le_of_ble_eq_true rfl) ⟨by dsimp only; omega, by dsimp only; omega⟩ ?_
      refine lv_aload_n hx hb dX1_act_81 rfl (lv_at hl 4 rfl) ?_
      refine lv_iload_n hx hb dX1_act_82 rfl (lv_at hl 5 rfl) ?_
      refine lv_iload hx hb dX1_act_83 (lv_at hl 0 rfl) ?_
      have hcw := hw
      refine c_W (As := [.int (iI a), .int (iI r)]) (rest := []) (b := u 0) (C := RX1) fx hl (ok_put θ l hl0 S0 _ u _ _ _ _ _ _ _ hcw a r (by omega) (by omega) (by omega)) (ob_recv hK ho rfl) dX1_act_85 k723 k725 ks7 k1 k726 hd_X1_put rfl ⟨by decide, by decide⟩ (Nat.le_of_ble_eq_true rfl) ⟨by dsimp only; omega, by dsimp only; omega⟩ hS (fun q h => h.elim Or.inl (fun h => Or.inr (Nat.le_trans hS.1 h))) (fun H10 locs hwH10 hszH10 hkH10 hS => ?_)
      obtain ⟨hoH10, ha1H10, ha2H10, ha3H10, ha4H10, hsbH10⟩ := hwH10
      have hzH10 := hz0.at hAB hS
      first | exact e_i hx hb hr hlk hS dX1_act_88 (Nat.le_refl _) (Nat.le_refl _) ⟨ex_i (by omega), by first | exact ⟨hoH10, ha1H10, ha2H10, ha3H10, ha4H10, hsbH10⟩ | (subst_vars; exact ⟨hoH10, ha1H10, ha2H10, ha3H10, ha4H10, hsbH10⟩)⟩ | exact (show False by omega).elim
  · refine q_con hx hb dX1_act_13 ?_
    refine lv_goto (tgt := 18) hx hb dX1_act_14 (by decide) ?_
    refine lv_istore (lv' := [(5, .int (iI (-1))), (0, .ref (u 0)), (1, .int (iI a)), (2, .int (iI s1)), (3, .int (iI f)), (4, .int (iI g))]) hx hb dX1_act_18 hl (by decide) rfl (fun ls hl => ?_)
    refine lv_iload hx hb dX1_act_20 (lv_at hl 0 rfl) ?_
    refine lv_aload_n hx hb dX1_act_22 rfl (lv_at hl 1 rfl) ?_
    refine lv_iload_n hx hb dX1_act_23 rfl (lv_at hl 3 rfl) ?_
    have hcw := hw
    refine c_HV (As := [.int (iI s1)]) (rest := [.int (iI (-1))]) (b := u 0) (C := RX1) fx hl (ok_monthsInAll θ l hl0 S0 _ u _ _ _ _ _ _ _ hcw s1 (by omega) (by omega)) (ob_recv hK ho rfl) dX1_act_24 k675 k677 ks6 k1 k678 hd_X1_monthsInAll rfl ⟨by decide, by decide⟩ (Nat.le_of_ble_eq_true rfl) ⟨by dsimp only; omega, by dsimp only; omega⟩ ?_
    refine q_nm (fun z11 ez11 => ?_)
    refine q_mul hx hb dX1_act_27 ?_
    refine q_as (n) (by omega) ?_
    refine lv_istore (lv' := [(6, .int (iI n)), (5, .int (iI (-1))), (0, .ref (u 0)), (1, .int (iI a)), (2, .int (iI s1)), (3, .int (iI f)), (4, .int (iI g))]) hx hb dX1_act_28 hl (by decide) rfl (fun ls hl => ?_)
    refine lv_iload hx hb dX1_act_30 (lv_at hl 1 rfl) ?_
    refine lv_aload_n hx hb dX1_act_32 rfl (lv_at hl 2 rfl) ?_
    refine r_get (θ := θ) (C := RX1) (T := TX1) (N := 8) (ci := 7) hx hb hts gwX1 hown hK ho rfl 3 (by decide) k76 (fun _ h => h) (v := .ref (u 4)) rfl dX1_act_33 ?_
    refine lv_iload_n hx hb dX1_act_36 rfl (lv_at hl 4 rfl) ?_
    refine r_iald (θ := θ) hx hb hK ha4 (i := s1) (by omega) (by decide) dX1_act_37 ?_
    have tr12 := hsp (s1.toNat) (by omega)
    refine q_mul hx hb dX1_act_38 ?_
    refine q_as (k) (by omega) ?_
    refine lv_istore (lv' := [(7, .int (iI k)), (6, .int (iI n)), (5, .int (iI (-1))), (0, .ref (u 0)), (1, .int (iI a)), (2, .int (iI s1)), (3, .int (iI f)), (4, .int (iI g))]) hx hb dX1_act_39 hl (by decide) rfl (fun ls hl => ?_)
    refine lv_iload_n hx hb dX1_act_41 rfl (lv_at hl 6 rfl) ?_
    refine q_ieq (tgt := 61) hx hb dX1_act_42 (by decide) (by omega) (fun c13 => ?_) (fun c13 => ?_)
    · refine lv_aload_n hx hb dX1_act_61 rfl (lv_at hl 3 rfl) ?_
      refine r_get (θ := θ) (C := RX1) (T := TX1) (N := 8) (ci := 7) hx hb hts gwX1 hown hK ho rfl 0 (by decide) k73 (fun _ h => h) (v := .ref (u 1)) rfl dX1_act_62 ?_
      refine lv_iload_n hx hb dX1_act_65 rfl (lv_at hl 4 rfl) ?_
      refine r_iald (θ := θ) hx hb hK ha1 (i := a) (by omega) (by decide) dX1_act_66 ?_
      have tr14 := hd (a.toNat) (by omega)
      refine lv_iload hx hb dX1_act_67 (lv_at hl 1 rfl) ?_
      refine lv_iload hx hb dX1_act_69 (lv_at hl 0 rfl) ?_
      refine c_P (As := [.int (iI (dt a.toNat)), .int (iI n), .int (iI k)]) (rest := []) fx hl (pm_X0_monthsFirst l (dt a.toNat) n k (by omega) (by omega)) dX1_act_71 k657 k160 k13 k161 hd_X0_monthsFirst rfl ⟨by decide, by decide⟩ (Nat.le_of_ble_eq_true rfl) ⟨by omega, by omega⟩ ?_
      refine q_nm (fun z15 ez15 => ?_)
      have t0z15 := shI_bd (dt a.toNat) n
      refine q_as (r) (by omega) ?_
      refine lv_istore (lv' := [(8, .int (iI r)), (7, .int (iI k)), (6, .int (iI n)), (5, .int (iI (-1))), (0, .ref (u 0)), (1, .int (iI a)), (2, .int (iI s1)), (3, .int (iI f)), (4, .int (iI g))]) hx hb dX1_act_74 hl (by decide) rfl (fun ls hl => ?_)
      refine lv_iload hx hb dX1_act_76 (lv_at hl 0 rfl) ?_
      refine c_N (As := [.int (iI r)]) (rest := []) fx hl (nok_needDate l S0 _ r (by omega) (by omega)) dX1_act_78 k784 k785 k1 k786 hd_X1_needDate rfl ⟨by decide, by decide⟩ (Nat.le_of_ble_eq_true rfl) ⟨by dsimp only; omega, by dsimp only; omega⟩ ?_
      refine lv_aload_n hx hb dX1_act_81 rfl (lv_at hl 4 rfl) ?_
      refine lv_iload_n hx hb dX1_act_82 rfl (lv_at hl 5 rfl) ?_
      refine lv_iload hx hb dX1_act_83 (lv_at hl 0 rfl) ?_
      have hcw := hw
      refine c_W (As := [.int (iI a), .int (iI r)]) (rest := []) (b := u 0) (C := RX1) fx hl (ok_put θ l hl0 S0 _ u _ _ _ _ _ _ _ hcw a r (by omega) (by omega) (by omega)) (ob_recv hK ho rfl) dX1_act_85 k723 k725 ks7 k1 k726 hd_X1_put rfl ⟨by decide, by decide⟩ (Nat.le_of_ble_eq_true rfl) ⟨by dsimp only; omega, by dsimp only; omega⟩ hS (fun q h => h.elim Or.inl (fun h => Or.inr (Nat.le_trans hS.1 h))) (fun H16 locs hwH16 hszH16 hkH16 hS => ?_)
      obtain ⟨hoH16, ha1H16, ha2H16, ha3H16, ha4H16, hsbH16⟩ := hwH16
      have hzH16 := hz0.at hAB hS
      first | exact e_i hx hb hr hlk hS dX1_act_88 (Nat.le_refl _) (Nat.le_refl _) ⟨ex_i (by omega), by first | exact ⟨hoH16, ha1H16, ha2H16, ha3H16, ha4H16, hsbH16⟩ | (subst_vars; exact ⟨hoH16, ha1H16, ha2H16, ha3H16, ha4H16, hsbH16⟩)⟩ | exact (show False by omega).elim
    · refine lv_aload_n hx hb dX1_act_45 rfl (lv_at hl 3 rfl) ?_
      refine r_get (θ := θ) (C := RX1) (T := TX1) (N := 8) (ci := 7) hx hb hts gwX1 hown hK ho rfl 0 (by decide) k73 (fun _ h => h) (v := .ref (u 1)) rfl dX1_act_46 ?_
      refine lv_iload_n hx hb dX1_act_49 rfl (lv_at hl 4 rfl) ?_
      refine r_iald (θ := θ) hx hb hK ha1 (i := a) (by omega) (by decide) dX1_act_50 ?_
      have tr17 := hd (a.toNat) (by omega)
      refine lv_iload hx hb dX1_act_51 (lv_at hl 1 rfl) ?_
      refine lv_iload hx hb dX1_act_53 (lv_at hl 0 rfl) ?_
      refine c_P (As := [.int (iI (dt a.toNat)), .int (iI n), .int (iI k)]) (rest := []) fx hl (pm_X0_daysFirst l (dt a.toNat) n k (by omega) (by omega) (by omega)) dX1_act_55 k654 k655 k13 k656 hd_X0_daysFirst rfl ⟨by decide, by decide⟩ (Nat.le_of_ble_eq_true rfl) ⟨by omega, by omega⟩ ?_
      have t0z18 := shI_bd ((dt a.toNat) + k) n
      refine lv_goto (tgt := 74) hx hb dX1_act_58 (by decide) ?_
      refine q_as (r) (by omega) ?_
      refine lv_istore (lv' := [(8, .int (iI r)), (7, .int (iI k)), (6, .int (iI n)), (5, .int (iI (-1))), (0, .ref (u 0)), (1, .int (iI a)), (2, .int (iI s1)), (3, .int (iI f)), (4, .int (iI g))]) hx hb dX1_act_74 hl (by decide) rfl (fun ls hl => ?_)
      refine lv_iload hx hb dX1_act_76 (lv_at hl 0 rfl) ?_
      refine c_N (As := [.int (iI r)]) (rest := []) fx hl (nok_needDate l S0 _ r (by omega) (by omega)) dX1_act_78 k784 k785 k1 k786 hd_X1_needDate rfl ⟨by decide, by decide⟩ (Nat.le_of_ble_eq_true rfl) ⟨by dsimp only; omega, by dsimp only; omega⟩ ?_
      refine lv_aload_n hx hb dX1_act_81 rfl (lv_at hl 4 rfl) ?_
      refine lv_iload_n hx hb dX1_act_82 rfl (lv_at hl 5 rfl) ?_
      refine lv_iload hx hb dX1_act_83 (lv_at hl 0 rfl) ?_
      have hcw := hw
      refine c_W (As := [.int (iI a), .int (iI r)]) (rest := []) (b := u 0) (C := RX1) fx hl (ok_put θ l hl0 S0 _ u _ _ _ _ _ _ _ hcw a r (by omega) (by omega) (by omega)) (ob_recv hK ho rfl) dX1_act_85 k723 k725 ks7 k1 k726 hd_X1_put rfl ⟨by decide, by decide⟩ (Nat.le_of_ble_eq_true rfl) ⟨by dsimp only; omega, by dsimp only; omega⟩ hS (fun q h => h.elim Or.inl (fun h => Or.inr (Nat.le_trans hS.1 h))) (fun H19 locs hwH19 hszH19 hkH19 hS => ?_)
      obtain ⟨hoH19, ha1H19, ha2H19, ha3H19, ha4H19, hsbH19⟩ := hwH19
      have hzH19 := hz0.at hAB hS
      first | exact e_i hx hb hr hlk hS dX1_act_88 (Nat.le_refl _) (Nat.le_refl _) ⟨ex_i (by omega), by first | exact ⟨hoH19, ha1H19, ha2H19, ha3H19, ha4H19, hsbH19⟩ | (subst_vars; exact ⟨hoH19, ha1H19, ha2H19, ha3H19, ha4H19, hsbH19⟩)⟩ | exact (show False by omega).elim

set_option maxHeartbeats 4000000 in
set_option maxRecDepth 100000 in
theorem no1_act (θ : TH) (l : Launch) (hl0 : l.stackTraces = false) (S0 : State) (H : Heap) (u : Nat → Nat) (dt sy sm sd : Nat → Int) (bc rf kn : Int) (hw : CWR θ S0 u H dt sy sm sd bc rf kn) (a s1 f g n k r : Int) (h_0 : -2147483648 ≤ a ∧ a < 2147483648) (h_1 : -2147483648 ≤ s1 ∧ s1 < 2147483648) (h_2 : -2147483648 ≤ f ∧ f < 2147483648) (h_3 : -2147483648 ≤ g ∧ g < 2147483648) (h_4 : f = 0 ∨ f = 1) (h_5 : g = 0 ∨ g = 1) (h_6 : (g = 0 → n = 12 * sy s1.toNat + sm s1.toNat) ∧ (g = 1 → n = -(12 * sy s1.toNat + sm s1.toNat))) (h_7 : (g = 0 → k = sd s1.toNat) ∧ (g = 1 → k = -(sd s1.toNat))) (h_8 : (f = 1 → r = shI (dt a.toNat + k) n) ∧ (f = 0 → r = shI (dt a.toNat) n + k)) (h_9 : ¬ (0 ≤ a ∧ a < 6)) : TX l yX1_act cX1_act 9 (some .int) 7 110 [.ref (u 0), .int (iI a), .int (iI s1), .int (iI f), .int (iI g)] S0 H "java/lang/IndexOutOfBoundsException" := by
  refine ct_of (by decide +kernel) (Nat.le_of_ble_eq_true rfl) ?_
  intro pg en s mi args below meth co ls fx hs hr hlk hxt hin hl
  subst hs
  obtain ⟨hx, hb, hml, hown, hts⟩ := id fx.1
  have hS : va_S (fun q : Nat => s.heap.size ≤ q) s.heap s.heap [] := va_S.rf
  obtain ⟨hz, hu, ⟨ho, ha1, ha2, ha3, ha4, hsb⟩, hd, hsp⟩ := id hw
  have hAB : ∀ q : Nat, (fun q : Nat => s.heap.size ≤ q) q → θ.2.2.2 ≤ q := fun q h => Nat.le_trans hz.2.1 h
  have hz0 := hz
  have hK := sz_K fx.2 hz
  have tq_s1 : (0 ≤ s1 ∧ s1 < 3) → (-20000 ≤ sy s1.toNat ∧ sy s1.toNat ≤ 20000 ∧ -240000 ≤ sm s1.toNat ∧ sm s1.toNat ≤ 240000 ∧ -100000 ≤ sd s1.toNat ∧ sd s1.toNat ≤ 100000) := fun h => hsp _ (by omega)
  refine lv_iload_n hx hb dX1_act_0 rfl (lv_at hl 1 rfl) ?_
  exact e_cT (As := [.int (iI a)]) (rest := []) fx hl (nno_needPlace θ l hl0 S0 _ hz a (by omega) (by omega)) dX1_act_1 k260 k261 k1 k262 hd_X1_needPlace rfl ⟨by decide, by decide⟩ (Nat.le_of_ble_eq_true rfl) ⟨by decide, by decide⟩ ⟨by decide, by decide⟩ hS (fun _ h => h) hxt hlk (fun H1 h1 h2 => ⟨rfl, h1, h2⟩)

set_option maxHeartbeats 4000000 in
set_option maxRecDepth 100000 in
theorem no2_act (θ : TH) (l : Launch) (hl0 : l.stackTraces = false) (S0 : State) (H : Heap) (u : Nat → Nat) (dt sy sm sd : Nat → Int) (bc rf kn : Int) (hw : CWR θ S0 u H dt sy sm sd bc rf kn) (a s1 f g n k r : Int) (h_0 : -2147483648 ≤ a ∧ a < 2147483648) (h_1 : -2147483648 ≤ s1 ∧ s1 < 2147483648) (h_2 : -2147483648 ≤ f ∧ f < 2147483648) (h_3 : -2147483648 ≤ g ∧ g < 2147483648) (h_4 : f = 0 ∨ f = 1) (h_5 : g = 0 ∨ g = 1) (h_6 : (g = 0 → n = 12 * sy s1.toNat + sm s1.toNat) ∧ (g = 1 → n = -(12 * sy s1.toNat + sm s1.toNat))) (h_7 : (g = 0 → k = sd s1.toNat) ∧ (g = 1 → k = -(sd s1.toNat))) (h_8 : (f = 1 → r = shI (dt a.toNat + k) n) ∧ (f = 0 → r = shI (dt a.toNat) n + k)) (h_9 : 0 ≤ a ∧ a < 6) (h_10 : ¬ (0 ≤ s1 ∧ s1 < 3)) : TX l yX1_act cX1_act 9 (some .int) 7 110 [.ref (u 0), .int (iI a), .int (iI s1), .int (iI f), .int (iI g)] S0 H "java/lang/IndexOutOfBoundsException" := by
  refine ct_of (by decide +kernel) (Nat.le_of_ble_eq_true rfl) ?_
  intro pg en s mi args below meth co ls fx hs hr hlk hxt hin hl
  subst hs
  obtain ⟨hx, hb, hml, hown, hts⟩ := id fx.1
  have hS : va_S (fun q : Nat => s.heap.size ≤ q) s.heap s.heap [] := va_S.rf
  obtain ⟨hz, hu, ⟨ho, ha1, ha2, ha3, ha4, hsb⟩, hd, hsp⟩ := id hw
  have hAB : ∀ q : Nat, (fun q : Nat => s.heap.size ≤ q) q → θ.2.2.2 ≤ q := fun q h => Nat.le_trans hz.2.1 h
  have hz0 := hz
  have hK := sz_K fx.2 hz
  have tq_s1 : (0 ≤ s1 ∧ s1 < 3) → (-20000 ≤ sy s1.toNat ∧ sy s1.toNat ≤ 20000 ∧ -240000 ≤ sm s1.toNat ∧ sm s1.toNat ≤ 240000 ∧ -100000 ≤ sd s1.toNat ∧ sd s1.toNat ≤ 100000) := fun h => hsp _ (by omega)
  refine lv_iload_n hx hb dX1_act_0 rfl (lv_at hl 1 rfl) ?_
  refine c_N (As := [.int (iI a)]) (rest := []) fx hl (nok_needPlace l S0 _ a (by omega) (by omega)) dX1_act_1 k260 k261 k1 k262 hd_X1_needPlace rfl ⟨by decide, by decide⟩ (Nat.le_of_ble_eq_true rfl) ⟨by dsimp only; omega, by dsimp only; omega⟩ ?_
  refine lv_iload_n hx hb dX1_act_4 rfl (lv_at hl 2 rfl) ?_
  exact e_cT (As := [.int (iI s1)]) (rest := []) fx hl (nno_needSpan θ l hl0 S0 _ hz s1 (by omega) (by omega)) dX1_act_5 k671 k672 k1 k673 hd_X1_needSpan rfl ⟨by decide, by decide⟩ (Nat.le_of_ble_eq_true rfl) ⟨by decide, by decide⟩ ⟨by decide, by decide⟩ hS (fun _ h => h) hxt hlk (fun H1 h1 h2 => ⟨rfl, h1, h2⟩)

set_option maxHeartbeats 4000000 in
set_option maxRecDepth 100000 in
theorem no3_act (θ : TH) (l : Launch) (hl0 : l.stackTraces = false) (S0 : State) (H : Heap) (u : Nat → Nat) (dt sy sm sd : Nat → Int) (bc rf kn : Int) (hw : CWR θ S0 u H dt sy sm sd bc rf kn) (a s1 f g n k r : Int) (h_0 : -2147483648 ≤ a ∧ a < 2147483648) (h_1 : -2147483648 ≤ s1 ∧ s1 < 2147483648) (h_2 : -2147483648 ≤ f ∧ f < 2147483648) (h_3 : -2147483648 ≤ g ∧ g < 2147483648) (h_4 : f = 0 ∨ f = 1) (h_5 : g = 0 ∨ g = 1) (h_6 : (g = 0 → n = 12 * sy s1.toNat + sm s1.toNat) ∧ (g = 1 → n = -(12 * sy s1.toNat + sm s1.toNat))) (h_7 : (g = 0 → k = sd s1.toNat) ∧ (g = 1 → k = -(sd s1.toNat))) (h_8 : (f = 1 → r = shI (dt a.toNat + k) n) ∧ (f = 0 → r = shI (dt a.toNat) n + k)) (h_9 : 0 ≤ a ∧ a < 6) (h_10 : 0 ≤ s1 ∧ s1 < 3) (h_11 : ¬ (-4371587 ≤ r ∧ r ≤ 2932896)) : TX l yX1_act cX1_act 9 (some .int) 7 114 [.ref (u 0), .int (iI a), .int (iI s1), .int (iI f), .int (iI g)] S0 H "java/lang/IllegalStateException" := by
  refine ct_of (by decide +kernel) (Nat.le_of_ble_eq_true rfl) ?_
  intro pg en s mi args below meth co ls fx hs hr hlk hxt hin hl
  subst hs
  obtain ⟨hx, hb, hml, hown, hts⟩ := id fx.1
  have hS : va_S (fun q : Nat => s.heap.size ≤ q) s.heap s.heap [] := va_S.rf
  obtain ⟨hz, hu, ⟨ho, ha1, ha2, ha3, ha4, hsb⟩, hd, hsp⟩ := id hw
  have hAB : ∀ q : Nat, (fun q : Nat => s.heap.size ≤ q) q → θ.2.2.2 ≤ q := fun q h => Nat.le_trans hz.2.1 h
  have hz0 := hz
  have hK := sz_K fx.2 hz
  have tq_s1 : (0 ≤ s1 ∧ s1 < 3) → (-20000 ≤ sy s1.toNat ∧ sy s1.toNat ≤ 20000 ∧ -240000 ≤ sm s1.toNat ∧ sm s1.toNat ≤ 240000 ∧ -100000 ≤ sd s1.toNat ∧ sd s1.toNat ≤ 100000) := fun h => hsp _ (by omega)
  refine lv_iload_n hx hb dX1_act_0 rfl (lv_at hl 1 rfl) ?_
  refine c_N (As := [.int (iI a)]) (rest := []) fx hl (nok_needPlace l S0 _ a (by omega) (by omega)) dX1_act_1 k260 k261 k1 k262 hd_X1_needPlace rfl ⟨by decide, by decide⟩ (Nat.le_of_ble_eq_true rfl) ⟨by dsimp only; omega, by dsimp only; omega⟩ ?_
  refine lv_iload_n hx hb dX1_act_4 rfl (lv_at hl 2 rfl) ?_
  refine c_N (As := [.int (iI s1)]) (rest := []) fx hl (nok_needSpan l S0 _ s1 (by omega) (by omega)) dX1_act_5 k671 k672 k1 k673 hd_X1_needSpan rfl ⟨by decide, by decide⟩ (Nat.le_of_ble_eq_true rfl) ⟨by dsimp only; omega, by dsimp only; omega⟩ ?_
  refine lv_iload hx hb dX1_act_8 (lv_at hl 4 rfl) ?_
  refine q_ieq (tgt := 17) hx hb dX1_act_10 (by decide) (by omega) (fun c1 => ?_) (fun c1 => ?_)
  · refine q_con hx hb dX1_act_17 ?_
    refine lv_istore (lv' := [(5, .int (iI 1)), (0, .ref (u 0)), (1, .int (iI a)), (2, .int (iI s1)), (3, .int (iI f)), (4, .int (iI g))]) hx hb dX1_act_18 hl (by decide) rfl (fun ls hl => ?_)
    refine lv_iload hx hb dX1_act_20 (lv_at hl 0 rfl) ?_
    refine lv_aload_n hx hb dX1_act_22 rfl (lv_at hl 1 rfl) ?_
    refine lv_iload_n hx hb dX1_act_23 rfl (lv_at hl 3 rfl) ?_
    have hcw := hw
    refine c_HV (As := [.int (iI s1)]) (rest := [.int (iI 1)]) (b := u 0) (C := RX1) fx hl (ok_monthsInAll θ l hl0 S0 _ u _ _ _ _ _ _ _ hcw s1 (by omega) (by omega)) (ob_recv hK ho rfl) dX1_act_24 k675 k677 ks6 k1 k678 hd_X1_monthsInAll rfl ⟨by decide, by decide⟩ (Nat.le_of_ble_eq_true rfl) ⟨by dsimp only; omega, by dsimp only; omega⟩ ?_
    refine q_nm (fun z2 ez2 => ?_)
    refine q_mul hx hb dX1_act_27 ?_
    refine q_as (n) (by omega) ?_
    refine lv_istore (lv' := [(6, .int (iI n)), (5, .int (iI 1)), (0, .ref (u 0)), (1, .int (iI a)), (2, .int (iI s1)), (3, .int (iI f)), (4, .int (iI g))]) hx hb dX1_act_28 hl (by decide) rfl (fun ls hl => ?_)
    refine lv_iload hx hb dX1_act_30 (lv_at hl 1 rfl) ?_
    refine lv_aload_n hx hb dX1_act_32 rfl (lv_at hl 2 rfl) ?_
    refine r_get (θ := θ) (C := RX1) (T := TX1) (N := 8) (ci := 7) hx hb hts gwX1 hown hK ho rfl 3 (by decide) k76 (fun _ h => h) (v := .ref (u 4)) rfl dX1_act_33 ?_
    refine lv_iload_n hx hb dX1_act_36 rfl (lv_at hl 4 rfl) ?_
    refine r_iald (θ := θ) hx hb hK ha4 (i := s1) (by omega) (by decide) dX1_act_37 ?_
    have tr3 := hsp (s1.toNat) (by omega)
    refine q_mul hx hb dX1_act_38 ?_
    refine q_as (k) (by omega) ?_
    refine lv_istore (lv' := [(7, .int (iI k)), (6, .int (iI n)), (5, .int (iI 1)), (0, .ref (u 0)), (1, .int (iI a)), (2, .int (iI s1)), (3, .int (iI f)), (4, .int (iI g))]) hx hb dX1_act_39 hl (by decide) rfl (fun ls hl => ?_)
    refine lv_iload_n hx hb dX1_act_41 rfl (lv_at hl 6 rfl) ?_
    refine q_ieq (tgt := 61) hx hb dX1_act_42 (by decide) (by omega) (fun c4 => ?_) (fun c4 => ?_)
    · refine lv_aload_n hx hb dX1_act_61 rfl (lv_at hl 3 rfl) ?_
      refine r_get (θ := θ) (C := RX1) (T := TX1) (N := 8) (ci := 7) hx hb hts gwX1 hown hK ho rfl 0 (by decide) k73 (fun _ h => h) (v := .ref (u 1)) rfl dX1_act_62 ?_
      refine lv_iload_n hx hb dX1_act_65 rfl (lv_at hl 4 rfl) ?_
      refine r_iald (θ := θ) hx hb hK ha1 (i := a) (by omega) (by decide) dX1_act_66 ?_
      have tr5 := hd (a.toNat) (by omega)
      refine lv_iload hx hb dX1_act_67 (lv_at hl 1 rfl) ?_
      refine lv_iload hx hb dX1_act_69 (lv_at hl 0 rfl) ?_
      refine c_P (As := [.int (iI (dt a.toNat)), .int (iI n), .int (iI k)]) (rest := []) fx hl (pm_X0_monthsFirst l (dt a.toNat) n k (by omega) (by omega)) dX1_act_71 k657 k160 k13 k161 hd_X0_monthsFirst rfl ⟨by decide, by decide⟩ (Nat.le_of_ble_eq_true rfl) ⟨by omega, by omega⟩ ?_
      refine q_nm (fun z6 ez6 => ?_)
      have t0z6 := shI_bd (dt a.toNat) n
      refine q_as (r) (by omega) ?_
      refine lv_istore (lv' := [(8, .int (iI r)), (7, .int (iI k)), (6, .int (iI n)), (5, .int (iI 1)), (0, .ref (u 0)), (1, .int (iI a)), (2, .int (iI s1)), (3, .int (iI f)), (4, .int (iI g))]) hx hb dX1_act_74 hl (by decide) rfl (fun ls hl => ?_)
      refine lv_iload hx hb dX1_act_76 (lv_at hl 0 rfl) ?_
      exact e_cT (As := [.int (iI r)]) (rest := []) fx hl (nno_needDate θ l hl0 S0 _ hz r (by omega) (by omega)) dX1_act_78 k784 k785 k1 k786 hd_X1_needDate rfl ⟨by decide, by decide⟩ (Nat.le_of_ble_eq_true rfl) ⟨by decide, by decide⟩ ⟨by decide, by decide⟩ hS (fun _ h => h) hxt hlk (fun H1 h1 h2 => ⟨rfl, h1, h2⟩)
    · refine lv_aload_n hx hb dX1_act_45 rfl (lv_at hl 3 rfl) ?_
      refine r_get (θ := θ) (C := RX1) (T := TX1) (N := 8) (ci := 7) hx hb hts gwX1 hown hK ho rfl 0 (by decide) k73 (fun _ h => h) (v := .ref (u 1)) rfl dX1_act_46 ?_
      refine lv_iload_n hx hb dX1_act_49 rfl (lv_at hl 4 rfl) ?_
      refine r_iald (θ := θ) hx hb hK ha1 (i := a) (by omega) (by decide) dX1_act_50 ?_
      have tr7 := hd (a.toNat) (by omega)
      refine lv_iload hx hb dX1_act_51 (lv_at hl 1 rfl) ?_
      refine lv_iload hx hb dX1_act_53 (lv_at hl 0 rfl) ?_
      refine c_P (As := [.int (iI (dt a.toNat)), .int (iI n), .int (iI k)]) (rest := []) fx hl (pm_X0_daysFirst l (dt a.toNat) n k (by omega) (by omega) (by omega)) dX1_act_55 k654 k655 k13 k656 hd_X0_daysFirst rfl ⟨by decide, by decide⟩ (Nat.le_of_ble_eq_true rfl) ⟨by omega, by omega⟩ ?_
      have t0z8 := shI_bd ((dt a.toNat) + k) n
      refine lv_goto (tgt := 74) hx hb dX1_act_58 (by decide) ?_
      refine q_as (r) (by omega) ?_
      refine lv_istore (lv' := [(8, .int (iI r)), (7, .int (iI k)), (6, .int (iI n)), (5, .int (iI 1)), (0, .ref (u 0)), (1, .int (iI a)), (2, .int (iI s1)), (3, .int (iI f)), (4, .int (iI g))]) hx hb dX1_act_74 hl (by decide) rfl (fun ls hl => ?_)
      refine lv_iload hx hb dX1_act_76 (lv_at hl 0 rfl) ?_
      exact e_cT (As := [.int (iI r)]) (rest := []) fx hl (nno_needDate θ l hl0 S0 _ hz r (by omega) (by omega)) dX1_act_78 k784 k785 k1 k786 hd_X1_needDate rfl ⟨by decide, by decide⟩ (Nat.le_of_ble_eq_true rfl) ⟨by decide, by decide⟩ ⟨by decide, by decide⟩ hS (fun _ h => h) hxt hlk (fun H1 h1 h2 => ⟨rfl, h1, h2⟩)
  · refine q_con hx hb dX1_act_13 ?_
    refine lv_goto (tgt := 18) hx hb dX1_act_14 (by decide) ?_
    refine lv_istore (lv' := [(5, .int (iI (-1))), (0, .ref (u 0)), (1, .int (iI a)), (2, .int (iI s1)), (3, .int (iI f)), (4, .int (iI g))]) hx hb dX1_act_18 hl (by decide) rfl (fun ls hl => ?_)
    refine lv_iload hx hb dX1_act_20 (lv_at hl 0 rfl) ?_
    refine lv_aload_n hx hb dX1_act_22 rfl (lv_at hl 1 rfl) ?_
    refine lv_iload_n hx hb dX1_act_23 rfl (lv_at hl 3 rfl) ?_
    have hcw := hw
    refine c_HV (As := [.int (iI s1)]) (rest := [.int (iI (-1))]) (b := u 0) (C := RX1) fx hl (ok_monthsInAll θ l hl0 S0 _ u _ _ _ _ _ _ _ hcw s1 (by omega) (by omega)) (ob_recv hK ho rfl) dX1_act_24 k675 k677 ks6 k1 k678 hd_X1_monthsInAll rfl ⟨by decide, by decide⟩ (Nat.le_of_ble_eq_true rfl) ⟨by dsimp only; omega, by dsimp only; omega⟩ ?_
    refine q_nm (fun z9 ez9 => ?_)
    refine q_mul hx hb dX1_act_27 ?_
    refine q_as (n) (by omega) ?_
    refine lv_istore (lv' := [(6, .int (iI n)), (5, .int (iI (-1))), (0, .ref (u 0)), (1, .int (iI a)), (2, .int (iI s1)), (3, .int (iI f)), (4, .int (iI g))]) hx hb dX1_act_28 hl (by decide) rfl (fun ls hl => ?_)
    refine lv_iload hx hb dX1_act_30 (lv_at hl 1 rfl) ?_
    refine lv_aload_n hx hb dX1_act_32 rfl (lv_at hl 2 rfl) ?_
    refine r_get (θ := θ) (C := RX1) (T := TX1) (N := 8) (ci := 7) hx hb hts gwX1 hown hK ho rfl 3 (by decide) k76 (fun _ h => h) (v := .ref (u 4)) rfl dX1_act_33 ?_
    refine lv_iload_n hx hb dX1_act_36 rfl (lv_at hl 4 rfl) ?_
    refine r_iald (θ := θ) hx hb hK ha4 (i := s1) (by omega) (by decide) dX1_act_37 ?_
    have tr10 := hsp (s1.toNat) (by omega)
    refine q_mul hx hb dX1_act_38 ?_
    refine q_as (k) (by omega) ?_
    refine lv_istore (lv' := [(7, .int (iI k)), (6, .int (iI n)), (5, .int (iI (-1))), (0, .ref (u 0)), (1, .int (iI a)), (2, .int (iI s1)), (3, .int (iI f)), (4, .int (iI g))]) hx hb dX1_act_39 hl (by decide) rfl (fun ls hl => ?_)
    refine lv_iload_n hx hb dX1_act_41 rfl (lv_at hl 6 rfl) ?_
    refine q_ieq (tgt := 61) hx hb dX1_act_42 (by decide) (by omega) (fun c11 => ?_) (fun c11 => ?_)
    · refine lv_aload_n hx hb dX1_act_61 rfl (lv_at hl 3 rfl) ?_
      refine r_get (θ := θ) (C := RX1) (T := TX1) (N := 8) (ci := 7) hx hb hts gwX1 hown hK ho rfl 0 (by decide) k73 (fun _ h => h) (v := .ref (u 1)) rfl dX1_act_62 ?_
      refine lv_iload_n hx hb dX1_act_65 rfl (lv_at hl 4 rfl) ?_
      refine r_iald (θ := θ) hx hb hK ha1 (i := a) (by omega) (by decide) dX1_act_66 ?_
      have tr12 := hd (a.toNat) (by omega)
      refine lv_iload hx hb dX1_act_67 (lv_at hl 1 rfl) ?_
      refine lv_iload hx hb dX1_act_69 (lv_at hl 0 rfl) ?_
      refine c_P (As := [.int (iI (dt a.toNat)), .int (iI n), .int (iI k)]) (rest := []) fx hl (pm_X0_monthsFirst l (dt a.toNat) n k (by omega) (by omega)) dX1_act_71 k657 k160 k13 k161 hd_X0_monthsFirst rfl ⟨by decide, by decide⟩ (Nat.le_of_ble_eq_true rfl) ⟨by omega, by omega⟩ ?_
      refine q_nm (fun z13 ez13 => ?_)
      have t0z13 := shI_bd (dt a.toNat) n
      refine q_as (r) (by omega) ?_
      refine lv_istore (lv' := [(8, .int (iI r)), (7, .int (iI k)), (6, .int (iI n)), (5, .int (iI (-1))), (0, .ref (u 0)), (1, .int (iI a)), (2, .int (iI s1)), (3, .int (iI f)), (4, .int (iI g))]) hx hb dX1_act_74 hl (by decide) rfl (fun ls hl => ?_)
      refine lv_iload hx hb dX1_act_76 (lv_at hl 0 rfl) ?_
      exact e_cT (As := [.int (iI r)]) (rest := []) fx hl (nno_needDate θ l hl0 S0 _ hz r (by omega) (by omega)) dX1_act_78 k784 k785 k1 k786 hd_X1_needDate rfl ⟨by decide, by decide⟩ (Nat.le_of_ble_eq_true rfl) ⟨by decide, by decide⟩ ⟨by decide, by decide⟩ hS (fun _ h => h) hxt hlk (fun H1 h1 h2 => ⟨rfl, h1, h2⟩)
    · refine lv_aload_n hx hb dX1_act_45 rfl (lv_at hl 3 rfl) ?_
      refine r_get (θ := θ) (C := RX1) (T := TX1) (N := 8) (ci := 7) hx hb hts gwX1 hown hK ho rfl 0 (by decide) k73 (fun _ h => h) (v := .ref (u 1)) rfl dX1_act_46 ?_
      refine lv_iload_n hx hb dX1_act_49 rfl (lv_at hl 4 rfl) ?_
      refine r_iald (θ := θ) hx hb hK ha1 (i := a) (by omega) (by decide) dX1_act_50 ?_
      have tr14 := hd (a.toNat) (by omega)
      refine lv_iload hx hb dX1_act_51 (lv_at hl 1 rfl) ?_
      refine lv_iload hx hb dX1_act_53 (lv_at hl 0 rfl) ?_
      refine c_P (As := [.int (iI (dt a.toNat)), .int (iI n), .int (iI k)]) (rest := []) fx hl (pm_X0_daysFirst l (dt a.toNat) n k (by omega) (by omega) (by omega)) dX1_act_55 k654 k655 k13 k656 hd_X0_daysFirst rfl ⟨by decide, by decide⟩ (Nat.le_of_ble_eq_true rfl) ⟨by omega, by omega⟩ ?_
      have t0z15 := shI_bd ((dt a.toNat) + k) n
      refine lv_goto (tgt := 74) hx hb dX1_act_58 (by decide) ?_
      refine q_as (r) (by omega) ?_
      refine lv_istore (lv' := [(8, .int (iI r)), (7, .int (iI k)), (6, .int (iI n)), (5, .int (iI (-1))), (0, .ref (u 0)), (1, .int (iI a)), (2, .int (iI s1)), (3, .int (iI f)), (4, .int (iI g))]) hx hb dX1_act_74 hl (by decide) rfl (fun ls hl => ?_)
      refine lv_iload hx hb dX1_act_76 (lv_at hl 0 rfl) ?_
      exact e_cT (As := [.int (iI r)]) (rest := []) fx hl (nno_needDate θ l hl0 S0 _ hz r (by omega) (by omega)) dX1_act_78 k784 k785 k1 k786 hd_X1_needDate rfl ⟨by decide, by decide⟩ (Nat.le_of_ble_eq_true rfl) ⟨by decide, by decide⟩ ⟨by decide, by decide⟩ hS (fun _ h => h) hxt hlk (fun H1 h1 h2 => ⟨rfl, h1, h2⟩)

set_option maxHeartbeats 4000000 in
set_option maxRecDepth 100000 in
theorem ok_actOften (θ : TH) (l : Launch) (hl0 : l.stackTraces = false) (S0 : State) (H : Heap) (u : Nat → Nat) (dt sy sm sd : Nat → Int) (bc rf kn : Int) (hw : CWR θ S0 u H dt sy sm sd bc rf kn) (a s1 t n : Int) (h_0 : -2147483648 ≤ a ∧ a < 2147483648) (h_1 : -2147483648 ≤ s1 ∧ s1 < 2147483648) (h_2 : -2147483648 ≤ t ∧ t < 2147483648) (h_3 : n = 12 * sy s1.toNat + sm s1.toNat) (h_4 : 0 ≤ a ∧ a < 6) (h_5 : 0 ≤ s1 ∧ s1 < 3) (h_6 : 0 ≤ t ∧ t ≤ 24) (h_7 : -4371587 ≤ (itA (dt a.toNat) n (sd s1.toNat) t.toNat) ∧ (itA (dt a.toNat) n (sd s1.toNat) t.toNat) ≤ 2932896) : CT l yX1_actOften cX1_actOften 7 (some .int) 5 114 0 0 [.ref (u 0), .int (iI a), .int (iI s1), .int (iI t)] S0 H (fun v9 H1 => v9 = some (.int (iI (itA (dt a.toNat) n (sd s1.toNat) t.toNat))) ∧ CW θ u H1 (up dt a.toNat (itA (dt a.toNat) n (sd s1.toNat) t.toNat)) sy sm sd (bc + 1) rf kn) (fun _ _ => False) (UA u H.size) := by
  refine ct_of (by decide +kernel) (Nat.le_of_ble_eq_true rfl) ?_
  intro pg en s mi args below meth co ls fx hs hr hlk hxt hin hl
  subst hs
  obtain ⟨hx, hb, hml, hown, hts⟩ := id fx.1
  have hS : va_S (UA u s.heap.size) s.heap s.heap [] := va_S.rf
  obtain ⟨hz, hu, ⟨ho, ha1, ha2, ha3, ha4, hsb⟩, hd, hsp⟩ := id hw
  have hAB := ua_b hu hz.2.1
  have hz0 := hz
  have hK := sz_K fx.2 hz
  have tq_s1 : (0 ≤ s1 ∧ s1 < 3) → (-20000 ≤ sy s1.toNat ∧ sy s1.toNat ≤ 20000 ∧ -240000 ≤ sm s1.toNat ∧ sm s1.toNat ≤ 240000 ∧ -100000 ≤ sd s1.toNat ∧ sd s1.toNat ≤ 100000) := fun h => hsp _ (by omega)
  refine lv_iload_n hx hb dX1_actOften_0 rfl (lv_at hl 1 rfl) ?_
  refine c_N (As := [.int (iI a)]) (rest := []) fx hl (nok_needPlace l S0 _ a (by omega) (by omega)) dX1_actOften_1 k260 k261 k1 k262 hd_X1_needPlace rfl ⟨by decide, by decide⟩ (Nat.le_of_ble_eq_true rfl) ⟨by dsimp only; omega, by dsimp only; omega⟩ ?_
  refine lv_iload_n hx hb dX1_actOften_4 rfl (lv_at hl 2 rfl) ?_
  refine c_N (As := [.int (iI s1)]) (rest := []) fx hl (nok_needSpan l S0 _ s1 (by omega) (by omega)) dX1_actOften_5 k671 k672 k1 k673 hd_X1_needSpan rfl ⟨by decide, by decide⟩ (Nat.le_of_ble_eq_true rfl) ⟨by dsimp only; omega, by dsimp only; omega⟩ ?_
  refine lv_iload_n hx hb dX1_actOften_8 rfl (lv_at hl 3 rfl) ?_
  refine q_con hx hb dX1_actOften_9 ?_
  refine q_bip hx hb dX1_actOften_10 (by decide) ?_
  refine c_N (As := [.int (iI t), .int (iI 0), .int (iI 24)]) (rest := []) fx hl (nok_needWithin l S0 _ t 0 24 (by omega) (by omega) (by omega) (by omega)) dX1_actOften_12 k172 k173 k1 k174 hd_X1_needWithin rfl ⟨by decide, by decide⟩ (Nat.le_of_ble_eq_true rfl) ⟨by dsimp only; omega, by dsimp only; omega⟩ ?_
  refine lv_aload_n hx hb dX1_actOften_15 rfl (lv_at hl 0 rfl) ?_
  refine lv_iload_n hx hb dX1_actOften_16 rfl (lv_at hl 2 rfl) ?_
  have hcw := hw
  refine c_HV (As := [.int (iI s1)]) (rest := []) (b := u 0) (C := RX1) fx hl (ok_monthsInAll θ l hl0 S0 _ u _ _ _ _ _ _ _ hcw s1 (by omega) (by omega)) (ob_recv hK ho rfl) dX1_actOften_17 k675 k677 ks6 k1 k678 hd_X1_monthsInAll rfl ⟨by decide, by decide⟩ (Nat.le_of_ble_eq_true rfl) ⟨by dsimp only; omega, by dsimp only; omega⟩ ?_
  refine q_nm (fun z1 ez1 => ?_)
  refine q_as (n) (by omega) ?_
  refine lv_istore (lv' := [(4, .int (iI n)), (0, .ref (u 0)), (1, .int (iI a)), (2, .int (iI s1)), (3, .int (iI t))]) hx hb dX1_actOften_20 hl (by decide) rfl (fun ls hl => ?_)
  refine lv_aload_n hx hb dX1_actOften_22 rfl (lv_at hl 1 rfl) ?_
  refine r_get (θ := θ) (C := RX1) (T := TX1) (N := 8) (ci := 7) hx hb hts gwX1 hown hK ho rfl 0 (by decide) k73 (fun _ h => h) (v := .ref (u 1)) rfl dX1_actOften_23 ?_
  refine lv_iload_n hx hb dX1_actOften_26 rfl (lv_at hl 2 rfl) ?_
  refine r_iald (θ := θ) hx hb hK ha1 (i := a) (by omega) (by decide) dX1_actOften_27 ?_
  have tr2 := hd (a.toNat) (by omega)
  refine lv_istore (lv' := [(5, .int (iI (dt a.toNat))), (4, .int (iI n)), (0, .ref (u 0)), (1, .int (iI a)), (2, .int (iI s1)), (3, .int (iI t))]) hx hb dX1_actOften_28 hl (by decide) rfl (fun ls hl => ?_)
  refine q_con hx hb dX1_actOften_30 ?_
  refine lv_istore (lv' := [(6, .int (iI 0)), (5, .int (iI (dt a.toNat))), (4, .int (iI n)), (0, .ref (u 0)), (1, .int (iI a)), (2, .int (iI s1)), (3, .int (iI t))]) hx hb dX1_actOften_31 hl (by decide) rfl (fun ls hl => ?_)
  refine w_loop (nL := 7) (σ := Int × Int) (fun x => (t - x.2).toNat) (fun x => (x.1 = itA (dt a.toNat) n (sd s1.toNat) x.2.toNat) ∧ (0 ≤ x.2 ∧ x.2 ≤ t) ∧ (-4371587 - 14800000 * x.2 ≤ x.1 ∧ x.1 ≤ 2932896 + 14800000 * x.2)) (fun x => [(5, .int (iI x.1)), (6, .int (iI x.2)), (4, .int (iI n)), (0, .ref (u 0)), (1, .int (iI a)), (2, .int (iI s1)), (3, .int (iI t))]) ?_ ((dt a.toNat : Int), (0 : Int)) ⟨by (try dsimp only); first | omega | rfl, by (try dsimp only); first | omega | rfl, by (try dsimp only); first | omega | rfl⟩ (lv_sub hl [1, 0, 2, 3, 4, 5, 6] rfl)
  intro x hI33 ih33 ls hl
  obtain ⟨dd, j⟩ := x
  (try dsimp only at hI33 ih33 hl ⊢)
  refine lv_iload hx hb dX1_actOften_33 (lv_at hl 1 rfl) ?_
  refine lv_iload_n hx hb dX1_actOften_35 rfl (lv_at hl 6 rfl) ?_
  refine q_cge (tgt := 60) hx hb dX1_actOften_36 (by decide) (by omega) (by omega) (fun c3 => ?_) (fun c3 => ?_)
  · have tz : itA (dt a.toNat) n (sd s1.toNat) t.toNat = dd := by rw [hI33.1, show j = t by omega]
    refine lv_iload hx hb dX1_actOften_60 (lv_at hl 0 rfl) ?_
    refine q_as (itA (dt a.toNat) n (sd s1.toNat) t.toNat) (by rw [hI33.1, show j = t by omega]) ?_
    refine c_N (As := [.int (iI (itA (dt a.toNat) n (sd s1.toNat) t.toNat))]) (rest := []) fx hl (nok_needDate l S0 _ (itA (dt a.toNat) n (sd s1.toNat) t.toNat) (by omega) (by omega)) dX1_actOften_62 k784 k785 k1 k786 hd_X1_needDate rfl ⟨by decide, by decide⟩ (Nat.le_of_ble_eq_true rfl) ⟨by dsimp only; omega, by dsimp only; omega⟩ ?_
    refine lv_aload_n hx hb dX1_actOften_65 rfl (lv_at hl 3 rfl) ?_
    refine lv_iload_n hx hb dX1_actOften_66 rfl (lv_at hl 4 rfl) ?_
    refine lv_iload hx hb dX1_actOften_67 (lv_at hl 0 rfl) ?_
    refine q_as (itA (dt a.toNat) n (sd s1.toNat) t.toNat) (by rw [hI33.1, show j = t by omega]) ?_
    have hcw := hw
    refine c_W (As := [.int (iI a), .int (iI (itA (dt a.toNat) n (sd s1.toNat) t.toNat))]) (rest := []) (b := u 0) (C := RX1) fx hl (ok_put θ l hl0 S0 _ u _ _ _ _ _ _ _ hcw a (itA (dt a.toNat) n (sd s1.toNat) t.toNat) (by omega) (by omega) (by omega)) (ob_recv hK ho rfl) dX1_actOften_69 k723 k725 ks7 k1 k726 hd_X1_put rfl ⟨by decide, by decide⟩ (Nat.le_of_ble_eq_true rfl) ⟨by dsimp only; omega, by dsimp only; omega⟩ hS (fun q h => h.elim Or.inl (fun h => Or.inr (Nat.le_trans hS.1 h))) (fun H4 locs hwH4 hszH4 hkH4 hS => ?_)
    obtain ⟨hoH4, ha1H4, ha2H4, ha3H4, ha4H4, hsbH4⟩ := hwH4
    have hzH4 := hz0.at hAB hS
    first | exact e_i hx hb hr hlk hS dX1_actOften_72 (Nat.le_refl _) (Nat.le_refl _) ⟨ex_i (by omega), by first | exact ⟨hoH4, ha1H4, ha2H4, ha3H4, ha4H4, hsbH4⟩ | (subst_vars; exact ⟨hoH4, ha1H4, ha2H4, ha3H4, ha4H4, hsbH4⟩)⟩ | exact (show False by omega).elim
  · refine lv_iload hx hb dX1_actOften_39 (lv_at hl 0 rfl) ?_
    refine lv_iload hx hb dX1_actOften_41 (lv_at hl 2 rfl) ?_
    refine lv_aload_n hx hb dX1_actOften_43 rfl (lv_at hl 3 rfl) ?_
    refine r_get (θ := θ) (C := RX1) (T := TX1) (N := 8) (ci := 7) hx hb hts gwX1 hown hK ho rfl 3 (by decide) k76 (fun _ h => h) (v := .ref (u 4)) rfl dX1_actOften_44 ?_
    refine lv_iload_n hx hb dX1_actOften_47 rfl (lv_at hl 5 rfl) ?_
    refine r_iald (θ := θ) hx hb hK ha4 (i := s1) (by omega) (by decide) dX1_actOften_48 ?_
    have tr5 := hsp (s1.toNat) (by omega)
    refine c_P (As := [.int (iI dd), .int (iI n), .int (iI (sd s1.toNat))]) (rest := []) fx hl (pm_X0_monthsFirst l dd n (sd s1.toNat) (by omega) (by omega)) dX1_actOften_49 k657 k160 k13 k161 hd_X0_monthsFirst rfl ⟨by decide, by decide⟩ (Nat.le_of_ble_eq_true rfl) ⟨by omega, by omega⟩ ?_
    refine q_nm (fun z6 ez6 => ?_)
    have t0z6 := shI_bd dd n
    refine lv_istore (lv' := [(5, .int (iI z6)), (6, .int (iI j)), (4, .int (iI n)), (0, .ref (u 0)), (1, .int (iI a)), (2, .int (iI s1)), (3, .int (iI t))]) hx hb dX1_actOften_52 hl (by decide) rfl (fun ls hl => ?_)
    refine lv_iinc (v := iI (j + 1)) (lv' := [(6, .int (iI (j + 1))), (5, .int (iI z6)), (4, .int (iI n)), (0, .ref (u 0)), (1, .int (iI a)), (2, .int (iI s1)), (3, .int (iI t))]) hx hb dX1_actOften_54 hl (k := 1) rfl (iI_add _ _) (by decide) rfl (fun ls hl => ?_)
    refine lv_goto (tgt := 33) hx hb dX1_actOften_57 (by decide) ?_
    exact ih33 (z6, j + 1) _ ⟨by (try dsimp only); first | omega | (rw [itA_s _ _ _ _ (by omega), ← hI33.1]; omega), by (try dsimp only); first | omega | (rw [itA_s _ _ _ _ (by omega), ← hI33.1]; omega), by (try dsimp only); first | omega | (rw [itA_s _ _ _ _ (by omega), ← hI33.1]; omega)⟩ (by (try dsimp only); omega) (lv_sub hl [1, 0, 2, 3, 4, 5, 6] rfl)

set_option maxHeartbeats 4000000 in
set_option maxRecDepth 100000 in
theorem no1_actOften (θ : TH) (l : Launch) (hl0 : l.stackTraces = false) (S0 : State) (H : Heap) (u : Nat → Nat) (dt sy sm sd : Nat → Int) (bc rf kn : Int) (hw : CWR θ S0 u H dt sy sm sd bc rf kn) (a s1 t n : Int) (h_0 : -2147483648 ≤ a ∧ a < 2147483648) (h_1 : -2147483648 ≤ s1 ∧ s1 < 2147483648) (h_2 : -2147483648 ≤ t ∧ t < 2147483648) (h_3 : n = 12 * sy s1.toNat + sm s1.toNat) (h_4 : ¬ (0 ≤ a ∧ a < 6)) : TX l yX1_actOften cX1_actOften 7 (some .int) 7 110 [.ref (u 0), .int (iI a), .int (iI s1), .int (iI t)] S0 H "java/lang/IndexOutOfBoundsException" := by
  refine ct_of (by decide +kernel) (Nat.le_of_ble_eq_true rfl) ?_
  intro pg en s mi args below meth co ls fx hs hr hlk hxt hin hl
  subst hs
  obtain ⟨hx, hb, hml, hown, hts⟩ := id fx.1
  have hS : va_S (fun q : Nat => s.heap.size ≤ q) s.heap s.heap [] := va_S.rf
  obtain ⟨hz, hu, ⟨ho, ha1, ha2, ha3, ha4, hsb⟩, hd, hsp⟩ := id hw
  have hAB : ∀ q : Nat, (fun q : Nat => s.heap.size ≤ q) q → θ.2.2.2 ≤ q := fun q h => Nat.le_trans hz.2.1 h
  have hz0 := hz
  have hK := sz_K fx.2 hz
  have tq_s1 : (0 ≤ s1 ∧ s1 < 3) → (-20000 ≤ sy s1.toNat ∧ sy s1.toNat ≤ 20000 ∧ -240000 ≤ sm s1.toNat ∧ sm s1.toNat ≤ 240000 ∧ -100000 ≤ sd s1.toNat ∧ sd s1.toNat ≤ 100000) := fun h => hsp _ (by omega)
  refine lv_iload_n hx hb dX1_actOften_0 rfl (lv_at hl 1 rfl) ?_
  exact e_cT (As := [.int (iI a)]) (rest := []) fx hl (nno_needPlace θ l hl0 S0 _ hz a (by omega) (by omega)) dX1_actOften_1 k260 k261 k1 k262 hd_X1_needPlace rfl ⟨by decide, by decide⟩ (Nat.le_of_ble_eq_true rfl) ⟨by decide, by decide⟩ ⟨by decide, by decide⟩ hS (fun _ h => h) hxt hlk (fun H1 h1 h2 => ⟨rfl, h1, h2⟩)

set_option maxHeartbeats 4000000 in
set_option maxRecDepth 100000 in
theorem no2_actOften (θ : TH) (l : Launch) (hl0 : l.stackTraces = false) (S0 : State) (H : Heap) (u : Nat → Nat) (dt sy sm sd : Nat → Int) (bc rf kn : Int) (hw : CWR θ S0 u H dt sy sm sd bc rf kn) (a s1 t n : Int) (h_0 : -2147483648 ≤ a ∧ a < 2147483648) (h_1 : -2147483648 ≤ s1 ∧ s1 < 2147483648) (h_2 : -2147483648 ≤ t ∧ t < 2147483648) (h_3 : n = 12 * sy s1.toNat + sm s1.toNat) (h_4 : 0 ≤ a ∧ a < 6) (h_5 : ¬ (0 ≤ s1 ∧ s1 < 3)) : TX l yX1_actOften cX1_actOften 7 (some .int) 7 110 [.ref (u 0), .int (iI a), .int (iI s1), .int (iI t)] S0 H "java/lang/IndexOutOfBoundsException" := by
  refine ct_of (by decide +kernel) (Nat.le_of_ble_eq_true rfl) ?_
  intro pg en s mi args below meth co ls fx hs hr hlk hxt hin hl
  subst hs
  obtain ⟨hx, hb, hml, hown, hts⟩ := id fx.1
  have hS : va_S (fun q : Nat => s.heap.size ≤ q) s.heap s.heap [] := va_S.rf
  obtain ⟨hz, hu, ⟨ho, ha1, ha2, ha3, ha4, hsb⟩, hd, hsp⟩ := id hw
  have hAB : ∀ q : Nat, (fun q : Nat => s.heap.size ≤ q) q → θ.2.2.2 ≤ q := fun q h => Nat.le_trans hz.2.1 h
  have hz0 := hz
  have hK := sz_K fx.2 hz
  have tq_s1 : (0 ≤ s1 ∧ s1 < 3) → (-20000 ≤ sy s1.toNat ∧ sy s1.toNat ≤ 20000 ∧ -240000 ≤ sm s1.toNat ∧ sm s1.toNat ≤ 240000 ∧ -100000 ≤ sd s1.toNat ∧ sd s1.toNat ≤ 100000) := fun h => hsp _ (by omega)
  refine lv_iload_n hx hb dX1_actOften_0 rfl (lv_at hl 1 rfl) ?_
  refine c_N (As := [.int (iI a)]) (rest := []) fx hl (nok_needPlace l S0 _ a (by omega) (by omega)) dX1_actOften_1 k260 k261 k1 k262 hd_X1_needPlace rfl ⟨by decide, by decide⟩ (Nat.le_of_ble_eq_true rfl) ⟨by dsimp only; omega, by dsimp only; omega⟩ ?_
  refine lv_iload_n hx hb dX1_actOften_4 rfl (lv_at hl 2 rfl) ?_
  exact e_cT (As := [.int (iI s1)]) (rest := []) fx hl (nno_needSpan θ l hl0 S0 _ hz s1 (by omega) (by omega)) dX1_actOften_5 k671 k672 k1 k673 hd_X1_needSpan rfl ⟨by decide, by decide⟩ (Nat.le_of_ble_eq_true rfl) ⟨by decide, by decide⟩ ⟨by decide, by decide⟩ hS (fun _ h => h) hxt hlk (fun H1 h1 h2 => ⟨rfl, h1, h2⟩)

set_option maxHeartbeats 4000000 in
set_option maxRecDepth 100000 in
theorem no3_actOften (θ : TH) (l : Launch) (hl0 : l.stackTraces = false) (S0 : State) (H : Heap) (u : Nat → Nat) (dt sy sm sd : Nat → Int) (bc rf kn : Int) (hw : CWR θ S0 u H dt sy sm sd bc rf kn) (a s1 t n : Int) (h_0 : -2147483648 ≤ a ∧ a < 2147483648) (h_1 : -2147483648 ≤ s1 ∧ s1 < 2147483648) (h_2 : -2147483648 ≤ t ∧ t < 2147483648) (h_3 : n = 12 * sy s1.toNat + sm s1.toNat) (h_4 : 0 ≤ a ∧ a < 6) (h_5 : 0 ≤ s1 ∧ s1 < 3) (h_6 : ¬ (0 ≤ t ∧ t ≤ 24)) : TX l yX1_actOften cX1_actOften 7 (some .int) 7 112 [.ref (u 0), .int (iI a), .int (iI s1), .int (iI t)] S0 H "java/lang/IllegalArgumentException" := by
  refine ct_of (by decide +kernel) (Nat.le_of_ble_eq_true rfl) ?_
  intro pg en s mi args below meth co ls fx hs hr hlk hxt hin hl
  subst hs
  obtain ⟨hx, hb, hml, hown, hts⟩ := id fx.1
  have hS : va_S (fun q : Nat => s.heap.size ≤ q) s.heap s.heap [] := va_S.rf
  obtain ⟨hz, hu, ⟨ho, ha1, ha2, ha3, ha4, hsb⟩, hd, hsp⟩ := id hw
  have hAB : ∀ q : Nat, (fun q : Nat => s.heap.size ≤ q) q → θ.2.2.2 ≤ q := fun q h => Nat.le_trans hz.2.1 h
  have hz0 := hz
  have hK := sz_K fx.2 hz
  have tq_s1 : (0 ≤ s1 ∧ s1 < 3) → (-20000 ≤ sy s1.toNat ∧ sy s1.toNat ≤ 20000 ∧ -240000 ≤ sm s1.toNat ∧ sm s1.toNat ≤ 240000 ∧ -100000 ≤ sd s1.toNat ∧ sd s1.toNat ≤ 100000) := fun h => hsp _ (by omega)
  refine lv_iload_n hx hb dX1_actOften_0 rfl (lv_at hl 1 rfl) ?_
  refine c_N (As := [.int (iI a)]) (rest := []) fx hl (nok_needPlace l S0 _ a (by omega) (by omega)) dX1_actOften_1 k260 k261 k1 k262 hd_X1_needPlace rfl ⟨by decide, by decide⟩ (Nat.le_of_ble_eq_true rfl) ⟨by dsimp only; omega, by dsimp only; omega⟩ ?_
  refine lv_iload_n hx hb dX1_actOften_4 rfl (lv_at hl 2 rfl) ?_
  refine c_N (As := [.int (iI s1)]) (rest := []) fx hl (nok_needSpan l S0 _ s1 (by omega) (by omega)) dX1_actOften_5 k671 k672 k1 k673 hd_X1_needSpan rfl ⟨by decide, by decide⟩ (Nat.le_of_ble_eq_true rfl) ⟨by dsimp only; omega, by dsimp only; omega⟩ ?_
  refine lv_iload_n hx hb dX1_actOften_8 rfl (lv_at hl 3 rfl) ?_
  refine q_con hx hb dX1_actOften_9 ?_
  refine q_bip hx hb dX1_actOften_10 (by decide) ?_
  exact e_cT (As := [.int (iI t), .int (iI 0), .int (iI 24)]) (rest := []) fx hl (nno_needWithin θ l hl0 S0 _ hz t 0 24 (by omega) (by omega) (by omega) (by omega)) dX1_actOften_12 k172 k173 k1 k174 hd_X1_needWithin rfl ⟨by decide, by decide⟩ (Nat.le_of_ble_eq_true rfl) ⟨by decide, by decide⟩ ⟨by decide, by decide⟩ hS (fun _ h => h) hxt hlk (fun H1 h1 h2 => ⟨rfl, h1, h2⟩)

set_option maxHeartbeats 4000000 in
set_option maxRecDepth 100000 in
theorem no4_actOften (θ : TH) (l : Launch) (hl0 : l.stackTraces = false) (S0 : State) (H : Heap) (u : Nat → Nat) (dt sy sm sd : Nat → Int) (bc rf kn : Int) (hw : CWR θ S0 u H dt sy sm sd bc rf kn) (a s1 t n : Int) (h_0 : -2147483648 ≤ a ∧ a < 2147483648) (h_1 : -2147483648 ≤ s1 ∧ s1 < 2147483648) (h_2 : -2147483648 ≤ t ∧ t < 2147483648) (h_3 : n = 12 * sy s1.toNat + sm s1.toNat) (h_4 : 0 ≤ a ∧ a < 6) (h_5 : 0 ≤ s1 ∧ s1 < 3) (h_6 : 0 ≤ t ∧ t ≤ 24) (h_7 : ¬ (-4371587 ≤ (itA (dt a.toNat) n (sd s1.toNat) t.toNat) ∧ (itA (dt a.toNat) n (sd s1.toNat) t.toNat) ≤ 2932896)) : TX l yX1_actOften cX1_actOften 7 (some .int) 7 114 [.ref (u 0), .int (iI a), .int (iI s1), .int (iI t)] S0 H "java/lang/IllegalStateException" := by
  refine ct_of (by decide +kernel) (Nat.le_of_ble_eq_true rfl) ?_
  intro pg en s mi args below meth co ls fx hs hr hlk hxt hin hl
  subst hs
  obtain ⟨hx, hb, hml, hown, hts⟩ := id fx.1
  have hS : va_S (fun q : Nat => s.heap.size ≤ q) s.heap s.heap [] := va_S.rf
  obtain ⟨hz, hu, ⟨ho, ha1, ha2, ha3, ha4, hsb⟩, hd, hsp⟩ := id hw
  have hAB : ∀ q : Nat, (fun q : Nat => s.heap.size ≤ q) q → θ.2.2.2 ≤ q := fun q h => Nat.le_trans hz.2.1 h
  have hz0 := hz
  have hK := sz_K fx.2 hz
  have tq_s1 : (0 ≤ s1 ∧ s1 < 3) → (-20000 ≤ sy s1.toNat ∧ sy s1.toNat ≤ 20000 ∧ -240000 ≤ sm s1.toNat ∧ sm s1.toNat ≤ 240000 ∧ -100000 ≤ sd s1.toNat ∧ sd s1.toNat ≤ 100000) := fun h => hsp _ (by omega)
  refine lv_iload_n hx hb dX1_actOften_0 rfl (lv_at hl 1 rfl) ?_
  refine c_N (As := [.int (iI a)]) (rest := []) fx hl (nok_needPlace l S0 _ a (by omega) (by omega)) dX1_actOften_1 k260 k261 k1 k262 hd_X1_needPlace rfl ⟨by decide, by decide⟩ (Nat.le_of_ble_eq_true rfl) ⟨by dsimp only; omega, by dsimp only; omega⟩ ?_
  refine lv_iload_n hx hb dX1_actOften_4 rfl (lv_at hl 2 rfl) ?_
  refine c_N (As := [.int (iI s1)]) (rest := []) fx hl (nok_needSpan l S0 _ s1 (by omega) (by omega)) dX1_actOften_5 k671 k672 k1 k673 hd_X1_needSpan rfl ⟨by decide, by decide⟩ (Nat.le_of_ble_eq_true rfl) ⟨by dsimp only; omega, by dsimp only; omega⟩ ?_
  refine lv_iload_n hx hb dX1_actOften_8 rfl (lv_at hl 3 rfl) ?_
  refine q_con hx hb dX1_actOften_9 ?_
  refine q_bip hx hb dX1_actOften_10 (by decide) ?_
  refine c_N (As := [.int (iI t), .int (iI 0), .int (iI 24)]) (rest := []) fx hl (nok_needWithin l S0 _ t 0 24 (by omega) (by omega) (by omega) (by omega)) dX1_actOften_12 k172 k173 k1 k174 hd_X1_needWithin rfl ⟨by decide, by decide⟩ (Nat.le_of_ble_eq_true rfl) ⟨by dsimp only; omega, by dsimp only; omega⟩ ?_
  refine lv_aload_n hx hb dX1_actOften_15 rfl (lv_at hl 0 rfl) ?_
  refine lv_iload_n hx hb dX1_actOften_16 rfl (lv_at hl 2 rfl) ?_
  have hcw := hw
  refine c_HV (As := [.int (iI s1)]) (rest := []) (b := u 0) (C := RX1) fx hl (ok_monthsInAll θ l hl0 S0 _ u _ _ _ _ _ _ _ hcw s1 (by omega) (by omega)) (ob_recv hK ho rfl) dX1_actOften_17 k675 k677 ks6 k1 k678 hd_X1_monthsInAll rfl ⟨by decide, by decide⟩ (Nat.le_of_ble_eq_true rfl) ⟨by dsimp only; omega, by dsimp only; omega⟩ ?_
  refine q_nm (fun z1 ez1 => ?_)
  refine q_as (n) (by omega) ?_
  refine lv_istore (lv' := [(4, .int (iI n)), (0, .ref (u 0)), (1, .int (iI a)), (2, .int (iI s1)), (3, .int (iI t))]) hx hb dX1_actOften_20 hl (by decide) rfl (fun ls hl => ?_)
  refine lv_aload_n hx hb dX1_actOften_22 rfl (lv_at hl 1 rfl) ?_
  refine r_get (θ := θ) (C := RX1) (T := TX1) (N := 8) (ci := 7) hx hb hts gwX1 hown hK ho rfl 0 (by decide) k73 (fun _ h => h) (v := .ref (u 1)) rfl dX1_actOften_23 ?_
  refine lv_iload_n hx hb dX1_actOften_26 rfl (lv_at hl 2 rfl) ?_
  refine r_iald (θ := θ) hx hb hK ha1 (i := a) (by omega) (by decide) dX1_actOften_27 ?_
  have tr2 := hd (a.toNat) (by omega)
  refine lv_istore (lv' := [(5, .int (iI (dt a.toNat))), (4, .int (iI n)), (0, .ref (u 0)), (1, .int (iI a)), (2, .int (iI s1)), (3, .int (iI t))]) hx hb dX1_actOften_28 hl (by decide) rfl (fun ls hl => ?_)
  refine q_con hx hb dX1_actOften_30 ?_
  refine lv_istore (lv' := [(6, .int (iI 0)), (5, .int (iI (dt a.toNat))), (4, .int (iI n)), (0, .ref (u 0)), (1, .int (iI a)), (2, .int (iI s1)), (3, .int (iI t))]) hx hb dX1_actOften_31 hl (by decide) rfl (fun ls hl => ?_)
  refine w_loop (nL := 7) (σ := Int × Int) (fun x => (t - x.2).toNat) (fun x => (x.1 = itA (dt a.toNat) n (sd s1.toNat) x.2.toNat) ∧ (0 ≤ x.2 ∧ x.2 ≤ t) ∧ (-4371587 - 14800000 * x.2 ≤ x.1 ∧ x.1 ≤ 2932896 + 14800000 * x.2)) (fun x => [(5, .int (iI x.1)), (6, .int (iI x.2)), (4, .int (iI n)), (0, .ref (u 0)), (1, .int (iI a)), (2, .int (iI s1)), (3, .int (iI t))]) ?_ ((dt a.toNat : Int), (0 : Int)) ⟨by (try dsimp only); first | omega | rfl, by (try dsimp only); first | omega | rfl, by (try dsimp only); first | omega | rfl⟩ (lv_sub hl [1, 0, 2, 3, 4, 5, 6] rfl)
  intro x hI33 ih33 ls hl
  obtain ⟨dd, j⟩ := x
  (try dsimp only at hI33 ih33 hl ⊢)
  refine lv_iload hx hb dX1_actOften_33 (lv_at hl 1 rfl) ?_
  refine lv_iload_n hx hb dX1_actOften_35 rfl (lv_at hl 6 rfl) ?_
  refine q_cge (tgt := 60) hx hb dX1_actOften_36 (by decide) (by omega) (by omega) (fun c3 => ?_) (fun c3 => ?_)
  · have tz : itA (dt a.toNat) n (sd s1.toNat) t.toNat = dd := by rw [hI33.1, show j = t by omega]
    refine lv_iload hx hb dX1_actOften_60 (lv_at hl 0 rfl) ?_
    refine q_as (itA (dt a.toNat) n (sd s1.toNat) t.toNat) (by rw [hI33.1, show j = t by omega]) ?_
    exact e_cT (As := [.int (iI (itA (dt a.toNat) n (sd s1.toNat) t.toNat))]) (rest := []) fx hl (nno_needDate θ l hl0 S0 _ hz (itA (dt a.toNat) n (sd s1.toNat) t.toNat) (by omega) (by omega)) dX1_actOften_62 k784 k785 k1 k786 hd_X1_needDate rfl ⟨by decide, by decide⟩ (Nat.le_of_ble_eq_true rfl) ⟨by decide, by decide⟩ ⟨by decide, by decide⟩ hS (fun _ h => h) hxt hlk (fun H1 h1 h2 => ⟨rfl, h1, h2⟩)
  · refine lv_iload hx hb dX1_actOften_39 (lv_at hl 0 rfl) ?_
    refine lv_iload hx hb dX1_actOften_41 (lv_at hl 2 rfl) ?_
    refine lv_aload_n hx hb dX1_actOften_43 rfl (lv_at hl 3 rfl) ?_
    refine r_get (θ := θ) (C := RX1) (T := TX1) (N := 8) (ci := 7) hx hb hts gwX1 hown hK ho rfl 3 (by decide) k76 (fun _ h => h) (v := .ref (u 4)) rfl dX1_actOften_44 ?_
    refine lv_iload_n hx hb dX1_actOften_47 rfl (lv_at hl 5 rfl) ?_
    refine r_iald (θ := θ) hx hb hK ha4 (i := s1) (by omega) (by decide) dX1_actOften_48 ?_
    have tr4 := hsp (s1.toNat) (by omega)
    refine c_P (As := [.int (iI dd), .int (iI n), .int (iI (sd s1.toNat))]) (rest := []) fx hl (pm_X0_monthsFirst l dd n (sd s1.toNat) (by omega) (by omega)) dX1_actOften_49 k657 k160 k13 k161 hd_X0_monthsFirst rfl ⟨by decide, by decide⟩ (Nat.le_of_ble_eq_true rfl) ⟨by omega, by omega⟩ ?_
    refine q_nm (fun z5 ez5 => ?_)
    have t0z5 := shI_bd dd n
    refine lv_istore (lv' := [(5, .int (iI z5)), (6, .int (iI j)), (4, .int (iI n)), (0, .ref (u 0)), (1, .int (iI a)), (2, .int (iI s1)), (3, .int (iI t))]) hx hb dX1_actOften_52 hl (by decide) rfl (fun ls hl => ?_)
    refine lv_iinc (v := iI (j + 1)) (lv' := [(6, .int (iI (j + 1))), (5, .int (iI z5)), (4, .int (iI n)), (0, .ref (u 0)), (1, .int (iI a)), (2, .int (iI s1)), (3, .int (iI t))]) hx hb dX1_actOften_54 hl (k := 1) rfl (iI_add _ _) (by decide) rfl (fun ls hl => ?_)
    refine lv_goto (tgt := 33) hx hb dX1_actOften_57 (by decide) ?_
    exact ih33 (z5, j + 1) _ ⟨by (try dsimp only); first | omega | (rw [itA_s _ _ _ _ (by omega), ← hI33.1]; omega), by (try dsimp only); first | omega | (rw [itA_s _ _ _ _ (by omega), ← hI33.1]; omega), by (try dsimp only); first | omega | (rw [itA_s _ _ _ _ (by omega), ← hI33.1]; omega)⟩ (by (try dsimp only); omega) (lv_sub hl [1, 0, 2, 3, 4, 5, 6] rfl)

set_option maxHeartbeats 4000000 in
set_option maxRecDepth 100000 in
theorem ok_until (θ : TH) (l : Launch) (hl0 : l.stackTraces = false) (S0 : State) (H : Heap) (u : Nat → Nat) (dt sy sm sd : Nat → Int) (bc rf kn : Int) (hw : CWR θ S0 u H dt sy sm sd bc rf kn) (a b c : Int) (h_0 : -2147483648 ≤ a ∧ a < 2147483648) (h_1 : -2147483648 ≤ b ∧ b < 2147483648) (h_2 : -2147483648 ≤ c ∧ c < 2147483648) (h_3 : 0 ≤ a ∧ a < 3) (h_4 : 0 ≤ b ∧ b < 6) (h_5 : 0 ≤ c ∧ c < 6) (h_6 : dt b.toNat ≤ dt c.toNat) : CT l yX1_until cX1_until 5 (some .int) 5 112 0 0 [.ref (u 0), .int (iI a), .int (iI b), .int (iI c)] S0 H (fun v9 H1 => v9 = some (.int (iI (dt c.toNat - shI (dt b.toNat) (muI (dt b.toNat) (dt c.toNat))))) ∧ CW θ u H1 dt (up sy a.toNat (muI (dt b.toNat) (dt c.toNat) / 12)) (up sm a.toNat (muI (dt b.toNat) (dt c.toNat) % 12)) (up sd a.toNat (dt c.toNat - shI (dt b.toNat) (muI (dt b.toNat) (dt c.toNat)))) (bc + 1) rf kn) (fun _ _ => False) (UA u H.size) := by
  refine ct_of (by decide +kernel) (Nat.le_of_ble_eq_true rfl) ?_
  intro pg en s mi args below meth co ls fx hs hr hlk hxt hin hl
  subst hs
  obtain ⟨hx, hb, hml, hown, hts⟩ := id fx.1
  have hS : va_S (UA u s.heap.size) s.heap s.heap [] := va_S.rf
  obtain ⟨hz, hu, ⟨ho, ha1, ha2, ha3, ha4, hsb⟩, hd, hsp⟩ := id hw
  have hAB := ua_b hu hz.2.1
  have hz0 := hz
  have hK := sz_K fx.2 hz
  refine lv_iload_n hx hb dX1_until_0 rfl (lv_at hl 1 rfl) ?_
  refine c_N (As := [.int (iI a)]) (rest := []) fx hl (nok_needSpan l S0 _ a (by omega) (by omega)) dX1_until_1 k671 k672 k1 k673 hd_X1_needSpan rfl ⟨by decide, by decide⟩ (Nat.le_of_ble_eq_true rfl) ⟨by dsimp only; omega, by dsimp only; omega⟩ ?_
  refine lv_iload_n hx hb dX1_until_4 rfl (lv_at hl 2 rfl) ?_
  refine c_N (As := [.int (iI b)]) (rest := []) fx hl (nok_needPlace l S0 _ b (by omega) (by omega)) dX1_until_5 k260 k261 k1 k262 hd_X1_needPlace rfl ⟨by decide, by decide⟩ (Nat.le_of_ble_eq_true rfl) ⟨by dsimp only; omega, by dsimp only; omega⟩ ?_
  refine lv_iload_n hx hb dX1_until_8 rfl (lv_at hl 3 rfl) ?_
  refine c_N (As := [.int (iI c)]) (rest := []) fx hl (nok_needPlace l S0 _ c (by omega) (by omega)) dX1_until_9 k260 k261 k1 k262 hd_X1_needPlace rfl ⟨by decide, by decide⟩ (Nat.le_of_ble_eq_true rfl) ⟨by dsimp only; omega, by dsimp only; omega⟩ ?_
  refine lv_aload_n hx hb dX1_until_12 rfl (lv_at hl 0 rfl) ?_
  refine r_get (θ := θ) (C := RX1) (T := TX1) (N := 8) (ci := 7) hx hb hts gwX1 hown hK ho rfl 0 (by decide) k73 (fun _ h => h) (v := .ref (u 1)) rfl dX1_until_13 ?_
  refine lv_iload_n hx hb dX1_until_16 rfl (lv_at hl 3 rfl) ?_
  refine r_iald (θ := θ) hx hb hK ha1 (i := c) (by omega) (by decide) dX1_until_17 ?_
  have tr1 := hd (c.toNat) (by omega)
  refine lv_aload_n hx hb dX1_until_18 rfl (lv_at hl 0 rfl) ?_
  refine r_get (θ := θ) (C := RX1) (T := TX1) (N := 8) (ci := 7) hx hb hts gwX1 hown hK ho rfl 0 (by decide) k73 (fun _ h => h) (v := .ref (u 1)) rfl dX1_until_19 ?_
  refine lv_iload_n hx hb dX1_until_22 rfl (lv_at hl 2 rfl) ?_
  refine r_iald (θ := θ) hx hb hK ha1 (i := b) (by omega) (by decide) dX1_until_23 ?_
  have tr2 := hd (b.toNat) (by omega)
  refine c_N (As := [.int (iI (dt c.toNat)), .int (iI (dt b.toNat))]) (rest := []) fx hl (nok_needNotAhead l S0 _ (dt c.toNat) (dt b.toNat) (by omega) (by omega) (by omega)) dX1_until_24 k843 k844 k1 k845 hd_X1_needNotAhead rfl ⟨by decide, by decide⟩ (Nat.le_of_ble_eq_true rfl) ⟨by dsimp only; omega, by dsimp only; omega⟩ ?_
  refine lv_aload_n hx hb dX1_until_27 rfl (lv_at hl 0 rfl) ?_
  refine r_get (θ := θ) (C := RX1) (T := TX1) (N := 8) (ci := 7) hx hb hts gwX1 hown hK ho rfl 0 (by decide) k73 (fun _ h => h) (v := .ref (u 1)) rfl dX1_until_28 ?_
  refine lv_iload_n hx hb dX1_until_31 rfl (lv_at hl 2 rfl) ?_
  refine r_iald (θ := θ) hx hb hK ha1 (i := b) (by omega) (by decide) dX1_until_32 ?_
  have tr3 := hd (b.toNat) (by omega)
  refine lv_aload_n hx hb dX1_until_33 rfl (lv_at hl 0 rfl) ?_
  refine r_get (θ := θ) (C := RX1) (T := TX1) (N := 8) (ci := 7) hx hb hts gwX1 hown hK ho rfl 0 (by decide) k73 (fun _ h => h) (v := .ref (u 1)) rfl dX1_until_34 ?_
  refine lv_iload_n hx hb dX1_until_37 rfl (lv_at hl 3 rfl) ?_
  refine r_iald (θ := θ) hx hb hK ha1 (i := c) (by omega) (by decide) dX1_until_38 ?_
  have tr4 := hd (c.toNat) (by omega)
  refine c_P (As := [.int (iI (dt b.toNat)), .int (iI (dt c.toNat))]) (rest := []) fx hl (pm_X0_monthsUntil l (dt b.toNat) (dt c.toNat) (by omega) (by omega)) dX1_until_39 k666 k157 k13 k158 hd_X0_monthsUntil rfl ⟨by decide, by decide⟩ (Nat.le_of_ble_eq_true rfl) ⟨by omega, by omega⟩ ?_
  have t0z5 := mu_b (dt b.toNat) (dt c.toNat)
  have t1z5 := mI_bd (dt b.toNat)
  have t2z5 := mI_bd (dt c.toNat)
  refine lv_istore (lv' := [(4, .int (iI (muI (dt b.toNat) (dt c.toNat)))), (0, .ref (u 0)), (1, .int (iI a)), (2, .int (iI b)), (3, .int (iI c))]) hx hb dX1_until_42 hl (by decide) rfl (fun ls hl => ?_)
  refine lv_aload_n hx hb dX1_until_44 rfl (lv_at hl 1 rfl) ?_
  refine lv_iload_n hx hb dX1_until_45 rfl (lv_at hl 2 rfl) ?_
  refine lv_iload hx hb dX1_until_46 (lv_at hl 0 rfl) ?_
  refine q_bip hx hb dX1_until_48 (by decide) ?_
  refine q_div hx hb dX1_until_50 (by omega) (by omega) ?_
  refine q_nm (fun z6 ez6 => ?_)
  have fz6 : 0 ≤ (muI (dt b.toNat) (dt c.toNat)) → z6 = (muI (dt b.toNat) (dt c.toNat)) / 12 := fun h => by rw [ez6, tdiv_pos h (by omega)]
  have gz6 : (muI (dt b.toNat) (dt c.toNat)) < 0 → z6 = -((-(muI (dt b.toNat) (dt c.toNat))) / 12) := fun h => by rw [ez6, tdiv_neg' h]
  clear ez6
  refine q_as (muI (dt b.toNat) (dt c.toNat) / 12) (by omega) ?_
  refine lv_iload hx hb dX1_until_51 (lv_at hl 0 rfl) ?_
  refine q_bip hx hb dX1_until_53 (by decide) ?_
  refine q_rem hx hb dX1_until_55 (by omega) (by omega) ?_
  refine q_nm (fun z7 ez7 => ?_)
  have fz7 : 0 ≤ (muI (dt b.toNat) (dt c.toNat)) → z7 = (muI (dt b.toNat) (dt c.toNat)) % 12 := fun h => by rw [ez7, tdiv_pos h (by omega)]; omega
  have gz7 : (muI (dt b.toNat) (dt c.toNat)) < 0 → z7 = -((-(muI (dt b.toNat) (dt c.toNat))) % 12) := fun h => by rw [ez7, tdiv_neg' h]; omega
  clear ez7
  refine q_as (muI (dt b.toNat) (dt c.toNat) % 12) (by omega) ?_
  refine lv_aload_n hx hb dX1_until_56 rfl (lv_at hl 1 rfl) ?_
  refine r_get (θ := θ) (C := RX1) (T := TX1) (N := 8) (ci := 7) hx hb hts gwX1 hown hK ho rfl 0 (by decide) k73 (fun _ h => h) (v := .ref (u 1)) rfl dX1_until_57 ?_
  refine lv_iload_n hx hb dX1_until_60 rfl (lv_at hl 4 rfl) ?_
  refine r_iald (θ := θ) hx hb hK ha1 (i := c) (by omega) (by decide) dX1_until_61 ?_
  have tr8 := hd (c.toNat) (by omega)
  refine lv_aload_n hx hb dX1_until_62 rfl (lv_at hl 1 rfl) ?_
  refine r_get (θ := θ) (C := RX1) (T := TX1) (N := 8) (ci := 7) hx hb hts gwX1 hown hK ho rfl 0 (by decide) k73 (fun _ h => h) (v := .ref (u 1)) rfl dX1_until_63 ?_
  refine lv_iload_n hx hb dX1_until_66 rfl (lv_at hl 3 rfl) ?_
  refine r_iald (θ := θ) hx hb hK ha1 (i := b) (by omega) (by decide) dX1_until_67 ?_
  have tr9 := hd (b.toNat) (by omega)
  refine lv_iload hx hb dX1_until_68 (lv_at hl 0 rfl) ?_
  refine c_P (As := [.int (iI (dt b.toNat)), .int (iI (muI (dt b.toNat) (dt c.toNat)))]) (rest := [.int (iI (dt c.toNat)), .int (iI (muI (dt b.toNat) (dt c.toNat) % 12)), .int (iI (muI (dt b.toNat) (dt c.toNat) / 12)), .int (iI a), .ref (u 0)]) fx hl (pm_X0_shifted l (dt b.toNat) (muI (dt b.toNat) (dt c.toNat)) (by omega) (by omega)) dX1_until_70 k783 k141 k13 k142 hd_X0_shifted rfl ⟨by decide, by decide⟩ (Nat.le_of_ble_eq_true rfl) ⟨by omega, by omega⟩ ?_
  have t0z10 := shI_s (dt b.toNat) (muI (dt b.toNat) (dt c.toNat))
  have t1z10 := shI_bd (dt b.toNat) (muI (dt b.toNat) (dt c.toNat))
  refine q_sub hx hb dX1_until_73 ?_
  have hcw := hw
  refine c_Wv (As := [.int (iI a), .int (iI (muI (dt b.toNat) (dt c.toNat) / 12)), .int (iI (muI (dt b.toNat) (dt c.toNat) % 12)), .int (iI ((dt c.toNat) - (shI (dt b.toNat) (muI (dt b.toNat) (dt c.toNat)))))]) (rest := []) (b := u 0) (C := RX1) fx hl (ok_putSpan θ l hl0 S0 _ u _ _ _ _ _ _ _ hcw a (muI (dt b.toNat) (dt c.toNat) / 12) (muI (dt b.toNat) (dt c.toNat) % 12) ((dt c.toNat) - (shI (dt b.toNat) (muI (dt b.toNat) (dt c.toNat)))) (by omega) (by omega) (by omega) (by omega) (by omega)) (ob_recv hK ho rfl) dX1_until_74 k832 k834 ks8 k1 k835 hd_X1_putSpan rfl ⟨by decide, by decide⟩ (Nat.le_of_ble_eq_true rfl) ⟨by dsimp only; omega, by dsimp only; omega⟩ hS (fun q h => h.elim Or.inl (fun h => Or.inr (Nat.le_trans hS.1 h))) (fun H11 locs hwH11 hszH11 hkH11 hS => ?_)
  obtain ⟨hoH11, ha1H11, ha2H11, ha3H11, ha4H11, hsbH11⟩ := hwH11
  have hzH11 := hz0.at hAB hS
  refine lv_aload_n hx hb dX1_until_77 rfl (lv_at hl 1 rfl) ?_
  refine r_get (θ := θ) (C := RX1) (T := TX1) (N := 8) (ci := 7) hx hb hts gwX1 hown hK hoH11 rfl 3 (by decide) k76 (fun _ h => h) (v := .ref (u 4)) rfl dX1_until_78 ?_
  refine lv_iload_n hx hb dX1_until_81 rfl (lv_at hl 2 rfl) ?_
  refine r_iald (θ := θ) hx hb hK ha4H11 (i := a) (by omega) (by decide) dX1_until_82 ?_
  refine q_as (dt c.toNat - shI (dt b.toNat) (muI (dt b.toNat) (dt c.toNat))) (by exact up_s _ _ _) ?_
  first | exact e_i hx hb hr hlk hS dX1_until_83 (Nat.le_refl _) (Nat.le_refl _) ⟨ex_i (by omega), by first | exact ⟨hoH11, ha1H11, ha2H11, ha3H11, ha4H11, hsbH11⟩ | (subst_vars; exact ⟨hoH11, ha1H11, ha2H11, ha3H11, ha4H11, hsbH11⟩)⟩ | exact (show False by omega).elim

set_option maxHeartbeats 4000000 in
set_option maxRecDepth 100000 in
theorem no1_until (θ : TH) (l : Launch) (hl0 : l.stackTraces = false) (S0 : State) (H : Heap) (u : Nat → Nat) (dt sy sm sd : Nat → Int) (bc rf kn : Int) (hw : CWR θ S0 u H dt sy sm sd bc rf kn) (a b c : Int) (h_0 : -2147483648 ≤ a ∧ a < 2147483648) (h_1 : -2147483648 ≤ b ∧ b < 2147483648) (h_2 : -2147483648 ≤ c ∧ c < 2147483648) (h_3 : ¬ (0 ≤ a ∧ a < 3)) : TX l yX1_until cX1_until 5 (some .int) 7 110 [.ref (u 0), .int (iI a), .int (iI b), .int (iI c)] S0 H "java/lang/IndexOutOfBoundsException" := by
  refine ct_of (by decide +kernel) (Nat.le_of_ble_eq_true rfl) ?_
  intro pg en s mi args below meth co ls fx hs hr hlk hxt hin hl
  subst hs
  obtain ⟨hx, hb, hml, hown, hts⟩ := id fx.1
  have hS : va_S (fun q : Nat => s.heap.size ≤ q) s.heap s.heap [] := va_S.rf
  obtain ⟨hz, hu, ⟨ho, ha1, ha2, ha3, ha4, hsb⟩, hd, hsp⟩ := id hw
  have hAB : ∀ q : Nat, (fun q : Nat => s.heap.size ≤ q) q → θ.2.2.2 ≤ q := fun q h => Nat.le_trans hz.2.1 h
  have hz0 := hz
  have hK := sz_K fx.2 hz
  refine lv_iload_n hx hb dX1_until_0 rfl (lv_at hl 1 rfl) ?_
  exact e_cT (As := [.int (iI a)]) (rest := []) fx hl (nno_needSpan θ l hl0 S0 _ hz a (by omega) (by omega)) dX1_until_1 k671 k672 k1 k673 hd_X1_needSpan rfl ⟨by decide, by decide⟩ (Nat.le_of_ble_eq_true rfl) ⟨by decide, by decide⟩ ⟨by decide, by decide⟩ hS (fun _ h => h) hxt hlk (fun H1 h1 h2 => ⟨rfl, h1, h2⟩)

set_option maxHeartbeats 4000000 in
set_option maxRecDepth 100000 in
theorem no2_until (θ : TH) (l : Launch) (hl0 : l.stackTraces = false) (S0 : State) (H : Heap) (u : Nat → Nat) (dt sy sm sd : Nat → Int) (bc rf kn : Int) (hw : CWR θ S0 u H dt sy sm sd bc rf kn) (a b c : Int) (h_0 : -2147483648 ≤ a ∧ a < 2147483648) (h_1 : -2147483648 ≤ b ∧ b < 2147483648) (h_2 : -2147483648 ≤ c ∧ c < 2147483648) (h_3 : 0 ≤ a ∧ a < 3) (h_4 : ¬ (0 ≤ b ∧ b < 6)) : TX l yX1_until cX1_until 5 (some .int) 7 110 [.ref (u 0), .int (iI a), .int (iI b), .int (iI c)] S0 H "java/lang/IndexOutOfBoundsException" := by
  refine ct_of (by decide +kernel) (Nat.le_of_ble_eq_true rfl) ?_
  intro pg en s mi args below meth co ls fx hs hr hlk hxt hin hl
  subst hs
  obtain ⟨hx, hb, hml, hown, hts⟩ := id fx.1
  have hS : va_S (fun q : Nat => s.heap.size ≤ q) s.heap s.heap [] := va_S.rf
  obtain ⟨hz, hu, ⟨ho, ha1, ha2, ha3, ha4, hsb⟩, hd, hsp⟩ := id hw
  have hAB : ∀ q : Nat, (fun q : Nat => s.heap.size ≤ q) q → θ.2.2.2 ≤ q := fun q h => Nat.le_trans hz.2.1 h
  have hz0 := hz
  have hK := sz_K fx.2 hz
  refine lv_iload_n hx hb dX1_until_0 rfl (lv_at hl 1 rfl) ?_
  refine c_N (As := [.int (iI a)]) (rest := []) fx hl (nok_needSpan l S0 _ a (by omega) (by omega)) dX1_until_1 k671 k672 k1 k673 hd_X1_needSpan rfl ⟨by decide, by decide⟩ (Nat.le_of_ble_eq_true rfl) ⟨by dsimp only; omega, by dsimp only; omega⟩ ?_
  refine lv_iload_n hx hb dX1_until_4 rfl (lv_at hl 2 rfl) ?_
  exact e_cT (As := [.int (iI b)]) (rest := []) fx hl (nno_needPlace θ l hl0 S0 _ hz b (by omega) (by omega)) dX1_until_5 k260 k261 k1 k262 hd_X1_needPlace rfl ⟨by decide, by decide⟩ (Nat.le_of_ble_eq_true rfl) ⟨by decide, by decide⟩ ⟨by decide, by decide⟩ hS (fun _ h => h) hxt hlk (fun H1 h1 h2 => ⟨rfl, h1, h2⟩)

set_option maxHeartbeats 4000000 in
set_option maxRecDepth 100000 in
theorem no3_until (θ : TH) (l : Launch) (hl0 : l.stackTraces = false) (S0 : State) (H : Heap) (u : Nat → Nat) (dt sy sm sd : Nat → Int) (bc rf kn : Int) (hw : CWR θ S0 u H dt sy sm sd bc rf kn) (a b c : Int) (h_0 : -2147483648 ≤ a ∧ a < 2147483648) (h_1 : -2147483648 ≤ b ∧ b < 2147483648) (h_2 : -2147483648 ≤ c ∧ c < 2147483648) (h_3 : 0 ≤ a ∧ a < 3) (h_4 : 0 ≤ b ∧ b < 6) (h_5 : ¬ (0 ≤ c ∧ c < 6)) : TX l yX1_until cX1_until 5 (some .int) 7 110 [.ref (u 0), .int (iI a), .int (iI b), .int (iI c)] S0 H "java/lang/IndexOutOfBoundsException" := by
  refine ct_of (by decide +kernel) (Nat.le_of_ble_eq_true rfl) ?_
  intro pg en s mi args below meth co ls fx hs hr hlk hxt hin hl
  subst hs
  obtain ⟨hx, hb, hml, hown, hts⟩ := id fx.1
  have hS : va_S (fun q : Nat => s.heap.size ≤ q) s.heap s.heap [] := va_S.rf
  obtain ⟨hz, hu, ⟨ho, ha1, ha2, ha3, ha4, hsb⟩, hd, hsp⟩ := id hw
  have hAB : ∀ q : Nat, (fun q : Nat => s.heap.size ≤ q) q → θ.2.2.2 ≤ q := fun q h => Nat.le_trans hz.2.1 h
  have hz0 := hz
  have hK := sz_K fx.2 hz
  refine lv_iload_n hx hb dX1_until_0 rfl (lv_at hl 1 rfl) ?_
  refine c_N (As := [.int (iI a)]) (rest := []) fx hl (nok_needSpan l S0 _ a (by omega) (by omega)) dX1_until_1 k671 k672 k1 k673 hd_X1_needSpan rfl ⟨by decide, by decide⟩ (Nat.le_of_ble_eq_true rfl) ⟨by dsimp only; omega, by dsimp only; omega⟩ ?_
  refine lv_iload_n hx hb dX1_until_4 rfl (lv_at hl 2 rfl) ?_
  refine c_N (As := [.int (iI b)]) (rest := []) fx hl (nok_needPlace l S0 _ b (by omega) (by omega)) dX1_until_5 k260 k261 k1 k262 hd_X1_needPlace rfl ⟨by decide, by decide⟩ (Nat.le_of_ble_eq_true rfl) ⟨by dsimp only; omega, by dsimp only; omega⟩ ?_
  refine lv_iload_n hx hb dX1_until_8 rfl (lv_at hl 3 rfl) ?_
  exact e_cT (As := [.int (iI c)]) (rest := []) fx hl (nno_needPlace θ l hl0 S0 _ hz c (by omega) (by omega)) dX1_until_9 k260 k261 k1 k262 hd_X1_needPlace rfl ⟨by decide, by decide⟩ (Nat.le_of_ble_eq_true rfl) ⟨by decide, by decide⟩ ⟨by decide, by decide⟩ hS (fun _ h => h) hxt hlk (fun H1 h1 h2 => ⟨rfl, h1, h2⟩)

set_option maxHeartbeats 4000000 in
set_option maxRecDepth 100000 in
theorem no4_until (θ : TH) (l : Launch) (hl0 : l.stackTraces = false) (S0 : State) (H : Heap) (u : Nat → Nat) (dt sy sm sd : Nat → Int) (bc rf kn : Int) (hw : CWR θ S0 u H dt sy sm sd bc rf kn) (a b c : Int) (h_0 : -2147483648 ≤ a ∧ a < 2147483648) (h_1 : -2147483648 ≤ b ∧ b < 2147483648) (h_2 : -2147483648 ≤ c ∧ c < 2147483648) (h_3 : 0 ≤ a ∧ a < 3) (h_4 : 0 ≤ b ∧ b < 6) (h_5 : 0 ≤ c ∧ c < 6) (h_6 : ¬ (dt b.toNat ≤ dt c.toNat)) : TX l yX1_until cX1_until 5 (some .int) 7 111 [.ref (u 0), .int (iI a), .int (iI b), .int (iI c)] S0 H "java/lang/IllegalStateException" := by
  refine ct_of (by decide +kernel) (Nat.le_of_ble_eq_true rfl) ?_
  intro pg en s mi args below meth co ls fx hs hr hlk hxt hin hl
  subst hs
  obtain ⟨hx, hb, hml, hown, hts⟩ := id fx.1
  have hS : va_S (fun q : Nat => s.heap.size ≤ q) s.heap s.heap [] := va_S.rf
  obtain ⟨hz, hu, ⟨ho, ha1, ha2, ha3, ha4, hsb⟩, hd, hsp⟩ := id hw
  have hAB : ∀ q : Nat, (fun q : Nat => s.heap.size ≤ q) q → θ.2.2.2 ≤ q := fun q h => Nat.le_trans hz.2.1 h
  have hz0 := hz
  have hK := sz_K fx.2 hz
  refine lv_iload_n hx hb dX1_until_0 rfl (lv_at hl 1 rfl) ?_
  refine c_N (As := [.int (iI a)]) (rest := []) fx hl (nok_needSpan l S0 _ a (by omega) (by omega)) dX1_until_1 k671 k672 k1 k673 hd_X1_needSpan rfl ⟨by decide, by decide⟩ (Nat.le_of_ble_eq_true rfl) ⟨by dsimp only; omega, by dsimp only; omega⟩ ?_
  refine lv_iload_n hx hb dX1_until_4 rfl (lv_at hl 2 rfl) ?_
  refine c_N (As := [.int (iI b)]) (rest := []) fx hl (nok_needPlace l S0 _ b (by omega) (by omega)) dX1_until_5 k260 k261 k1 k262 hd_X1_needPlace rfl ⟨by decide, by decide⟩ (Nat.le_of_ble_eq_true rfl) ⟨by dsimp only; omega, by dsimp only; omega⟩ ?_
  refine lv_iload_n hx hb dX1_until_8 rfl (lv_at hl 3 rfl) ?_
  refine c_N (As := [.int (iI c)]) (rest := []) fx hl (nok_needPlace l S0 _ c (by omega) (by omega)) dX1_until_9 k260 k261 k1 k262 hd_X1_needPlace rfl ⟨by decide, by decide⟩ (Nat.le_of_ble_eq_true rfl) ⟨by dsimp only; omega, by dsimp only; omega⟩ ?_
  refine lv_aload_n hx hb dX1_until_12 rfl (lv_at hl 0 rfl) ?_
  refine r_get (θ := θ) (C := RX1) (T := TX1) (N := 8) (ci := 7) hx hb hts gwX1 hown hK ho rfl 0 (by decide) k73 (fun _ h => h) (v := .ref (u 1)) rfl dX1_until_13 ?_
  refine lv_iload_n hx hb dX1_until_16 rfl (lv_at hl 3 rfl) ?_
  refine r_iald (θ := θ) hx hb hK ha1 (i := c) (by omega) (by decide) dX1_until_17 ?_
  have tr1 := hd (c.toNat) (by omega)
  refine lv_aload_n hx hb dX1_until_18 rfl (lv_at hl 0 rfl) ?_
  refine r_get (θ := θ) (C := RX1) (T := TX1) (N := 8) (ci := 7) hx hb hts gwX1 hown hK ho rfl 0 (by decide) k73 (fun _ h => h) (v := .ref (u 1)) rfl dX1_until_19 ?_
  refine lv_iload_n hx hb dX1_until_22 rfl (lv_at hl 2 rfl) ?_
  refine r_iald (θ := θ) hx hb hK ha1 (i := b) (by omega) (by decide) dX1_until_23 ?_
  have tr2 := hd (b.toNat) (by omega)
  exact e_cT (As := [.int (iI (dt c.toNat)), .int (iI (dt b.toNat))]) (rest := []) fx hl (nno_needNotAhead θ l hl0 S0 _ hz (dt c.toNat) (dt b.toNat) (by omega) (by omega) (by omega)) dX1_until_24 k843 k844 k1 k845 hd_X1_needNotAhead rfl ⟨by decide, by decide⟩ (Nat.le_of_ble_eq_true rfl) ⟨by decide, by decide⟩ ⟨by decide, by decide⟩ hS (fun _ h => h) hxt hlk (fun H1 h1 h2 => ⟨rfl, h1, h2⟩)

set_option maxHeartbeats 4000000 in
set_option maxRecDepth 100000 in
theorem ok_anniversaries (θ : TH) (l : Launch) (hl0 : l.stackTraces = false) (S0 : State) (H : Heap) (u : Nat → Nat) (dt sy sm sd : Nat → Int) (bc rf kn : Int) (hw : CWR θ S0 u H dt sy sm sd bc rf kn) (a b q : Int) (h_0 : -2147483648 ≤ a ∧ a < 2147483648) (h_1 : -2147483648 ≤ b ∧ b < 2147483648) (h_2 : -2147483648 ≤ q ∧ q < 2147483648) (h_3 : q = 0 ∨ q = 1) (h_4 : 0 ≤ a ∧ a < 6) (h_5 : 0 ≤ b ∧ b < 6) (h_6 : ¬ (dt b.toNat < dt a.toNat ∨ 40000 < dt b.toNat - dt a.toNat)) : CT l yX1_anniversaries cX1_anniversaries 4 (some .int) 7 160 0 0 [.ref (u 0), .int (iI a), .int (iI b), .int (iI q)] S0 H (fun v9 H1 => v9 = some (.int (iI (unI (dt a.toNat) (dt b.toNat) q))) ∧ CW θ u H1 dt sy sm sd bc rf kn) (fun _ _ => False) (UA u H.size) := by
  refine ct_of (by decide +kernel) (Nat.le_of_ble_eq_true rfl) ?_
  intro pg en s mi args below meth co ls fx hs hr hlk hxt hin hl
  subst hs
  obtain ⟨hx, hb, hml, hown, hts⟩ := id fx.1
  have hS : va_S (UA u s.heap.size) s.heap s.heap [] := va_S.rf
  obtain ⟨hz, hu, ⟨ho, ha1, ha2, ha3, ha4, hsb⟩, hd, hsp⟩ := id hw
  have hAB := ua_b hu hz.2.1
  have hz0 := hz
  have hK := sz_K fx.2 hz
  refine lv_iload_n hx hb dX1_anniversaries_0 rfl (lv_at hl 1 rfl) ?_
  refine c_N (As := [.int (iI a)]) (rest := []) fx hl (nok_needPlace l S0 _ a (by omega) (by omega)) dX1_anniversaries_1 k260 k261 k1 k262 hd_X1_needPlace rfl ⟨by decide, by decide⟩ (Nat.le_of_ble_eq_true rfl) ⟨by dsimp only; omega, by dsimp only; omega⟩ ?_
  refine lv_iload_n hx hb dX1_anniversaries_4 rfl (lv_at hl 2 rfl) ?_
  refine c_N (As := [.int (iI b)]) (rest := []) fx hl (nok_needPlace l S0 _ b (by omega) (by omega)) dX1_anniversaries_5 k260 k261 k1 k262 hd_X1_needPlace rfl ⟨by decide, by decide⟩ (Nat.le_of_ble_eq_true rfl) ⟨by dsimp only; omega, by dsimp only; omega⟩ ?_
  refine lv_aload_n hx hb dX1_anniversaries_8 rfl (lv_at hl 0 rfl) ?_
  refine r_get (θ := θ) (C := RX1) (T := TX1) (N := 8) (ci := 7) hx hb hts gwX1 hown hK ho rfl 0 (by decide) k73 (fun _ h => h) (v := .ref (u 1)) rfl dX1_anniversaries_9 ?_
  refine lv_iload_n hx hb dX1_anniversaries_12 rfl (lv_at hl 1 rfl) ?_
  refine r_iald (θ := θ) hx hb hK ha1 (i := a) (by omega) (by decide) dX1_anniversaries_13 ?_
  have tr1 := hd (a.toNat) (by omega)
  refine lv_aload_n hx hb dX1_anniversaries_14 rfl (lv_at hl 0 rfl) ?_
  refine r_get (θ := θ) (C := RX1) (T := TX1) (N := 8) (ci := 7) hx hb hts gwX1 hown hK ho rfl 0 (by decide) k73 (fun _ h => h) (v := .ref (u 1)) rfl dX1_anniversaries_15 ?_
  refine lv_iload_n hx hb dX1_anniversaries_18 rfl (lv_at hl 2 rfl) ?_
  refine r_iald (θ := θ) hx hb hK ha1 (i := b) (by omega) (by decide) dX1_anniversaries_19 ?_
  have tr2 := hd (b.toNat) (by omega)
  obtain ⟨r3, hr3⟩ := bex ((dt b.toNat) < (dt a.toNat) ∨ 40000 < (dt b.toNat) - (dt a.toNat))
  refine c_P (As := [.int (iI (dt a.toNat)), .int (iI (dt b.toNat))]) (rest := []) fx hl (pm_X1_isRefused l (dt a.toNat) (dt b.toNat) r3 hr3 (by omega) (by omega)) dX1_anniversaries_20 k978 k979 k1 k980 hd_X1_isRefused rfl ⟨by decide, by decide⟩ (Nat.le_of_ble_eq_true rfl) ⟨by omega, by omega⟩ ?_
  have br3 : r3 = 0 ∨ r3 = 1 := hr3.elim (fun h => Or.inr h.1) (fun h => Or.inl h.1)
  refine q_ieq (tgt := 31) hx hb dX1_anniversaries_23 (by decide) (by omega) (fun c4 => ?_) (fun c4 => ?_)
  · refine lv_aload_n hx hb dX1_anniversaries_31 rfl (lv_at hl 0 rfl) ?_
    refine r_get (θ := θ) (C := RX1) (T := TX1) (N := 8) (ci := 7) hx hb hts gwX1 hown hK ho rfl 0 (by decide) k73 (fun _ h => h) (v := .ref (u 1)) rfl dX1_anniversaries_32 ?_
    refine lv_iload_n hx hb dX1_anniversaries_35 rfl (lv_at hl 1 rfl) ?_
    refine r_iald (θ := θ) hx hb hK ha1 (i := a) (by omega) (by decide) dX1_anniversaries_36 ?_
    have tr5 := hd (a.toNat) (by omega)
    refine lv_aload_n hx hb dX1_anniversaries_37 rfl (lv_at hl 0 rfl) ?_
    refine r_get (θ := θ) (C := RX1) (T := TX1) (N := 8) (ci := 7) hx hb hts gwX1 hown hK ho rfl 0 (by decide) k73 (fun _ h => h) (v := .ref (u 1)) rfl dX1_anniversaries_38 ?_
    refine lv_iload_n hx hb dX1_anniversaries_41 rfl (lv_at hl 2 rfl) ?_
    refine r_iald (θ := θ) hx hb hK ha1 (i := b) (by omega) (by decide) dX1_anniversaries_42 ?_
    have tr6 := hd (b.toNat) (by omega)
    refine lv_iload_n hx hb dX1_anniversaries_43 rfl (lv_at hl 3 rfl) ?_
    refine c_P (As := [.int (iI (dt a.toNat)), .int (iI (dt b.toNat)), .int (iI q)]) (rest := []) fx hl (pm_X0_anniversariesUntil l (dt a.toNat) (dt b.toNat) q (by omega) (by omega) (by omega)) dX1_anniversaries_44 k986 k987 k13 k988 hd_X0_anniversariesUntil rfl ⟨by decide, by decide⟩ (Nat.le_of_ble_eq_true rfl) ⟨by omega, by omega⟩ ?_
    have t0z7 := un_b (dt a.toNat) (dt b.toNat) q
    have t1z7 := mI_bd (dt a.toNat)
    have t2z7 := mI_bd (dt b.toNat)
    first | exact e_i hx hb hr hlk hS dX1_anniversaries_47 (Nat.le_refl _) (Nat.le_refl _) ⟨ex_i (by subst_vars; rfl), by first | exact ⟨ho, ha1, ha2, ha3, ha4, hsb⟩ | (subst_vars; exact ⟨ho, ha1, ha2, ha3, ha4, hsb⟩)⟩ | exact (show False by omega).elim
  · refine lv_aload_n hx hb dX1_anniversaries_26 rfl (lv_at hl 0 rfl) ?_
    have hcw := hw
    refine c_W (As := []) (rest := []) (b := u 0) (C := RX1) fx hl (ok_refuse θ l hl0 S0 _ u _ _ _ _ _ _ _ hcw ) (ob_recv hK ho rfl) dX1_anniversaries_27 k982 k984 ks9 k1 k985 hd_X1_refuse rfl ⟨by decide, by decide⟩ (Nat.le_of_ble_eq_true rfl) ⟨by dsimp only; omega, by dsimp only; omega⟩ hS (fun q h => h.elim Or.inl (fun h => Or.inr (Nat.le_trans hS.1 h))) (fun H8 locs hwH8 hszH8 hkH8 hS => ?_)
    obtain ⟨hoH8, ha1H8, ha2H8, ha3H8, ha4H8, hsbH8⟩ := hwH8
    have hzH8 := hz0.at hAB hS
    first | exact e_i hx hb hr hlk hS dX1_anniversaries_30 (Nat.le_refl _) (Nat.le_refl _) ⟨ex_i (by subst_vars; rfl), by first | exact ⟨hoH8, ha1H8, ha2H8, ha3H8, ha4H8, hsbH8⟩ | (subst_vars; exact ⟨hoH8, ha1H8, ha2H8, ha3H8, ha4H8, hsbH8⟩)⟩ | exact (show False by omega).elim

set_option maxHeartbeats 4000000 in
set_option maxRecDepth 100000 in
theorem ok_anniversaries_r (θ : TH) (l : Launch) (hl0 : l.stackTraces = false) (S0 : State) (H : Heap) (u : Nat → Nat) (dt sy sm sd : Nat → Int) (bc rf kn : Int) (hw : CWR θ S0 u H dt sy sm sd bc rf kn) (a b q : Int) (h_0 : -2147483648 ≤ a ∧ a < 2147483648) (h_1 : -2147483648 ≤ b ∧ b < 2147483648) (h_2 : -2147483648 ≤ q ∧ q < 2147483648) (h_3 : q = 0 ∨ q = 1) (h_4 : 0 ≤ a ∧ a < 6) (h_5 : 0 ≤ b ∧ b < 6) (h_6 : dt b.toNat < dt a.toNat ∨ 40000 < dt b.toNat - dt a.toNat) : CT l yX1_anniversaries cX1_anniversaries 4 (some .int) 7 160 0 0 [.ref (u 0), .int (iI a), .int (iI b), .int (iI q)] S0 H (fun v9 H1 => v9 = some (.int (iI (-9))) ∧ CW θ u H1 dt sy sm sd bc (rf + 1) kn) (fun _ _ => False) (UA u H.size) := by
  refine ct_of (by decide +kernel) (Nat.le_of_ble_eq_true rfl) ?_
  intro pg en s mi args below meth co ls fx hs hr hlk hxt hin hl
  subst hs
  obtain ⟨hx, hb, hml, hown, hts⟩ := id fx.1
  have hS : va_S (UA u s.heap.size) s.heap s.heap [] := va_S.rf
  obtain ⟨hz, hu, ⟨ho, ha1, ha2, ha3, ha4, hsb⟩, hd, hsp⟩ := id hw
  have hAB := ua_b hu hz.2.1
  have hz0 := hz
  have hK := sz_K fx.2 hz
  refine lv_iload_n hx hb dX1_anniversaries_0 rfl (lv_at hl 1 rfl) ?_
  refine c_N (As := [.int (iI a)]) (rest := []) fx hl (nok_needPlace l S0 _ a (by omega) (by omega)) dX1_anniversaries_1 k260 k261 k1 k262 hd_X1_needPlace rfl ⟨by decide, by decide⟩ (Nat.le_of_ble_eq_true rfl) ⟨by dsimp only; omega, by dsimp only; omega⟩ ?_
  refine lv_iload_n hx hb dX1_anniversaries_4 rfl (lv_at hl 2 rfl) ?_
  refine c_N (As := [.int (iI b)]) (rest := []) fx hl (nok_needPlace l S0 _ b (by omega) (by omega)) dX1_anniversaries_5 k260 k261 k1 k262 hd_X1_needPlace rfl ⟨by decide, by decide⟩ (Nat.le_of_ble_eq_true rfl) ⟨by dsimp only; omega, by dsimp only; omega⟩ ?_
  refine lv_aload_n hx hb dX1_anniversaries_8 rfl (lv_at hl 0 rfl) ?_
  refine r_get (θ := θ) (C := RX1) (T := TX1) (N := 8) (ci := 7) hx hb hts gwX1 hown hK ho rfl 0 (by decide) k73 (fun _ h => h) (v := .ref (u 1)) rfl dX1_anniversaries_9 ?_
  refine lv_iload_n hx hb dX1_anniversaries_12 rfl (lv_at hl 1 rfl) ?_
  refine r_iald (θ := θ) hx hb hK ha1 (i := a) (by omega) (by decide) dX1_anniversaries_13 ?_
  have tr1 := hd (a.toNat) (by omega)
  refine lv_aload_n hx hb dX1_anniversaries_14 rfl (lv_at hl 0 rfl) ?_
  refine r_get (θ := θ) (C := RX1) (T := TX1) (N := 8) (ci := 7) hx hb hts gwX1 hown hK ho rfl 0 (by decide) k73 (fun _ h => h) (v := .ref (u 1)) rfl dX1_anniversaries_15 ?_
  refine lv_iload_n hx hb dX1_anniversaries_18 rfl (lv_at hl 2 rfl) ?_
  refine r_iald (θ := θ) hx hb hK ha1 (i := b) (by omega) (by decide) dX1_anniversaries_19 ?_
  have tr2 := hd (b.toNat) (by omega)
  obtain ⟨r3, hr3⟩ := bex ((dt b.toNat) < (dt a.toNat) ∨ 40000 < (dt b.toNat) - (dt a.toNat))
  refine c_P (As := [.int (iI (dt a.toNat)), .int (iI (dt b.toNat))]) (rest := []) fx hl (pm_X1_isRefused l (dt a.toNat) (dt b.toNat) r3 hr3 (by omega) (by omega)) dX1_anniversaries_20 k978 k979 k1 k980 hd_X1_isRefused rfl ⟨by decide, by decide⟩ (Nat.le_of_ble_eq_true rfl) ⟨by omega, by omega⟩ ?_
  have br3 : r3 = 0 ∨ r3 = 1 := hr3.elim (fun h => Or.inr h.1) (fun h => Or.inl h.1)
  refine q_ieq (tgt := 31) hx hb dX1_anniversaries_23 (by decide) (by omega) (fun c4 => ?_) (fun c4 => ?_)
  · refine lv_aload_n hx hb dX1_anniversaries_31 rfl (lv_at hl 0 rfl) ?_
    refine r_get (θ := θ) (C := RX1) (T := TX1) (N := 8) (ci := 7) hx hb hts gwX1 hown hK ho rfl 0 (by decide) k73 (fun _ h => h) (v := .ref (u 1)) rfl dX1_anniversaries_32 ?_
    refine lv_iload_n hx hb dX1_anniversaries_35 rfl (lv_at hl 1 rfl) ?_
    refine r_iald (θ := θ) hx hb hK ha1 (i := a) (by omega) (by decide) dX1_anniversaries_36 ?_
    have tr5 := hd (a.toNat) (by omega)
    refine lv_aload_n hx hb dX1_anniversaries_37 rfl (lv_at hl 0 rfl) ?_
    refine r_get (θ := θ) (C := RX1) (T := TX1) (N := 8) (ci := 7) hx hb hts gwX1 hown hK ho rfl 0 (by decide) k73 (fun _ h => h) (v := .ref (u 1)) rfl dX1_anniversaries_38 ?_
    refine lv_iload_n hx hb dX1_anniversaries_41 rfl (lv_at hl 2 rfl) ?_
    refine r_iald (θ := θ) hx hb hK ha1 (i := b) (by omega) (by decide) dX1_anniversaries_42 ?_
    have tr6 := hd (b.toNat) (by omega)
    refine lv_iload_n hx hb dX1_anniversaries_43 rfl (lv_at hl 3 rfl) ?_
    refine c_P (As := [.int (iI (dt a.toNat)), .int (iI (dt b.toNat)), .int (iI q)]) (rest := []) fx hl (pm_X0_anniversariesUntil l (dt a.toNat) (dt b.toNat) q (by omega) (by omega) (by omega)) dX1_anniversaries_44 k986 k987 k13 k988 hd_X0_anniversariesUntil rfl ⟨by decide, by decide⟩ (Nat.le_of_ble_eq_true rfl) ⟨by omega, by omega⟩ ?_
    have t0z7 := un_b (dt a.toNat) (dt b.toNat) q
    have t1z7 := mI_bd (dt a.toNat)
    have t2z7 := mI_bd (dt b.toNat)
    first | exact e_i hx hb hr hlk hS dX1_anniversaries_47 (Nat.le_refl _) (Nat.le_refl _) ⟨ex_i (by omega), by first | exact ⟨ho, ha1, ha2, ha3, ha4, hsb⟩ | (subst_vars; exact ⟨ho, ha1, ha2, ha3, ha4, hsb⟩)⟩ | exact (show False by omega).elim
  · refine lv_aload_n hx hb dX1_anniversaries_26 rfl (lv_at hl 0 rfl) ?_
    have hcw := hw
    refine c_W (As := []) (rest := []) (b := u 0) (C := RX1) fx hl (ok_refuse θ l hl0 S0 _ u _ _ _ _ _ _ _ hcw ) (ob_recv hK ho rfl) dX1_anniversaries_27 k982 k984 ks9 k1 k985 hd_X1_refuse rfl ⟨by decide, by decide⟩ (Nat.le_of_ble_eq_true rfl) ⟨by dsimp only; omega, by dsimp only; omega⟩ hS (fun q h => h.elim Or.inl (fun h => Or.inr (Nat.le_trans hS.1 h))) (fun H8 locs hwH8 hszH8 hkH8 hS => ?_)
    obtain ⟨hoH8, ha1H8, ha2H8, ha3H8, ha4H8, hsbH8⟩ := hwH8
    have hzH8 := hz0.at hAB hS
    first | exact e_i hx hb hr hlk hS dX1_anniversaries_30 (Nat.le_refl _) (Nat.le_refl _) ⟨ex_i (by omega), by first | exact ⟨hoH8, ha1H8, ha2H8, ha3H8, ha4H8, hsbH8⟩ | (subst_vars; exact ⟨hoH8, ha1H8, ha2H8, ha3H8, ha4H8, hsbH8⟩)⟩ | exact (show False by omega).elim

set_option maxHeartbeats 4000000 in
set_option maxRecDepth 100000 in
theorem no1_anniversaries (θ : TH) (l : Launch) (hl0 : l.stackTraces = false) (S0 : State) (H : Heap) (u : Nat → Nat) (dt sy sm sd : Nat → Int) (bc rf kn : Int) (hw : CWR θ S0 u H dt sy sm sd bc rf kn) (a b q : Int) (h_0 : -2147483648 ≤ a ∧ a < 2147483648) (h_1 : -2147483648 ≤ b ∧ b < 2147483648) (h_2 : -2147483648 ≤ q ∧ q < 2147483648) (h_3 : q = 0 ∨ q = 1) (h_4 : ¬ (0 ≤ a ∧ a < 6)) : TX l yX1_anniversaries cX1_anniversaries 4 (some .int) 7 110 [.ref (u 0), .int (iI a), .int (iI b), .int (iI q)] S0 H "java/lang/IndexOutOfBoundsException" := by
  refine ct_of (by decide +kernel) (Nat.le_of_ble_eq_true rfl) ?_
  intro pg en s mi args below meth co ls fx hs hr hlk hxt hin hl
  subst hs
  obtain ⟨hx, hb, hml, hown, hts⟩ := id fx.1
  have hS : va_S (fun q : Nat => s.heap.size ≤ q) s.heap s.heap [] := va_S.rf
  obtain ⟨hz, hu, ⟨ho, ha1, ha2, ha3, ha4, hsb⟩, hd, hsp⟩ := id hw
  have hAB : ∀ q : Nat, (fun q : Nat => s.heap.size ≤ q) q → θ.2.2.2 ≤ q := fun q h => Nat.le_trans hz.2.1 h
  have hz0 := hz
  have hK := sz_K fx.2 hz
  refine lv_iload_n hx hb dX1_anniversaries_0 rfl (lv_at hl 1 rfl) ?_
  exact e_cT (As := [.int (iI a)]) (rest := []) fx hl (nno_needPlace θ l hl0 S0 _ hz a (by omega) (by omega)) dX1_anniversaries_1 k260 k261 k1 k262 hd_X1_needPlace rfl ⟨by decide, by decide⟩ (Nat.le_of_ble_eq_true rfl) ⟨by decide, by decide⟩ ⟨by decide, by decide⟩ hS (fun _ h => h) hxt hlk (fun H1 h1 h2 => ⟨rfl, h1, h2⟩)

set_option maxHeartbeats 4000000 in
set_option maxRecDepth 100000 in
theorem no2_anniversaries (θ : TH) (l : Launch) (hl0 : l.stackTraces = false) (S0 : State) (H : Heap) (u : Nat → Nat) (dt sy sm sd : Nat → Int) (bc rf kn : Int) (hw : CWR θ S0 u H dt sy sm sd bc rf kn) (a b q : Int) (h_0 : -2147483648 ≤ a ∧ a < 2147483648) (h_1 : -2147483648 ≤ b ∧ b < 2147483648) (h_2 : -2147483648 ≤ q ∧ q < 2147483648) (h_3 : q = 0 ∨ q = 1) (h_4 : 0 ≤ a ∧ a < 6) (h_5 : ¬ (0 ≤ b ∧ b < 6)) : TX l yX1_anniversaries cX1_anniversaries 4 (some .int) 7 110 [.ref (u 0), .int (iI a), .int (iI b), .int (iI q)] S0 H "java/lang/IndexOutOfBoundsException" := by
  refine ct_of (by decide +kernel) (Nat.le_of_ble_eq_true rfl) ?_
  intro pg en s mi args below meth co ls fx hs hr hlk hxt hin hl
  subst hs
  obtain ⟨hx, hb, hml, hown, hts⟩ := id fx.1
  have hS : va_S (fun q : Nat => s.heap.size ≤ q) s.heap s.heap [] := va_S.rf
  obtain ⟨hz, hu, ⟨ho, ha1, ha2, ha3, ha4, hsb⟩, hd, hsp⟩ := id hw
  have hAB : ∀ q : Nat, (fun q : Nat => s.heap.size ≤ q) q → θ.2.2.2 ≤ q := fun q h => Nat.le_trans hz.2.1 h
  have hz0 := hz
  have hK := sz_K fx.2 hz
  refine lv_iload_n hx hb dX1_anniversaries_0 rfl (lv_at hl 1 rfl) ?_
  refine c_N (As := [.int (iI a)]) (rest := []) fx hl (nok_needPlace l S0 _ a (by omega) (by omega)) dX1_anniversaries_1 k260 k261 k1 k262 hd_X1_needPlace rfl ⟨by decide, by decide⟩ (Nat.le_of_ble_eq_true rfl) ⟨by dsimp only; omega, by dsimp only; omega⟩ ?_
  refine lv_iload_n hx hb dX1_anniversaries_4 rfl (lv_at hl 2 rfl) ?_
  exact e_cT (As := [.int (iI b)]) (rest := []) fx hl (nno_needPlace θ l hl0 S0 _ hz b (by omega) (by omega)) dX1_anniversaries_5 k260 k261 k1 k262 hd_X1_needPlace rfl ⟨by decide, by decide⟩ (Nat.le_of_ble_eq_true rfl) ⟨by decide, by decide⟩ ⟨by decide, by decide⟩ hS (fun _ h => h) hxt hlk (fun H1 h1 h2 => ⟨rfl, h1, h2⟩)

set_option maxHeartbeats 4000000 in
set_option maxRecDepth 100000 in
theorem ok_toNext (θ : TH) (l : Launch) (hl0 : l.stackTraces = false) (S0 : State) (H : Heap) (u : Nat → Nat) (dt sy sm sd : Nat → Int) (bc rf kn : Int) (hw : CWR θ S0 u H dt sy sm sd bc rf kn) (a b q : Int) (h_0 : -2147483648 ≤ a ∧ a < 2147483648) (h_1 : -2147483648 ≤ b ∧ b < 2147483648) (h_2 : -2147483648 ≤ q ∧ q < 2147483648) (h_3 : q = 0 ∨ q = 1) (h_4 : 0 ≤ a ∧ a < 6) (h_5 : 0 ≤ b ∧ b < 6) (h_6 : ¬ (dt b.toNat < dt a.toNat ∨ 40000 < dt b.toNat - dt a.toNat)) : CT l yX1_toNext cX1_toNext 5 (some .int) 7 160 0 0 [.ref (u 0), .int (iI a), .int (iI b), .int (iI q)] S0 H (fun v9 H1 => v9 = some (.int (iI (anI (dt a.toNat) (unI (dt a.toNat) (dt b.toNat) q + 1) q - dt b.toNat))) ∧ CW θ u H1 dt sy sm sd bc rf kn) (fun _ _ => False) (UA u H.size) := by
  refine ct_of (by decide +kernel) (Nat.le_of_ble_eq_true rfl) ?_
  intro pg en s mi args below meth co ls fx hs hr hlk hxt hin hl
  subst hs
  obtain ⟨hx, hb, hml, hown, hts⟩ := id fx.1
  have hS : va_S (UA u s.heap.size) s.heap s.heap [] := va_S.rf
  obtain ⟨hz, hu, ⟨ho, ha1, ha2, ha3, ha4, hsb⟩, hd, hsp⟩ := id hw
  have hAB := ua_b hu hz.2.1
  have hz0 := hz
  have hK := sz_K fx.2 hz
  refine lv_iload_n hx hb dX1_toNext_0 rfl (lv_at hl 1 rfl) ?_
  refine c_N (As := [.int (iI a)]) (rest := []) fx hl (nok_needPlace l S0 _ a (by omega) (by omega)) dX1_toNext_1 k260 k261 k1 k262 hd_X1_needPlace rfl ⟨by decide, by decide⟩ (Nat.le_of_ble_eq_true rfl) ⟨by dsimp only; omega, by dsimp only; omega⟩ ?_
  refine lv_iload_n hx hb dX1_toNext_4 rfl (lv_at hl 2 rfl) ?_
  refine c_N (As := [.int (iI b)]) (rest := []) fx hl (nok_needPlace l S0 _ b (by omega) (by omega)) dX1_toNext_5 k260 k261 k1 k262 hd_X1_needPlace rfl ⟨by decide, by decide⟩ (Nat.le_of_ble_eq_true rfl) ⟨by dsimp only; omega, by dsimp only; omega⟩ ?_
  refine lv_aload_n hx hb dX1_toNext_8 rfl (lv_at hl 0 rfl) ?_
  refine r_get (θ := θ) (C := RX1) (T := TX1) (N := 8) (ci := 7) hx hb hts gwX1 hown hK ho rfl 0 (by decide) k73 (fun _ h => h) (v := .ref (u 1)) rfl dX1_toNext_9 ?_
  refine lv_iload_n hx hb dX1_toNext_12 rfl (lv_at hl 1 rfl) ?_
  refine r_iald (θ := θ) hx hb hK ha1 (i := a) (by omega) (by decide) dX1_toNext_13 ?_
  have tr1 := hd (a.toNat) (by omega)
  refine lv_aload_n hx hb dX1_toNext_14 rfl (lv_at hl 0 rfl) ?_
  refine r_get (θ := θ) (C := RX1) (T := TX1) (N := 8) (ci := 7) hx hb hts gwX1 hown hK ho rfl 0 (by decide) k73 (fun _ h => h) (v := .ref (u 1)) rfl dX1_toNext_15 ?_
  refine lv_iload_n hx hb dX1_toNext_18 rfl (lv_at hl 2 rfl) ?_
  refine r_iald (θ := θ) hx hb hK ha1 (i := b) (by omega) (by decide) dX1_toNext_19 ?_
  have tr2 := hd (b.toNat) (by omega)
  obtain ⟨r3, hr3⟩ := bex ((dt b.toNat) < (dt a.toNat) ∨ 40000 < (dt b.toNat) - (dt a.toNat))
  refine c_P (As := [.int (iI (dt a.toNat)), .int (iI (dt b.toNat))]) (rest := []) fx hl (pm_X1_isRefused l (dt a.toNat) (dt b.toNat) r3 hr3 (by omega) (by omega)) dX1_toNext_20 k978 k979 k1 k980 hd_X1_isRefused rfl ⟨by decide, by decide⟩ (Nat.le_of_ble_eq_true rfl) ⟨by omega, by omega⟩ ?_
  have br3 : r3 = 0 ∨ r3 = 1 := hr3.elim (fun h => Or.inr h.1) (fun h => Or.inl h.1)
  refine q_ieq (tgt := 31) hx hb dX1_toNext_23 (by decide) (by omega) (fun c4 => ?_) (fun c4 => ?_)
  · refine lv_aload_n hx hb dX1_toNext_31 rfl (lv_at hl 0 rfl) ?_
    refine r_get (θ := θ) (C := RX1) (T := TX1) (N := 8) (ci := 7) hx hb hts gwX1 hown hK ho rfl 0 (by decide) k73 (fun _ h => h) (v := .ref (u 1)) rfl dX1_toNext_32 ?_
    refine lv_iload_n hx hb dX1_toNext_35 rfl (lv_at hl 1 rfl) ?_
    refine r_iald (θ := θ) hx hb hK ha1 (i := a) (by omega) (by decide) dX1_toNext_36 ?_
    have tr5 := hd (a.toNat) (by omega)
    refine lv_aload_n hx hb dX1_toNext_37 rfl (lv_at hl 0 rfl) ?_
    refine r_get (θ := θ) (C := RX1) (T := TX1) (N := 8) (ci := 7) hx hb hts gwX1 hown hK ho rfl 0 (by decide) k73 (fun _ h => h) (v := .ref (u 1)) rfl dX1_toNext_38 ?_
    refine lv_iload_n hx hb dX1_toNext_41 rfl (lv_at hl 2 rfl) ?_
    refine r_iald (θ := θ) hx hb hK ha1 (i := b) (by omega) (by decide) dX1_toNext_42 ?_
    have tr6 := hd (b.toNat) (by omega)
    refine lv_iload_n hx hb dX1_toNext_43 rfl (lv_at hl 3 rfl) ?_
    refine c_P (As := [.int (iI (dt a.toNat)), .int (iI (dt b.toNat)), .int (iI q)]) (rest := []) fx hl (pm_X0_anniversariesUntil l (dt a.toNat) (dt b.toNat) q (by omega) (by omega) (by omega)) dX1_toNext_44 k986 k987 k13 k988 hd_X0_anniversariesUntil rfl ⟨by decide, by decide⟩ (Nat.le_of_ble_eq_true rfl) ⟨by omega, by omega⟩ ?_
    have t0z7 := un_b (dt a.toNat) (dt b.toNat) q
    have t1z7 := mI_bd (dt a.toNat)
    have t2z7 := mI_bd (dt b.toNat)
    refine q_con hx hb dX1_toNext_47 ?_
    refine q_add hx hb dX1_toNext_48 ?_
    refine q_nm (fun z8 ez8 => ?_)
    refine lv_istore (lv' := [(4, .int (iI z8)), (0, .ref (u 0)), (1, .int (iI a)), (2, .int (iI b)), (3, .int (iI q))]) hx hb dX1_toNext_49 hl (by decide) rfl (fun ls hl => ?_)
    refine lv_aload_n hx hb dX1_toNext_51 rfl (lv_at hl 1 rfl) ?_
    refine r_get (θ := θ) (C := RX1) (T := TX1) (N := 8) (ci := 7) hx hb hts gwX1 hown hK ho rfl 0 (by decide) k73 (fun _ h => h) (v := .ref (u 1)) rfl dX1_toNext_52 ?_
    refine lv_iload_n hx hb dX1_toNext_55 rfl (lv_at hl 2 rfl) ?_
    refine r_iald (θ := θ) hx hb hK ha1 (i := a) (by omega) (by decide) dX1_toNext_56 ?_
    have tr9 := hd (a.toNat) (by omega)
    refine lv_iload hx hb dX1_toNext_57 (lv_at hl 0 rfl) ?_
    refine lv_iload_n hx hb dX1_toNext_59 rfl (lv_at hl 4 rfl) ?_
    refine c_P (As := [.int (iI (dt a.toNat)), .int (iI z8), .int (iI q)]) (rest := []) fx hl (pm_X0_anniversary l (dt a.toNat) z8 q (by omega) (by omega) (by omega)) dX1_toNext_60 k1001 k991 k13 k992 hd_X0_anniversary rfl ⟨by decide, by decide⟩ (Nat.le_of_ble_eq_true rfl) ⟨by omega, by omega⟩ ?_
    have t0z10 := anI_b (dt a.toNat) z8 q
    have t1z10 := shI_bd (dt a.toNat) (12 * z8)
    refine lv_aload_n hx hb dX1_toNext_63 rfl (lv_at hl 1 rfl) ?_
    refine r_get (θ := θ) (C := RX1) (T := TX1) (N := 8) (ci := 7) hx hb hts gwX1 hown hK ho rfl 0 (by decide) k73 (fun _ h => h) (v := .ref (u 1)) rfl dX1_toNext_64 ?_
    refine lv_iload_n hx hb dX1_toNext_67 rfl (lv_at hl 3 rfl) ?_
    refine r_iald (θ := θ) hx hb hK ha1 (i := b) (by omega) (by decide) dX1_toNext_68 ?_
    have tr11 := hd (b.toNat) (by omega)
    refine q_sub hx hb dX1_toNext_69 ?_
    first | exact e_i hx hb hr hlk hS dX1_toNext_70 (Nat.le_refl _) (Nat.le_refl _) ⟨ex_i (by subst_vars; rfl), by first | exact ⟨ho, ha1, ha2, ha3, ha4, hsb⟩ | (subst_vars; exact ⟨ho, ha1, ha2, ha3, ha4, hsb⟩)⟩ | exact (show False by omega).elim
  · refine lv_aload_n hx hb dX1_toNext_26 rfl (lv_at hl 0 rfl) ?_
    have hcw := hw
    refine c_W (As := []) (rest := []) (b := u 0) (C := RX1) fx hl (ok_refuse θ l hl0 S0 _ u _ _ _ _ _ _ _ hcw ) (ob_recv hK ho rfl) dX1_toNext_27 k982 k984 ks9 k1 k985 hd_X1_refuse rfl ⟨by decide, by decide⟩ (Nat.le_of_ble_eq_true rfl) ⟨by dsimp only; omega, by dsimp only; omega⟩ hS (fun q h => h.elim Or.inl (fun h => Or.inr (Nat.le_trans hS.1 h))) (fun H12 locs hwH12 hszH12 hkH12 hS => ?_)
    obtain ⟨hoH12, ha1H12, ha2H12, ha3H12, ha4H12, hsbH12⟩ := hwH12
    have hzH12 := hz0.at hAB hS
    first | exact e_i hx hb hr hlk hS dX1_toNext_30 (Nat.le_refl _) (Nat.le_refl _) ⟨ex_i (by subst_vars; rfl), by first | exact ⟨hoH12, ha1H12, ha2H12, ha3H12, ha4H12, hsbH12⟩ | (subst_vars; exact ⟨hoH12, ha1H12, ha2H12, ha3H12, ha4H12, hsbH12⟩)⟩ | exact (show False by omega).elim

set_option maxHeartbeats 4000000 in
set_option maxRecDepth 100000 in
theorem ok_toNext_r (θ : TH) (l : Launch) (hl0 : l.stackTraces = false) (S0 : State) (H : Heap) (u : Nat → Nat) (dt sy sm sd : Nat → Int) (bc rf kn : Int) (hw : CWR θ S0 u H dt sy sm sd bc rf kn) (a b q : Int) (h_0 : -2147483648 ≤ a ∧ a < 2147483648) (h_1 : -2147483648 ≤ b ∧ b < 2147483648) (h_2 : -2147483648 ≤ q ∧ q < 2147483648) (h_3 : q = 0 ∨ q = 1) (h_4 : 0 ≤ a ∧ a < 6) (h_5 : 0 ≤ b ∧ b < 6) (h_6 : dt b.toNat < dt a.toNat ∨ 40000 < dt b.toNat - dt a.toNat) : CT l yX1_toNext cX1_toNext 5 (some .int) 7 160 0 0 [.ref (u 0), .int (iI a), .int (iI b), .int (iI q)] S0 H (fun v9 H1 => v9 = some (.int (iI (-9))) ∧ CW θ u H1 dt sy sm sd bc (rf + 1) kn) (fun _ _ => False) (UA u H.size) := by
  refine ct_of (by decide +kernel) (Nat.le_of_ble_eq_true rfl) ?_
  intro pg en s mi args below meth co ls fx hs hr hlk hxt hin hl
  subst hs
  obtain ⟨hx, hb, hml, hown, hts⟩ := id fx.1
  have hS : va_S (UA u s.heap.size) s.heap s.heap [] := va_S.rf
  obtain ⟨hz, hu, ⟨ho, ha1, ha2, ha3, ha4, hsb⟩, hd, hsp⟩ := id hw
  have hAB := ua_b hu hz.2.1
  have hz0 := hz
  have hK := sz_K fx.2 hz
  refine lv_iload_n hx hb dX1_toNext_0 rfl (lv_at hl 1 rfl) ?_
  refine c_N (As := [.int (iI a)]) (rest := []) fx hl (nok_needPlace l S0 _ a (by omega) (by omega)) dX1_toNext_1 k260 k261 k1 k262 hd_X1_needPlace rfl ⟨by decide, by decide⟩ (Nat.le_of_ble_eq_true rfl) ⟨by dsimp only; omega, by dsimp only; omega⟩ ?_
  refine lv_iload_n hx hb dX1_toNext_4 rfl (lv_at hl 2 rfl) ?_
  refine c_N (As := [.int (iI b)]) (rest := []) fx hl (nok_needPlace l S0 _ b (by omega) (by omega)) dX1_toNext_5 k260 k261 k1 k262 hd_X1_needPlace rfl ⟨by decide, by decide⟩ (Nat.le_of_ble_eq_true rfl) ⟨by dsimp only; omega, by dsimp only; omega⟩ ?_
  refine lv_aload_n hx hb dX1_toNext_8 rfl (lv_at hl 0 rfl) ?_
  refine r_get (θ := θ) (C := RX1) (T := TX1) (N := 8) (ci := 7) hx hb hts gwX1 hown hK ho rfl 0 (by decide) k73 (fun _ h => h) (v := .ref (u 1)) rfl dX1_toNext_9 ?_
  refine lv_iload_n hx hb dX1_toNext_12 rfl (lv_at hl 1 rfl) ?_
  refine r_iald (θ := θ) hx hb hK ha1 (i := a) (by omega) (by decide) dX1_toNext_13 ?_
  have tr1 := hd (a.toNat) (by omega)
  refine lv_aload_n hx hb dX1_toNext_14 rfl (lv_at hl 0 rfl) ?_
  refine r_get (θ := θ) (C := RX1) (T := TX1) (N := 8) (ci := 7) hx hb hts gwX1 hown hK ho rfl 0 (by decide) k73 (fun _ h => h) (v := .ref (u 1)) rfl dX1_toNext_15 ?_
  refine lv_iload_n hx hb dX1_toNext_18 rfl (lv_at hl 2 rfl) ?_
  refine r_iald (θ := θ) hx hb hK ha1 (i := b) (by omega) (by decide) dX1_toNext_19 ?_
  have tr2 := hd (b.toNat) (by omega)
  obtain ⟨r3, hr3⟩ := bex ((dt b.toNat) < (dt a.toNat) ∨ 40000 < (dt b.toNat) - (dt a.toNat))
  refine c_P (As := [.int (iI (dt a.toNat)), .int (iI (dt b.toNat))]) (rest := []) fx hl (pm_X1_isRefused l (dt a.toNat) (dt b.toNat) r3 hr3 (by omega) (by omega)) dX1_toNext_20 k978 k979 k1 k980 hd_X1_isRefused rfl ⟨by decide, by decide⟩ (Nat.le_of_ble_eq_true rfl) ⟨by omega, by omega⟩ ?_
  have br3 : r3 = 0 ∨ r3 = 1 := hr3.elim (fun h => Or.inr h.1) (fun h => Or.inl h.1)
  refine q_ieq (tgt := 31) hx hb dX1_toNext_23 (by decide) (by omega) (fun c4 => ?_) (fun c4 => ?_)
  · refine lv_aload_n hx hb dX1_toNext_31 rfl (lv_at hl 0 rfl) ?_
    refine r_get (θ := θ) (C := RX1) (T := TX1) (N := 8) (ci := 7) hx hb hts gwX1 hown hK ho rfl 0 (by decide) k73 (fun _ h => h) (v := .ref (u 1)) rfl dX1_toNext_32 ?_
    refine lv_iload_n hx hb dX1_toNext_35 rfl (lv_at hl 1 rfl) ?_
    refine r_iald (θ := θ) hx hb hK ha1 (i := a) (by omega) (by decide) dX1_toNext_36 ?_
    have tr5 := hd (a.toNat) (by omega)
    refine lv_aload_n hx hb dX1_toNext_37 rfl (lv_at hl 0 rfl) ?_
    refine r_get (θ := θ) (C := RX1) (T := TX1) (N := 8) (ci := 7) hx hb hts gwX1 hown hK ho rfl 0 (by decide) k73 (fun _ h => h) (v := .ref (u 1)) rfl dX1_toNext_38 ?_
    refine lv_iload_n hx hb dX1_toNext_41 rfl (lv_at hl 2 rfl) ?_
    refine r_iald (θ := θ) hx hb hK ha1 (i := b) (by omega) (by decide) dX1_toNext_42 ?_
    have tr6 := hd (b.toNat) (by omega)
    refine lv_iload_n hx hb dX1_toNext_43 rfl (lv_at hl 3 rfl) ?_
    refine c_P (As := [.int (iI (dt a.toNat)), .int (iI (dt b.toNat)), .int (iI q)]) (rest := []) fx hl (pm_X0_anniversariesUntil l (dt a.toNat) (dt b.toNat) q (by omega) (by omega) (by omega)) dX1_toNext_44 k986 k987 k13 k988 hd_X0_anniversariesUntil rfl ⟨by decide, by decide⟩ (Nat.le_of_ble_eq_true rfl) ⟨by omega, by omega⟩ ?_
    have t0z7 := un_b (dt a.toNat) (dt b.toNat) q
    have t1z7 := mI_bd (dt a.toNat)
    have t2z7 := mI_bd (dt b.toNat)
    refine q_con hx hb dX1_toNext_47 ?_
    refine q_add hx hb dX1_toNext_48 ?_
    refine q_nm (fun z8 ez8 => ?_)
    refine lv_istore (lv' := [(4, .int (iI z8)), (0, .ref (u 0)), (1, .int (iI a)), (2, .int (iI b)), (3, .int (iI q))]) hx hb dX1_toNext_49 hl (by decide) rfl (fun ls hl => ?_)
    refine lv_aload_n hx hb dX1_toNext_51 rfl (lv_at hl 1 rfl) ?_
    refine r_get (θ := θ) (C := RX1) (T := TX1) (N := 8) (ci := 7) hx hb hts gwX1 hown hK ho rfl 0 (by decide) k73 (fun _ h => h) (v := .ref (u 1)) rfl dX1_toNext_52 ?_
    refine lv_iload_n hx hb dX1_toNext_55 rfl (lv_at hl 2 rfl) ?_
    refine r_iald (θ := θ) hx hb hK ha1 (i := a) (by omega) (by decide) dX1_toNext_56 ?_
    have tr9 := hd (a.toNat) (by omega)
    refine lv_iload hx hb dX1_toNext_57 (lv_at hl 0 rfl) ?_
    refine lv_iload_n hx hb dX1_toNext_59 rfl (lv_at hl 4 rfl) ?_
    refine c_P (As := [.int (iI (dt a.toNat)), .int (iI z8), .int (iI q)]) (rest := []) fx hl (pm_X0_anniversary l (dt a.toNat) z8 q (by omega) (by omega) (by omega)) dX1_toNext_60 k1001 k991 k13 k992 hd_X0_anniversary rfl ⟨by decide, by decide⟩ (Nat.le_of_ble_eq_true rfl) ⟨by omega, by omega⟩ ?_
    have t0z10 := anI_b (dt a.toNat) z8 q
    have t1z10 := shI_bd (dt a.toNat) (12 * z8)
    refine lv_aload_n hx hb dX1_toNext_63 rfl (lv_at hl 1 rfl) ?_
    refine r_get (θ := θ) (C := RX1) (T := TX1) (N := 8) (ci := 7) hx hb hts gwX1 hown hK ho rfl 0 (by decide) k73 (fun _ h => h) (v := .ref (u 1)) rfl dX1_toNext_64 ?_
    refine lv_iload_n hx hb dX1_toNext_67 rfl (lv_at hl 3 rfl) ?_
    refine r_iald (θ := θ) hx hb hK ha1 (i := b) (by omega) (by decide) dX1_toNext_68 ?_
    have tr11 := hd (b.toNat) (by omega)
    refine q_sub hx hb dX1_toNext_69 ?_
    first | exact e_i hx hb hr hlk hS dX1_toNext_70 (Nat.le_refl _) (Nat.le_refl _) ⟨ex_i (by omega), by first | exact ⟨ho, ha1, ha2, ha3, ha4, hsb⟩ | (subst_vars; exact ⟨ho, ha1, ha2, ha3, ha4, hsb⟩)⟩ | exact (show False by omega).elim
  · refine lv_aload_n hx hb dX1_toNext_26 rfl (lv_at hl 0 rfl) ?_
    have hcw := hw
    refine c_W (As := []) (rest := []) (b := u 0) (C := RX1) fx hl (ok_refuse θ l hl0 S0 _ u _ _ _ _ _ _ _ hcw ) (ob_recv hK ho rfl) dX1_toNext_27 k982 k984 ks9 k1 k985 hd_X1_refuse rfl ⟨by decide, by decide⟩ (Nat.le_of_ble_eq_true rfl) ⟨by dsimp only; omega, by dsimp only; omega⟩ hS (fun q h => h.elim Or.inl (fun h => Or.inr (Nat.le_trans hS.1 h))) (fun H12 locs hwH12 hszH12 hkH12 hS => ?_)
    obtain ⟨hoH12, ha1H12, ha2H12, ha3H12, ha4H12, hsbH12⟩ := hwH12
    have hzH12 := hz0.at hAB hS
    first | exact e_i hx hb hr hlk hS dX1_toNext_30 (Nat.le_refl _) (Nat.le_refl _) ⟨ex_i (by omega), by first | exact ⟨hoH12, ha1H12, ha2H12, ha3H12, ha4H12, hsbH12⟩ | (subst_vars; exact ⟨hoH12, ha1H12, ha2H12, ha3H12, ha4H12, hsbH12⟩)⟩ | exact (show False by omega).elim

set_option maxHeartbeats 4000000 in
set_option maxRecDepth 100000 in
theorem no1_toNext (θ : TH) (l : Launch) (hl0 : l.stackTraces = false) (S0 : State) (H : Heap) (u : Nat → Nat) (dt sy sm sd : Nat → Int) (bc rf kn : Int) (hw : CWR θ S0 u H dt sy sm sd bc rf kn) (a b q : Int) (h_0 : -2147483648 ≤ a ∧ a < 2147483648) (h_1 : -2147483648 ≤ b ∧ b < 2147483648) (h_2 : -2147483648 ≤ q ∧ q < 2147483648) (h_3 : q = 0 ∨ q = 1) (h_4 : ¬ (0 ≤ a ∧ a < 6)) : TX l yX1_toNext cX1_toNext 5 (some .int) 7 110 [.ref (u 0), .int (iI a), .int (iI b), .int (iI q)] S0 H "java/lang/IndexOutOfBoundsException" := by
  refine ct_of (by decide +kernel) (Nat.le_of_ble_eq_true rfl) ?_
  intro pg en s mi args below meth co ls fx hs hr hlk hxt hin hl
  subst hs
  obtain ⟨hx, hb, hml, hown, hts⟩ := id fx.1
  have hS : va_S (fun q : Nat => s.heap.size ≤ q) s.heap s.heap [] := va_S.rf
  obtain ⟨hz, hu, ⟨ho, ha1, ha2, ha3, ha4, hsb⟩, hd, hsp⟩ := id hw
  have hAB : ∀ q : Nat, (fun q : Nat => s.heap.size ≤ q) q → θ.2.2.2 ≤ q := fun q h => Nat.le_trans hz.2.1 h
  have hz0 := hz
  have hK := sz_K fx.2 hz
  refine lv_iload_n hx hb dX1_toNext_0 rfl (lv_at hl 1 rfl) ?_
  exact e_cT (As := [.int (iI a)]) (rest := []) fx hl (nno_needPlace θ l hl0 S0 _ hz a (by omega) (by omega)) dX1_toNext_1 k260 k261 k1 k262 hd_X1_needPlace rfl ⟨by decide, by decide⟩ (Nat.le_of_ble_eq_true rfl) ⟨by decide, by decide⟩ ⟨by decide, by decide⟩ hS (fun _ h => h) hxt hlk (fun H1 h1 h2 => ⟨rfl, h1, h2⟩)

set_option maxHeartbeats 4000000 in
set_option maxRecDepth 100000 in
theorem no2_toNext (θ : TH) (l : Launch) (hl0 : l.stackTraces = false) (S0 : State) (H : Heap) (u : Nat → Nat) (dt sy sm sd : Nat → Int) (bc rf kn : Int) (hw : CWR θ S0 u H dt sy sm sd bc rf kn) (a b q : Int) (h_0 : -2147483648 ≤ a ∧ a < 2147483648) (h_1 : -2147483648 ≤ b ∧ b < 2147483648) (h_2 : -2147483648 ≤ q ∧ q < 2147483648) (h_3 : q = 0 ∨ q = 1) (h_4 : 0 ≤ a ∧ a < 6) (h_5 : ¬ (0 ≤ b ∧ b < 6)) : TX l yX1_toNext cX1_toNext 5 (some .int) 7 110 [.ref (u 0), .int (iI a), .int (iI b), .int (iI q)] S0 H "java/lang/IndexOutOfBoundsException" := by
  refine ct_of (by decide +kernel) (Nat.le_of_ble_eq_true rfl) ?_
  intro pg en s mi args below meth co ls fx hs hr hlk hxt hin hl
  subst hs
  obtain ⟨hx, hb, hml, hown, hts⟩ := id fx.1
  have hS : va_S (fun q : Nat => s.heap.size ≤ q) s.heap s.heap [] := va_S.rf
  obtain ⟨hz, hu, ⟨ho, ha1, ha2, ha3, ha4, hsb⟩, hd, hsp⟩ := id hw
  have hAB : ∀ q : Nat, (fun q : Nat => s.heap.size ≤ q) q → θ.2.2.2 ≤ q := fun q h => Nat.le_trans hz.2.1 h
  have hz0 := hz
  have hK := sz_K fx.2 hz
  refine lv_iload_n hx hb dX1_toNext_0 rfl (lv_at hl 1 rfl) ?_
  refine c_N (As := [.int (iI a)]) (rest := []) fx hl (nok_needPlace l S0 _ a (by omega) (by omega)) dX1_toNext_1 k260 k261 k1 k262 hd_X1_needPlace rfl ⟨by decide, by decide⟩ (Nat.le_of_ble_eq_true rfl) ⟨by dsimp only; omega, by dsimp only; omega⟩ ?_
  refine lv_iload_n hx hb dX1_toNext_4 rfl (lv_at hl 2 rfl) ?_
  exact e_cT (As := [.int (iI b)]) (rest := []) fx hl (nno_needPlace θ l hl0 S0 _ hz b (by omega) (by omega)) dX1_toNext_5 k260 k261 k1 k262 hd_X1_needPlace rfl ⟨by decide, by decide⟩ (Nat.le_of_ble_eq_true rfl) ⟨by decide, by decide⟩ ⟨by decide, by decide⟩ hS (fun _ h => h) hxt hlk (fun H1 h1 h2 => ⟨rfl, h1, h2⟩)
