set_option maxHeartbeats 4000000 in
set_option maxRecDepth 100000 in
theorem mok_digest (θ : TH) (l : Launch) (S0 : State) (H : Heap) (w : Nat → Nat) (r q : Nat → Nat) (dt : Nat → Int) (sv : Nat → Nat → Int) (th dn rf kn : Int) (hw : MWR θ S0 w H r q dt sv th dn rf kn) (hj : SJ θ S0 H) : CT l yX3_digest cX3_digest 10 (some .long) 9 215 358 3286 [.ref (w 0)] S0 H (fun v9 H1 => (v9 = some (.long (lL (dgA dt (fun j => sv j 0) (fun j => sv j 1) (fun j => sv j 2) dn rf kn)))) ∧ ∃ r1 q1 : Nat → Nat, MWR θ S0 w H1 r1 q1 dt sv 0 dn rf kn ∧ NW 6 H.size r r1 ∧ NW 3 H.size q q1) (fun _ _ => False) (WA w H.size) := by
  refine ct_of (by decide +kernel) (Nat.le_of_ble_eq_true rfl) ?_
  intro pg en s mi args below meth co ls fx hs hr hlk hxt hin hl
  subst hs
  obtain ⟨hx, hb, hml, hown, hts⟩ := id fx.1
  have hS : va_S (fun x : Nat => (x = w 0 ∨ x = w 1 ∨ x = w 2) ∨ s.heap.size ≤ x) s.heap s.heap [] := va_S.rf
  obtain ⟨hz, hu, hm, hd, hsv⟩ := id hw
  have hAB : ∀ x : Nat, (fun x : Nat => (x = w 0 ∨ x = w 1 ∨ x = w 2) ∨ s.heap.size ≤ x) x → θ.2.2.2 ≤ x := wa_b hu hz.2.1
  have hz0 := hz
  have hK := sz_K fx.2 hz
  have hlt0 := hm.lt
  have hu1 := hu.1
  have hAn : ∀ x : Nat, s.heap.size ≤ x → (fun x : Nat => (x = w 0 ∨ x = w 1 ∨ x = w 2) ∨ s.heap.size ≤ x) x := fun _ h => Or.inr h
  clear hu1
  have hj0 := hj
  have hz2 := hz.2.1
  refine lv_aload_n hx hb dX3_digest_0 rfl (lv_at hl 0 rfl) ?_
  refine q_con hx hb dX3_digest_1 ?_
  refine r_put (θ := θ) (A := (fun x : Nat => (x = w 0 ∨ x = w 1 ∨ x = w 2) ∨ s.heap.size ≤ x)) (C := RX3) (T := TX3) (N := 6) (ci := 9) (v := .int (iI 0)) (ty := .int) hx hb hts gwX3 tyX3 tyX3_ok nmX3 hown hK hm.1 (Or.inl (Or.inl rfl)) hS rfl 0 (by decide) k1090 (fun _ h => h) rfl (by decide +kernel) rfl rfl (Nat.le_of_ble_eq_true rfl) dX3_digest_2 (fun H1 locs hoH1 hszH1 hkH1 hS => ?_)
  have hmH1 : MW θ w H1 r q dt sv 0 dn rf kn := hm.obj hu hoH1 hkH1
  have hzH1 := hz0.at hAB hS
  have hjH1 := hj0.at hAB hS
  refine q_ldc2 (n := 7843) hx hb hown (hts _ k1626) (by decide) dX3_digest_5 ?_
  refine lv_lstore_n (lv' := [(1, .long (lL 7843)), (0, .ref (w 0))]) hx hb dX3_digest_8 rfl hl (by decide) rfl (fun ls hl => ?_)
  refine q_con hx hb dX3_digest_9 ?_
  refine lv_istore_n (lv' := [(3, .int (iI 0)), (1, .long (lL 7843)), (0, .ref (w 0))]) hx hb dX3_digest_10 rfl hl (by decide) rfl (fun ls hl => ?_)
  refine w_loopH (nL := 10) (σ := Int × Int) (fun x => (4 - x.2).toNat) (fun x Hx1 locs1 c9 s9 => ((0 ≤ x.2 ∧ x.2 ≤ 4) ∧ (x.1 = dg1 dt dn rf kn x.2.toNat)) ∧ (∀ x : Nat, x < (H1).size → Hx1[x]? = (H1)[x]?) ∧ (H1).size ≤ Hx1.size ∧ va_S (fun x : Nat => (x = w 0 ∨ x = w 1 ∨ x = w 2) ∨ s.heap.size ≤ x) s.heap Hx1 locs1 ∧ c9 ≤ 1 * Int.toNat x.2 ∧ s9 ≤ 4 * Int.toNat x.2) (fun x => [(1, .long (lL x.1)), (3, .int (iI x.2)), (0, .ref (w 0))]) ?_ ((7843 : Int), (0 : Int)) ⟨⟨by first | ((try dsimp only); (first | omega | rfl)) | (dsimp only; done), by first | ((try dsimp only); (first | omega | rfl)) | (dsimp only; done)⟩, (fun x (_ : x < (H1).size) => (rfl : (H1)[x]? = (H1)[x]?)), (by omega), hS, by (try dsimp only); omega, by (try dsimp only); omega⟩ (lv_sub hl [1, 0, 2] rfl)
  intro x H2 locs cells slots hJ11 ih11 ls hl
  obtain ⟨d1, wh⟩ := x
  obtain ⟨hI11, hf0H2, hf1H2, hS, hcH2, hsH2⟩ := hJ11
  (try dsimp only at hI11 hcH2 hsH2 ih11 hl ⊢)
  (try dsimp only at hf0H2)
  (try dsimp only at hf1H2)
  have hsgeH2 := hS.1
  have hzH2 := hz0.at hAB hS
  have hjH2 := hj0.at hAB hS
  have hkmH2 := hf0H2
  have hmH2 := hmH1.kept hkmH2
  have hltH2 := hmH2.lt
  refine lv_iload_n hx hb dX3_digest_11 rfl (lv_at hl 1 rfl) ?_
  refine q_con hx hb dX3_digest_12 ?_
  refine q_cge (tgt := 35) hx hb dX3_digest_13 (by decide) (by omega) (by omega) (fun c3 => ?_) (fun c3 => ?_)
  · refine q_con hx hb dX3_digest_35 ?_
    refine lv_istore_n (lv' := [(3, .int (iI 0)), (1, .long (lL d1)), (0, .ref (w 0))]) hx hb dX3_digest_36 rfl hl (by decide) rfl (fun ls hl => ?_)
    refine w_loopH (nL := 10) (σ := Int × Int) (fun x => (6 - x.2).toNat) (fun x Hx1 locs1 c9 s9 => ((0 ≤ x.2 ∧ x.2 ≤ 6) ∧ (x.1 = dg2 dt (dg1 dt dn rf kn 4) x.2.toNat)) ∧ (∀ x : Nat, x < (H1).size → Hx1[x]? = (H1)[x]?) ∧ (H1).size ≤ Hx1.size ∧ va_S (fun x : Nat => (x = w 0 ∨ x = w 1 ∨ x = w 2) ∨ s.heap.size ≤ x) s.heap Hx1 locs1 ∧ c9 ≤ 4 + 59 * Int.toNat x.2 ∧ s9 ≤ 16 + 545 * Int.toNat x.2) (fun x => [(1, .long (lL x.1)), (3, .int (iI x.2)), (0, .ref (w 0))]) ?_ ((d1 : Int), (0 : Int)) ⟨⟨by first | ((try dsimp only); (first | omega | exact dg1_e hI11.2 (by omega))) | (dsimp only; done), by first | ((try dsimp only); (first | omega | exact dg1_e hI11.2 (by omega))) | (dsimp only; done)⟩, hkmH2, (by omega), hS, by (try dsimp only); omega, by (try dsimp only); omega⟩ (lv_sub hl [1, 0, 2] rfl)
    intro x H4 locs cells slots hJ37 ih37 ls hl
    obtain ⟨d2, pl⟩ := x
    obtain ⟨hI37, hf0H4, hf1H4, hS, hcH4, hsH4⟩ := hJ37
    (try dsimp only at hI37 hcH4 hsH4 ih37 hl ⊢)
    (try dsimp only at hf0H4)
    (try dsimp only at hf1H4)
    have hsgeH4 := hS.1
    have hzH4 := hz0.at hAB hS
    have hjH4 := hj0.at hAB hS
    have hkmH4 := hf0H4
    have hmH4 := hmH1.kept hkmH4
    have hltH4 := hmH4.lt
    refine lv_iload_n hx hb dX3_digest_37 rfl (lv_at hl 1 rfl) ?_
    refine q_bip hx hb dX3_digest_38 (by decide) ?_
    refine q_cge (tgt := 257) hx hb dX3_digest_40 (by decide) (by omega) (by omega) (fun c5 => ?_) (fun c5 => ?_)
    · refine q_con hx hb dX3_digest_257 ?_
      refine lv_istore_n (lv' := [(3, .int (iI 0)), (1, .long (lL d2)), (0, .ref (w 0))]) hx hb dX3_digest_258 rfl hl (by decide) rfl (fun ls hl => ?_)
      refine w_loopH (nL := 10) (σ := Int × Int) (fun x => (3 - x.2).toNat) (fun x Hx1 locs1 c9 s9 => ((0 ≤ x.2 ∧ x.2 ≤ 3) ∧ (x.1 = dg3 (fun j => sv j 0) (fun j => sv j 1) (fun j => sv j 2) (dg2 dt (dg1 dt dn rf kn 4) 6) x.2.toNat)) ∧ (∀ x : Nat, x < (H1).size → Hx1[x]? = (H1)[x]?) ∧ (H1).size ≤ Hx1.size ∧ va_S (fun x : Nat => (x = w 0 ∨ x = w 1 ∨ x = w 2) ∨ s.heap.size ≤ x) s.heap Hx1 locs1 ∧ c9 ≤ 358 ∧ s9 ≤ 3286) (fun x => [(1, .long (lL x.1)), (3, .int (iI x.2)), (0, .ref (w 0))]) ?_ ((d2 : Int), (0 : Int)) ⟨⟨by first | ((try dsimp only); (first | omega | exact dg2_e hI37.2 (by omega))) | (dsimp only; done), by first | ((try dsimp only); (first | omega | exact dg2_e hI37.2 (by omega))) | (dsimp only; done)⟩, hkmH4, (by omega), hS, by (try dsimp only); omega, by (try dsimp only); omega⟩ (lv_sub hl [1, 0, 2] rfl)
      intro x H6 locs cells slots hJ259 ih259 ls hl
      obtain ⟨d4, sp⟩ := x
      obtain ⟨hI259, hf0H6, hf1H6, hS, hcH6, hsH6⟩ := hJ259
      (try dsimp only at hI259 hcH6 hsH6 ih259 hl ⊢)
      (try dsimp only at hf0H6)
      (try dsimp only at hf1H6)
      have hsgeH6 := hS.1
      have hzH6 := hz0.at hAB hS
      have hjH6 := hj0.at hAB hS
      have hkmH6 := hf0H6
      have hmH6 := hmH1.kept hkmH6
      have hltH6 := hmH6.lt
      refine lv_iload_n hx hb dX3_digest_259 rfl (lv_at hl 1 rfl) ?_
      refine q_con hx hb dX3_digest_260 ?_
      refine q_cge (tgt := 300) hx hb dX3_digest_261 (by decide) (by omega) (by omega) (fun c7 => ?_) (fun c7 => ?_)
      · refine lv_lload_n hx hb dX3_digest_300 rfl (lv_at hl 0 rfl) ?_
        refine q_ldc2 (n := 31) hx hb hown (hts _ k1627) (by decide) dX3_digest_301 ?_
        refine q_lmul hx hb dX3_digest_304 ?_
        refine q_lcon (z := 1) hx hb (by decide) dX3_digest_305 ?_
        refine q_ladd hx hb dX3_digest_306 ?_
        have hmw : MWR θ S0 w H6 r q dt sv 0 dn rf kn := ⟨hzH6, hu, hmH6, hd, hsv⟩
        exact e_l hx hb hr hlk hS dX3_digest_307 (by first | exact Nat.le_of_ble_eq_true rfl | ((try dsimp only); omega)) (by first | exact Nat.le_of_ble_eq_true rfl | ((try dsimp only); omega)) ⟨ex_l (by exact dg3_e hI259.2 (by omega)), r, q, by first | exact hmw | (subst_vars; exact hmw), by first | exact nw_rf | exact nw_up (by omega) | exact nw_up2 (by omega), by first | exact nw_rf | exact nw_up (by omega) | exact nw_up2 (by omega)⟩
      · refine q_con hx hb dX3_digest_264 ?_
        refine lv_istore (lv' := [(4, .int (iI 0)), (1, .long (lL d4)), (3, .int (iI sp)), (0, .ref (w 0))]) hx hb dX3_digest_265 hl (by decide) rfl (fun ls hl => ?_)
        refine w_loopH (nL := 10) (σ := Int × Int) (fun x => (4 - x.2).toNat) (fun x Hx1 locs1 c9 s9 => ((0 ≤ x.2 ∧ x.2 ≤ 4) ∧ (x.1 = spA (sv sp.toNat 0) (sv sp.toNat 1) (sv sp.toNat 2) d4 x.2.toNat)) ∧ (∀ x : Nat, x < (H1).size → Hx1[x]? = (H1)[x]?) ∧ (H1).size ≤ Hx1.size ∧ va_S (fun x : Nat => (x = w 0 ∨ x = w 1 ∨ x = w 2) ∨ s.heap.size ≤ x) s.heap Hx1 locs1 ∧ c9 ≤ 358 ∧ s9 ≤ 3286) (fun x => [(1, .long (lL x.1)), (4, .int (iI x.2)), (3, .int (iI sp)), (0, .ref (w 0))]) ?_ ((d4 : Int), (0 : Int)) ⟨⟨by first | ((try dsimp only); (first | omega | rfl)) | (dsimp only; done), by first | ((try dsimp only); (first | omega | rfl)) | (dsimp only; done)⟩, hkmH6, (by omega), hS, by (try dsimp only); omega, by (try dsimp only); omega⟩ (lv_sub hl [1, 0, 2, 3] rfl)
        intro x H8 locs cells slots hJ267 ih267 ls hl
        obtain ⟨d5, wh⟩ := x
        obtain ⟨hI267, hf0H8, hf1H8, hS, hcH8, hsH8⟩ := hJ267
        (try dsimp only at hI267 hcH8 hsH8 ih267 hl ⊢)
        (try dsimp only at hf0H8)
        (try dsimp only at hf1H8)
        have hsgeH8 := hS.1
        have hzH8 := hz0.at hAB hS
        have hjH8 := hj0.at hAB hS
        have hkmH8 := hf0H8
        have hmH8 := hmH1.kept hkmH8
        have hltH8 := hmH8.lt
        refine lv_iload hx hb dX3_digest_267 (lv_at hl 1 rfl) ?_
        refine q_con hx hb dX3_digest_269 ?_
        refine q_cge (tgt := 294) hx hb dX3_digest_270 (by decide) (by omega) (by omega) (fun c9 => ?_) (fun c9 => ?_)
        · refine lv_iinc (v := iI (sp + 1)) (lv' := [(3, .int (iI (sp + 1))), (1, .long (lL d5)), (4, .int (iI wh)), (0, .ref (w 0))]) hx hb dX3_digest_294 hl (k := 2) rfl (iI_add _ _) (by decide) rfl (fun ls hl => ?_)
          refine lv_goto (tgt := 259) hx hb dX3_digest_297 (by decide) ?_
          exact ih259 ((d5 : Int), (sp + 1 : Int)) _ _ _ _ _ ⟨⟨by first | ((try dsimp only); (first | omega | exact dg3_s (by omega) hI259.2 hI267.2 (by omega))) | (dsimp only; done), by first | ((try dsimp only); (first | omega | exact dg3_s (by omega) hI259.2 hI267.2 (by omega))) | (dsimp only; done)⟩, hkmH8, (by omega), hS, by (try dsimp only); omega, by (try dsimp only); omega⟩ (by (try dsimp only); omega) (lv_sub hl [1, 0, 3] rfl)
        · refine lv_lload_n hx hb dX3_digest_273 rfl (lv_at hl 0 rfl) ?_
          refine q_ldc2 (n := 31) hx hb hown (hts _ k1627) (by decide) dX3_digest_274 ?_
          refine q_lmul hx hb dX3_digest_277 ?_
          refine lv_aload_n hx hb dX3_digest_278 rfl (lv_at hl 3 rfl) ?_
          refine lv_iload_n hx hb dX3_digest_279 rfl (lv_at hl 2 rfl) ?_
          refine lv_iload hx hb dX3_digest_280 (lv_at hl 1 rfl) ?_
          have hmw : MWR θ S0 w H8 r q dt sv 0 dn rf kn := ⟨hzH8, hu, hmH8, hd, hsv⟩
          refine c_HV (As := [.int (iI sp), .int (iI wh)]) (rest := [.long (lL (d5 * 31))]) (b := w 0) (C := RX3) fx hl (mr_spanNow θ l S0 _ w _ _ _ _ _ _ _ _ hmw sp wh (by omega) (by omega)) (ob_recv hK hmH8.1 rfl) dX3_digest_282 k1254 k1256 ks16 k6 k1257 hd_X3_spanNow rfl ⟨by decide, by decide⟩ (Nat.le_of_ble_eq_true rfl) ⟨by dsimp only; omega, by dsimp only; omega⟩ ?_
          refine q_nm (fun z10 ez10 => ?_)
          refine q_i2ly hx hb dX3_digest_285 ?_
          refine q_ladd hx hb dX3_digest_286 ?_
          refine q_nml (fun z11 ez11 => ?_)
          refine lv_lstore_n (lv' := [(1, .long (lL z11)), (4, .int (iI wh)), (3, .int (iI sp)), (0, .ref (w 0))]) hx hb dX3_digest_287 rfl hl (by decide) rfl (fun ls hl => ?_)
          refine lv_iinc (v := iI (wh + 1)) (lv' := [(4, .int (iI (wh + 1))), (1, .long (lL z11)), (3, .int (iI sp)), (0, .ref (w 0))]) hx hb dX3_digest_288 hl (k := 1) rfl (iI_add _ _) (by decide) rfl (fun ls hl => ?_)
          refine lv_goto (tgt := 267) hx hb dX3_digest_291 (by decide) ?_
          exact ih267 ((z11 : Int), (wh + 1 : Int)) _ _ _ _ _ ⟨⟨by first | ((try dsimp only); (first | omega | exact sp_s (by omega) hI267.2 (by assumption) (by assumption))) | (dsimp only; done), by first | ((try dsimp only); (first | omega | exact sp_s (by omega) hI267.2 (by assumption) (by assumption))) | (dsimp only; done)⟩, hkmH8, (by omega), hS, by (try dsimp only); omega, by (try dsimp only); omega⟩ (by (try dsimp only); omega) (lv_sub hl [1, 0, 2, 3] rfl)
    · refine lv_iload_n hx hb dX3_digest_43 rfl (lv_at hl 1 rfl) ?_
      refine q_con hx hb dX3_digest_44 ?_
      refine q_add hx hb dX3_digest_45 ?_
      refine q_bip hx hb dX3_digest_46 (by decide) ?_
      refine q_rem hx hb dX3_digest_48 (by omega) (by omega) ?_
      refine q_nm (fun z12 ez12 => ?_)
      have fz12 : 0 ≤ (pl + 1) → z12 = (pl + 1) % 6 := fun h => by rw [ez12, tdiv_pos h (by omega)]; omega
      have gz12 : (pl + 1) < 0 → z12 = -((-(pl + 1)) % 6) := fun h => by rw [ez12, tdiv_neg' h]; omega
      clear ez12
      have gn9 : GN pl z12 := gn_m (by omega) (fz12 (by omega))
      have hnxz12 : 0 ≤ z12 ∧ z12 < 6 := by omega
      clear fz12 gz12
      refine lv_istore (lv' := [(4, .int (iI z12)), (1, .long (lL d2)), (3, .int (iI pl)), (0, .ref (w 0))]) hx hb dX3_digest_49 hl (by decide) rfl (fun ls hl => ?_)
      refine q_bip hx hb dX3_digest_51 (by decide) ?_
      refine r_newI (θ := θ) hx hb hts hK k71 hS (by omega) (by (try dsimp only); omega) (by (try dsimp only); omega) dX3_digest_53 (fun H13 haH13 hszH13 hkH13 hS => ?_)
      have hzH13 := hz0.at hAB hS
      have hjH13 := hj0.at hAB hS
      have hkmH13 : ∀ x : Nat, x < (H1).size → H13[x]? = (H1)[x]? := fun x hx => (hkH13 x (by omega)).trans (hkmH4 x hx)
      have hmH13 := hmH1.kept hkmH13
      have hltH13 := hmH13.lt
      have lnH13 := haH13.lt
      refine lv_dup hx hb dX3_digest_55 rfl ?_
      refine q_con hx hb dX3_digest_56 ?_
      refine lv_aload_n hx hb dX3_digest_57 rfl (lv_at hl 3 rfl) ?_
      refine lv_iload_n hx hb dX3_digest_58 rfl (lv_at hl 2 rfl) ?_
      have hmw : MWR θ S0 w H13 r q dt sv 0 dn rf kn := ⟨hzH13, hu, hmH13, hd, hsv⟩
      refine c_HV (As := [.int (iI pl)]) (rest := [.int (iI 0), .ref H4.size, .ref H4.size]) (b := w 0) (C := RX3) fx hl (mr_became θ l S0 _ w _ _ _ _ _ _ _ _ hmw pl (by omega)) (ob_recv hK hmH13.1 rfl) dX3_digest_59 k1141 k1143 ks12 k6 k1144 hd_X3_became rfl ⟨by decide, by decide⟩ (Nat.le_of_ble_eq_true rfl) ⟨by dsimp only; omega, by dsimp only; omega⟩ ?_
      have t0z14 := hd pl.toNat (by omega)
      have gxH15 : GX dt pl.toNat (Int.toNat z12) 0 (dt pl.toNat) := (show (dt pl.toNat : Int) = xsF dt pl.toNat (Int.toNat z12) 0 by first | rfl | assumption | (subst_vars; rfl))
      try clear ez10
      try clear ez12
      refine r_iast (θ := θ) (a := H4.size) hx hb hK haH13 (hAn _ (by omega)) hS (i := 0) (x := dt pl.toNat) (by omega) (by decide) dX3_digest_62 (fun H15 locs haH15 hszH15 hkH15 hS => ?_)
      obtain ⟨gH15, hrH15, hvv⟩ : ∃ g : Nat → Int, AI θ H15 H4.size 13 g ∧ GP dt pl.toNat (Int.toNat z12) g 1 := ⟨_, haH15, gp_s (gp_0 _ _ _ _) gxH15⟩
      have hzH15 := hz0.at hAB hS
      have hjH15 := hj0.at hAB hS
      have hkmH15 : ∀ x : Nat, x < (H1).size → H15[x]? = (H1)[x]? := fun x hx => (hkH15 x (by omega)).trans (hkmH13 x hx)
      have hmH15 := hmH1.kept hkmH15
      have hltH15 := hmH15.lt
      have lnH15 := hrH15.lt
      refine lv_dup hx hb dX3_digest_63 rfl ?_
      refine q_con hx hb dX3_digest_64 ?_
      refine lv_aload_n hx hb dX3_digest_65 rfl (lv_at hl 3 rfl) ?_
      refine r_get (θ := θ) (C := RX3) (T := TX3) (N := 6) (ci := 9) hx hb hts gwX3 hown hK hmH15.1 rfl 4 (by decide) k1094 (fun _ h => h) (v := .ref (w 1)) rfl dX3_digest_66 ?_
      refine lv_iload_n hx hb dX3_digest_69 rfl (lv_at hl 2 rfl) ?_
      refine r_aald (θ := θ) hx hb hK hmH15.2.1 (i := pl) (by omega) (by decide) dX3_digest_70 ?_
      have rw16 := (hmH15.2.2.2.1 (pl.toNat) (by omega)).1
      have rw16n := (hmH15.2.2.2.1 (pl.toNat) (by omega)).2
      have rw16t := hd (pl.toNat) (by omega)
      have rw16l := rw16.lt
      have rw16i := inR rw16t
      have rw16m := inM rw16i
      have rw16d := dI_b (dt pl.toNat)
      refine q_con hx hb dX3_digest_71 ?_
      refine r_iald (θ := θ) hx hb hK rw16 (i := 0) (by omega) (by decide) dX3_digest_72 ?_
      refine q_as (mI (dt pl.toNat)) rfl ?_
      have gxH17 : GX dt pl.toNat (Int.toNat z12) 1 (mI (dt pl.toNat)) := (show (mI (dt pl.toNat) : Int) = xsF dt pl.toNat (Int.toNat z12) 1 by first | rfl | assumption | (subst_vars; rfl))
      try clear rw16n
      refine r_iast (θ := θ) (a := H4.size) hx hb hK hrH15 (hAn _ (by omega)) hS (i := 1) (x := mI (dt pl.toNat)) (by omega) (by decide) dX3_digest_73 (fun H17 locs haH17 hszH17 hkH17 hS => ?_)
      obtain ⟨gH17, hrH17, hvv⟩ : ∃ g : Nat → Int, AI θ H17 H4.size 13 g ∧ GP dt pl.toNat (Int.toNat z12) g 2 := ⟨_, haH17, gp_s hvv gxH17⟩
      have hzH17 := hz0.at hAB hS
      have hjH17 := hj0.at hAB hS
      have hkmH17 : ∀ x : Nat, x < (H1).size → H17[x]? = (H1)[x]? := fun x hx => (hkH17 x (by omega)).trans (hkmH15 x hx)
      have hmH17 := hmH1.kept hkmH17
      have hltH17 := hmH17.lt
      have lnH17 := hrH17.lt
      refine lv_dup hx hb dX3_digest_74 rfl ?_
      refine q_con hx hb dX3_digest_75 ?_
      refine lv_aload_n hx hb dX3_digest_76 rfl (lv_at hl 3 rfl) ?_
      refine r_get (θ := θ) (C := RX3) (T := TX3) (N := 6) (ci := 9) hx hb hts gwX3 hown hK hmH17.1 rfl 4 (by decide) k1094 (fun _ h => h) (v := .ref (w 1)) rfl dX3_digest_77 ?_
      refine lv_iload_n hx hb dX3_digest_80 rfl (lv_at hl 2 rfl) ?_
      refine r_aald (θ := θ) hx hb hK hmH17.2.1 (i := pl) (by omega) (by decide) dX3_digest_81 ?_
      have rw18 := (hmH17.2.2.2.1 (pl.toNat) (by omega)).1
      have rw18n := (hmH17.2.2.2.1 (pl.toNat) (by omega)).2
      have rw18t := hd (pl.toNat) (by omega)
      have rw18l := rw18.lt
      have rw18i := inR rw18t
      have rw18m := inM rw18i
      have rw18d := dI_b (dt pl.toNat)
      refine q_con hx hb dX3_digest_82 ?_
      refine r_iald (θ := θ) hx hb hK rw18 (i := 1) (by omega) (by decide) dX3_digest_83 ?_
      refine q_as (dI (dt pl.toNat)) rfl ?_
      have gxH19 : GX dt pl.toNat (Int.toNat z12) 2 (dI (dt pl.toNat)) := (show (dI (dt pl.toNat) : Int) = xsF dt pl.toNat (Int.toNat z12) 2 by first | rfl | assumption | (subst_vars; rfl))
      try clear rw18n
      refine r_iast (θ := θ) (a := H4.size) hx hb hK hrH17 (hAn _ (by omega)) hS (i := 2) (x := dI (dt pl.toNat)) (by omega) (by decide) dX3_digest_84 (fun H19 locs haH19 hszH19 hkH19 hS => ?_)
      obtain ⟨gH19, hrH19, hvv⟩ : ∃ g : Nat → Int, AI θ H19 H4.size 13 g ∧ GP dt pl.toNat (Int.toNat z12) g 3 := ⟨_, haH19, gp_s hvv gxH19⟩
      have hzH19 := hz0.at hAB hS
      have hjH19 := hj0.at hAB hS
      have hkmH19 : ∀ x : Nat, x < (H1).size → H19[x]? = (H1)[x]? := fun x hx => (hkH19 x (by omega)).trans (hkmH17 x hx)
      have hmH19 := hmH1.kept hkmH19
      have hltH19 := hmH19.lt
      have lnH19 := hrH19.lt
      refine lv_dup hx hb dX3_digest_85 rfl ?_
      refine q_con hx hb dX3_digest_86 ?_
      refine lv_aload_n hx hb dX3_digest_87 rfl (lv_at hl 3 rfl) ?_
      refine lv_iload_n hx hb dX3_digest_88 rfl (lv_at hl 2 rfl) ?_
      have hmw : MWR θ S0 w H19 r q dt sv 0 dn rf kn := ⟨hzH19, hu, hmH19, hd, hsv⟩
      refine c_HV (As := [.int (iI pl)]) (rest := [.int (iI 3), .ref H4.size, .ref H4.size]) (b := w 0) (C := RX3) fx hl (mr_became θ l S0 _ w _ _ _ _ _ _ _ _ hmw pl (by omega)) (ob_recv hK hmH19.1 rfl) dX3_digest_89 k1141 k1143 ks12 k6 k1144 hd_X3_became rfl ⟨by decide, by decide⟩ (Nat.le_of_ble_eq_true rfl) ⟨by dsimp only; omega, by dsimp only; omega⟩ ?_
      have t0z20 := hd pl.toNat (by omega)
      refine c_P (As := [.int (iI (dt pl.toNat))]) (rest := [.int (iI 3), .ref H4.size, .ref H4.size]) fx hl (pm_X3_weekdayOf l (dt pl.toNat) (by omega)) dX3_digest_92 k1149 k1150 k6 k1151 hd_X3_weekdayOf rfl ⟨by decide, by decide⟩ (Nat.le_of_ble_eq_true rfl) ⟨by (try dsimp only); omega, by (try dsimp only); omega⟩ ?_
      have t0z21 := wI_b (dt pl.toNat)
      have gxH22 : GX dt pl.toNat (Int.toNat z12) 3 (wI (dt pl.toNat)) := (show (wI (dt pl.toNat) : Int) = xsF dt pl.toNat (Int.toNat z12) 3 by first | rfl | assumption | (subst_vars; rfl))
      refine r_iast (θ := θ) (a := H4.size) hx hb hK hrH19 (hAn _ (by omega)) hS (i := 3) (x := wI (dt pl.toNat)) (by omega) (by decide) dX3_digest_95 (fun H22 locs haH22 hszH22 hkH22 hS => ?_)
      obtain ⟨gH22, hrH22, hvv⟩ : ∃ g : Nat → Int, AI θ H22 H4.size 13 g ∧ GP dt pl.toNat (Int.toNat z12) g 4 := ⟨_, haH22, gp_s hvv gxH22⟩
      have hzH22 := hz0.at hAB hS
      have hjH22 := hj0.at hAB hS
      have hkmH22 : ∀ x : Nat, x < (H1).size → H22[x]? = (H1)[x]? := fun x hx => (hkH22 x (by omega)).trans (hkmH19 x hx)
      have hmH22 := hmH1.kept hkmH22
      have hltH22 := hmH22.lt
      have lnH22 := hrH22.lt
      refine lv_dup hx hb dX3_digest_96 rfl ?_
      refine q_con hx hb dX3_digest_97 ?_
      refine lv_aload_n hx hb dX3_digest_98 rfl (lv_at hl 3 rfl) ?_
      refine lv_iload_n hx hb dX3_digest_99 rfl (lv_at hl 2 rfl) ?_
      have hmw : MWR θ S0 w H22 r q dt sv 0 dn rf kn := ⟨hzH22, hu, hmH22, hd, hsv⟩
      refine c_HV (As := [.int (iI pl)]) (rest := [.int (iI 4), .ref H4.size, .ref H4.size]) (b := w 0) (C := RX3) fx hl (mr_dayOfYearNow θ l S0 _ w _ _ _ _ _ _ _ _ hmw pl (by omega)) (ob_recv hK hmH22.1 rfl) dX3_digest_100 k1564 k1566 ks30 k6 k1567 hd_X3_dayOfYearNow rfl ⟨by decide, by decide⟩ (Nat.le_of_ble_eq_true rfl) ⟨by dsimp only; omega, by dsimp only; omega⟩ ?_
      refine q_nm (fun z23 ez23 => ?_)
      have gxH24 : GX dt pl.toNat (Int.toNat z12) 4 z23 := (show (z23 : Int) = xsF dt pl.toNat (Int.toNat z12) 4 by first | rfl | assumption | (subst_vars; rfl))
      try clear ez23
      refine r_iast (θ := θ) (a := H4.size) hx hb hK hrH22 (hAn _ (by omega)) hS (i := 4) (x := z23) (by omega) (by decide) dX3_digest_103 (fun H24 locs haH24 hszH24 hkH24 hS => ?_)
      obtain ⟨gH24, hrH24, hvv⟩ : ∃ g : Nat → Int, AI θ H24 H4.size 13 g ∧ GP dt pl.toNat (Int.toNat z12) g 5 := ⟨_, haH24, gp_s hvv gxH24⟩
      have hzH24 := hz0.at hAB hS
      have hjH24 := hj0.at hAB hS
      have hkmH24 : ∀ x : Nat, x < (H1).size → H24[x]? = (H1)[x]? := fun x hx => (hkH24 x (by omega)).trans (hkmH22 x hx)
      have hmH24 := hmH1.kept hkmH24
      have hltH24 := hmH24.lt
      have lnH24 := hrH24.lt
      refine lv_dup hx hb dX3_digest_104 rfl ?_
      refine q_con hx hb dX3_digest_105 ?_
      refine lv_aload_n hx hb dX3_digest_106 rfl (lv_at hl 3 rfl) ?_
      refine r_get (θ := θ) (C := RX3) (T := TX3) (N := 6) (ci := 9) hx hb hts gwX3 hown hK hmH24.1 rfl 4 (by decide) k1094 (fun _ h => h) (v := .ref (w 1)) rfl dX3_digest_107 ?_
      refine lv_iload_n hx hb dX3_digest_110 rfl (lv_at hl 2 rfl) ?_
      refine r_aald (θ := θ) hx hb hK hmH24.2.1 (i := pl) (by omega) (by decide) dX3_digest_111 ?_
      have rw25 := (hmH24.2.2.2.1 (pl.toNat) (by omega)).1
      have rw25n := (hmH24.2.2.2.1 (pl.toNat) (by omega)).2
      have rw25t := hd (pl.toNat) (by omega)
      have rw25l := rw25.lt
      have rw25i := inR rw25t
      have rw25m := inM rw25i
      have rw25d := dI_b (dt pl.toNat)
      refine q_con hx hb dX3_digest_112 ?_
      refine r_iald (θ := θ) hx hb hK rw25 (i := 0) (by omega) (by decide) dX3_digest_113 ?_
      refine q_as (mI (dt pl.toNat)) rfl ?_
      refine c_H (As := [.int (iI (mI (dt pl.toNat)))]) (rest := [.int (iI 5), .ref H4.size, .ref H4.size]) fx hl (pm_X3_length θ l S0 _ hzH24 (mI (dt pl.toNat)) (by omega)) dX3_digest_114 k1085 k1086 k6 k1087 hd_X3_length rfl ⟨by decide, by decide⟩ (Nat.le_of_ble_eq_true rfl) ⟨by dsimp only; omega, by dsimp only; omega⟩ ?_
      refine q_nm (fun z26 ez26 => ?_)
      have t0z26 := len_b (mI (dt pl.toNat))
      have gxH27 : GX dt pl.toNat (Int.toNat z12) 5 z26 := (show (z26 : Int) = xsF dt pl.toNat (Int.toNat z12) 5 by first | rfl | assumption | (subst_vars; rfl))
      try clear rw25n
      try clear ez26
      refine r_iast (θ := θ) (a := H4.size) hx hb hK hrH24 (hAn _ (by omega)) hS (i := 5) (x := z26) (by omega) (by decide) dX3_digest_117 (fun H27 locs haH27 hszH27 hkH27 hS => ?_)
      obtain ⟨gH27, hrH27, hvv⟩ : ∃ g : Nat → Int, AI θ H27 H4.size 13 g ∧ GP dt pl.toNat (Int.toNat z12) g 6 := ⟨_, haH27, gp_s hvv gxH27⟩
      have hzH27 := hz0.at hAB hS
      have hjH27 := hj0.at hAB hS
      have hkmH27 : ∀ x : Nat, x < (H1).size → H27[x]? = (H1)[x]? := fun x hx => (hkH27 x (by omega)).trans (hkmH24 x hx)
      have hmH27 := hmH1.kept hkmH27
      have hltH27 := hmH27.lt
      have lnH27 := hrH27.lt
      refine lv_dup hx hb dX3_digest_118 rfl ?_
      refine q_bip hx hb dX3_digest_119 (by decide) ?_
      refine lv_aload_n hx hb dX3_digest_121 rfl (lv_at hl 3 rfl) ?_
      refine r_get (θ := θ) (C := RX3) (T := TX3) (N := 6) (ci := 9) hx hb hts gwX3 hown hK hmH27.1 rfl 4 (by decide) k1094 (fun _ h => h) (v := .ref (w 1)) rfl dX3_digest_122 ?_
      refine lv_iload_n hx hb dX3_digest_125 rfl (lv_at hl 2 rfl) ?_
      refine r_aald (θ := θ) hx hb hK hmH27.2.1 (i := pl) (by omega) (by decide) dX3_digest_126 ?_
      have rw28 := (hmH27.2.2.2.1 (pl.toNat) (by omega)).1
      have rw28n := (hmH27.2.2.2.1 (pl.toNat) (by omega)).2
      have rw28t := hd (pl.toNat) (by omega)
      have rw28l := rw28.lt
      have rw28i := inR rw28t
      have rw28m := inM rw28i
      have rw28d := dI_b (dt pl.toNat)
      refine q_con hx hb dX3_digest_127 ?_
      refine r_iald (θ := θ) hx hb hK rw28 (i := 0) (by omega) (by decide) dX3_digest_128 ?_
      refine q_as (mI (dt pl.toNat)) rfl ?_
      refine q_bip hx hb dX3_digest_129 (by decide) ?_
      refine c_P (As := [.int (iI (mI (dt pl.toNat))), .int (iI 12)]) (rest := [.int (iI 6), .ref H4.size, .ref H4.size]) fx hl (pm_X3_down l (mI (dt pl.toNat)) 12 (by omega) (by omega)) dX3_digest_131 k1073 k1074 k6 k1075 hd_X3_down rfl ⟨by decide, by decide⟩ (Nat.le_of_ble_eq_true rfl) ⟨by (try dsimp only); omega, by (try dsimp only); omega⟩ ?_
      refine q_nm (fun z29 ez29 => ?_)
      obtain ⟨r30, hr30⟩ := bex (lpI z29)
      refine c_P (As := [.int (iI z29)]) (rest := [.int (iI 6), .ref H4.size, .ref H4.size]) fx hl (pm_X3_isLeap l z29 r30 hr30 (by omega)) dX3_digest_134 k1079 k1080 k6 k1081 hd_X3_isLeap rfl ⟨by decide, by decide⟩ (Nat.le_of_ble_eq_true rfl) ⟨by (try dsimp only); omega, by (try dsimp only); omega⟩ ?_
      have br30 : r30 = 0 ∨ r30 = 1 := hr30.elim (fun h => Or.inr h.1) (fun h => Or.inl h.1)
      refine c_P (As := [.int (iI r30)]) (rest := [.int (iI 6), .ref H4.size, .ref H4.size]) fx hl (pm_X3_one l r30 (by omega)) dX3_digest_137 k1239 k1240 k6 k1241 hd_X3_one rfl ⟨by decide, by decide⟩ (Nat.le_of_ble_eq_true rfl) ⟨by (try dsimp only); omega, by (try dsimp only); omega⟩ ?_
      have gxH32 : GX dt pl.toNat (Int.toNat z12) 6 r30 := (show (r30 : Int) = xsF dt pl.toNat (Int.toNat z12) 6 by first | rfl | assumption | (have h9 := lpV_r hr30; subst_vars; rfl) | (subst_vars; rfl))
      try clear rw28n
      try clear ez29
      try clear hr30
      try clear br30
      refine r_iast (θ := θ) (a := H4.size) hx hb hK hrH27 (hAn _ (by omega)) hS (i := 6) (x := r30) (by omega) (by decide) dX3_digest_140 (fun H32 locs haH32 hszH32 hkH32 hS => ?_)
      obtain ⟨gH32, hrH32, hvv⟩ : ∃ g : Nat → Int, AI θ H32 H4.size 13 g ∧ GP dt pl.toNat (Int.toNat z12) g 7 := ⟨_, haH32, gp_s hvv gxH32⟩
      have hzH32 := hz0.at hAB hS
      have hjH32 := hj0.at hAB hS
      have hkmH32 : ∀ x : Nat, x < (H1).size → H32[x]? = (H1)[x]? := fun x hx => (hkH32 x (by omega)).trans (hkmH27 x hx)
      have hmH32 := hmH1.kept hkmH32
      have hltH32 := hmH32.lt
      have lnH32 := hrH32.lt
      refine lv_dup hx hb dX3_digest_141 rfl ?_
      refine q_bip hx hb dX3_digest_142 (by decide) ?_
      refine lv_aload_n hx hb dX3_digest_144 rfl (lv_at hl 3 rfl) ?_
      refine lv_iload_n hx hb dX3_digest_145 rfl (lv_at hl 2 rfl) ?_
      have hmw : MWR θ S0 w H32 r q dt sv 0 dn rf kn := ⟨hzH32, hu, hmH32, hd, hsv⟩
      refine c_ME (As := [.int (iI pl)]) (rest := [.int (iI 7), .ref H4.size, .ref H4.size]) (b := w 0) (C := RX3) fx hl (jp_textNow θ l S0 _ w _ _ _ _ _ _ _ _ hmw hjH32 pl (by omega)) (ob_recv hK hmH32.1 rfl) dX3_digest_146 k1584 k1586 ks31 k6 k1587 hd_X3_textNow rfl ⟨by decide, by decide⟩ (Nat.le_of_ble_eq_true rfl) ⟨by (try dsimp only); omega, by (try dsimp only); omega⟩ hS (fun x hx => hAn x (Nat.le_trans hS.1 hx)) (fun x34 H33 locs hpH33 hszH33 hk0H33 hS => ?_)
      obtain ⟨hx35, y36, hy37, hq38⟩ := hpH33
      have hkH33 : ∀ q : Nat, q < (H32).size → H33[q]? = (H32)[q]? := fun q hq => hk0H33 q hq (Nat.not_le.mpr hq)
      have hrH32_H33 := hrH32.kept (hkH33 _ hrH32.lt)
      have hzH33 := hz0.at hAB hS
      have hjH33 := hj0.at hAB hS
      have hkmH33 : ∀ x : Nat, x < (H1).size → H33[x]? = (H1)[x]? := fun x hx => (hkH33 x (by omega)).trans (hkmH32 x hx)
      have hmH33 := hmH1.kept hkmH33
      have hltH33 := hmH33.lt
      obtain ⟨tnx34, etnx34⟩ : ∃ z : Nat, z = (if mI (dt pl.toNat) / 12 < 0 then 11 else 10) := ⟨_, rfl⟩
      have btnx34 : tnx34 ≤ 11 := by rw [etnx34]; split <;> omega
      have hstx34 : STg S0 H33 x34 y36 tnx34 := by rw [etnx34]; exact hq38
      have lstx34 := hstx34.lt
      refine c_Vr (C := "java/lang/String") (As := []) (rest := [.int (iI 7), .ref H4.size, .ref H4.size]) (r := some (.int (iI (tnx34 : Int)))) (st1 := [.int (iI (tnx34 : Int)), .int (iI 7), .ref H4.size, .ref H4.size]) fx hl (jm_length θ l S0 _ hzH33 hjH33 x34 y36 tnx34 hstx34 (by omega)) (o_recv fx.2 hstx34.1) dX3_digest_149 k1592 k415 k416 k4 k417 hd_J0_length_8abf5 rfl rfl ⟨by decide, by decide⟩ (Nat.le_of_ble_eq_true rfl) ⟨by (try dsimp only); omega, by (try dsimp only); omega⟩ hS (fun x hx => by first | exact hx.elim | ((try dsimp only at hx ⊢); omega)) (fun H39 locs hpH39 hsz0H39 hk0H39 hS => ?_)
      obtain rfl := hpH39.symm
      refine q_nm (fun z40 ez40 => ?_)
      have gxH41 : GX dt pl.toNat (Int.toNat z12) 7 z40 := (show (z40 : Int) = xsF dt pl.toNat (Int.toNat z12) 7 by first | rfl | assumption | (subst_vars; rfl))
      try clear ez40
      refine r_iast (θ := θ) (a := H4.size) hx hb hK hrH32_H33 (hAn _ (by omega)) hS (i := 7) (x := z40) (by omega) (by decide) dX3_digest_152 (fun H41 locs haH41 hszH41 hkH41 hS => ?_)
      obtain ⟨gH41, hrH41, hvv⟩ : ∃ g : Nat → Int, AI θ H41 H4.size 13 g ∧ GP dt pl.toNat (Int.toNat z12) g 8 := ⟨_, haH41, gp_s hvv gxH41⟩
      have hstx34_H41 := hstx34.kept (hkH41 _ (by omega)) (hkH41 _ (by omega))
      have hzH41 := hz0.at hAB hS
      have hjH41 := hj0.at hAB hS
      have hkmH41 : ∀ x : Nat, x < (H1).size → H41[x]? = (H1)[x]? := fun x hx => (hkH41 x (by omega)).trans (hkmH33 x hx)
      have hmH41 := hmH1.kept hkmH41
      have hltH41 := hmH41.lt
      have lnH41 := hrH41.lt
      refine lv_dup hx hb dX3_digest_153 rfl ?_
      refine q_bip hx hb dX3_digest_154 (by decide) ?_
      refine lv_aload_n hx hb dX3_digest_156 rfl (lv_at hl 3 rfl) ?_
      refine lv_iload_n hx hb dX3_digest_157 rfl (lv_at hl 2 rfl) ?_
      refine q_con hx hb dX3_digest_158 ?_
      have hmw : MWR θ S0 w H41 r q dt sv 0 dn rf kn := ⟨hzH41, hu, hmH41, hd, hsv⟩
      refine c_M (w := w) (As := [.int (iI pl), .int (iI 1)]) (rest := [.int (iI 8), .ref H4.size, .ref H4.size]) (b := w 0) (C := RX3) fx hl (ma_lossNow θ l S0 _ w _ _ _ _ _ _ _ _ hmw pl 1 (by omega) (by omega)) (ob_recv hK hmH41.1 rfl) dX3_digest_159 k1266 k1268 ks18 k6 k1269 hd_X3_lossNow rfl ⟨by decide, by decide⟩ (Nat.le_of_ble_eq_true rfl) ⟨by dsimp only; omega, by dsimp only; omega⟩ hS (fun x hx => hAn x (Nat.le_trans hS.1 hx)) (fun H42 locs _ hszH42 hk0H42 hS => ?_)
      have hkH42 : ∀ x : Nat, x < (H41).size → H42[x]? = (H41)[x]? := fun x hx => hk0H42 x hx (Nat.not_le.mpr hx)
      have hstx34_H42 := hstx34_H41.kept (hkH42 _ hstx34_H41.lt.1) (hkH42 _ hstx34_H41.lt.2)
      have hrH41_H42 := hrH41.kept (hkH42 _ hrH41.lt)
      have hzH42 := hz0.at hAB hS
      have hjH42 := hj0.at hAB hS
      have hkmH42 : ∀ x : Nat, x < (H1).size → H42[x]? = (H1)[x]? := fun x hx => (hkH42 x (by omega)).trans (hkmH41 x hx)
      have hmH42 := hmH1.kept hkmH42
      have hltH42 := hmH42.lt
      have hltH42 := hmH42.lt
      refine q_nm (fun z43 ez43 => ?_)
      have t0z43 := dI_b (dt pl.toNat)
      have t1z43 := dI_b (shI (dt pl.toNat) 1)
      have gxH44 : GX dt pl.toNat (Int.toNat z12) 8 z43 := (show (z43 : Int) = xsF dt pl.toNat (Int.toNat z12) 8 by first | rfl | assumption | (subst_vars; rfl))
      try clear ez43
      refine r_iast (θ := θ) (a := H4.size) hx hb hK hrH41_H42 (hAn _ (by omega)) hS (i := 8) (x := z43) (by omega) (by decide) dX3_digest_162 (fun H44 locs haH44 hszH44 hkH44 hS => ?_)
      obtain ⟨gH44, hrH44, hvv⟩ : ∃ g : Nat → Int, AI θ H44 H4.size 13 g ∧ GP dt pl.toNat (Int.toNat z12) g 9 := ⟨_, haH44, gp_s hvv gxH44⟩
      have hstx34_H44 := hstx34_H42.kept (hkH44 _ (by omega)) (hkH44 _ (by omega))
      have hzH44 := hz0.at hAB hS
      have hjH44 := hj0.at hAB hS
      have hkmH44 : ∀ x : Nat, x < (H1).size → H44[x]? = (H1)[x]? := fun x hx => (hkH44 x (by omega)).trans (hkmH42 x hx)
      have hmH44 := hmH1.kept hkmH44
      have hltH44 := hmH44.lt
      have lnH44 := hrH44.lt
      refine lv_dup hx hb dX3_digest_163 rfl ?_
      refine q_bip hx hb dX3_digest_164 (by decide) ?_
      refine lv_aload_n hx hb dX3_digest_166 rfl (lv_at hl 3 rfl) ?_
      refine lv_iload_n hx hb dX3_digest_167 rfl (lv_at hl 2 rfl) ?_
      refine q_con hx hb dX3_digest_168 ?_
      have hmw : MWR θ S0 w H44 r q dt sv 0 dn rf kn := ⟨hzH44, hu, hmH44, hd, hsv⟩
      refine c_M (w := w) (As := [.int (iI pl), .int (iI (-1))]) (rest := [.int (iI 9), .ref H4.size, .ref H4.size]) (b := w 0) (C := RX3) fx hl (ma_lossNow θ l S0 _ w _ _ _ _ _ _ _ _ hmw pl (-1) (by omega) (by omega)) (ob_recv hK hmH44.1 rfl) dX3_digest_169 k1266 k1268 ks18 k6 k1269 hd_X3_lossNow rfl ⟨by decide, by decide⟩ (Nat.le_of_ble_eq_true rfl) ⟨by dsimp only; omega, by dsimp only; omega⟩ hS (fun x hx => hAn x (Nat.le_trans hS.1 hx)) (fun H45 locs _ hszH45 hk0H45 hS => ?_)
      have hkH45 : ∀ x : Nat, x < (H44).size → H45[x]? = (H44)[x]? := fun x hx => hk0H45 x hx (Nat.not_le.mpr hx)
      have hstx34_H45 := hstx34_H44.kept (hkH45 _ hstx34_H44.lt.1) (hkH45 _ hstx34_H44.lt.2)
      have hrH44_H45 := hrH44.kept (hkH45 _ hrH44.lt)
      have hzH45 := hz0.at hAB hS
      have hjH45 := hj0.at hAB hS
      have hkmH45 : ∀ x : Nat, x < (H1).size → H45[x]? = (H1)[x]? := fun x hx => (hkH45 x (by omega)).trans (hkmH44 x hx)
      have hmH45 := hmH1.kept hkmH45
      have hltH45 := hmH45.lt
      have hltH45 := hmH45.lt
      refine q_nm (fun z46 ez46 => ?_)
      have t0z46 := dI_b (dt pl.toNat)
      have t1z46 := dI_b (shI (dt pl.toNat) (-1))
      have gxH47 : GX dt pl.toNat (Int.toNat z12) 9 z46 := (show (z46 : Int) = xsF dt pl.toNat (Int.toNat z12) 9 by first | rfl | assumption | (subst_vars; rfl))
      try clear ez46
      refine r_iast (θ := θ) (a := H4.size) hx hb hK hrH44_H45 (hAn _ (by omega)) hS (i := 9) (x := z46) (by omega) (by decide) dX3_digest_172 (fun H47 locs haH47 hszH47 hkH47 hS => ?_)
      obtain ⟨gH47, hrH47, hvv⟩ : ∃ g : Nat → Int, AI θ H47 H4.size 13 g ∧ GP dt pl.toNat (Int.toNat z12) g 10 := ⟨_, haH47, gp_s hvv gxH47⟩
      have hstx34_H47 := hstx34_H45.kept (hkH47 _ (by omega)) (hkH47 _ (by omega))
      have hzH47 := hz0.at hAB hS
      have hjH47 := hj0.at hAB hS
      have hkmH47 : ∀ x : Nat, x < (H1).size → H47[x]? = (H1)[x]? := fun x hx => (hkH47 x (by omega)).trans (hkmH45 x hx)
      have hmH47 := hmH1.kept hkmH47
      have hltH47 := hmH47.lt
      have lnH47 := hrH47.lt
      refine lv_dup hx hb dX3_digest_173 rfl ?_
      refine q_bip hx hb dX3_digest_174 (by decide) ?_
      refine lv_aload_n hx hb dX3_digest_176 rfl (lv_at hl 3 rfl) ?_
      refine lv_iload_n hx hb dX3_digest_177 rfl (lv_at hl 2 rfl) ?_
      refine q_con hx hb dX3_digest_178 ?_
      refine q_bip hx hb dX3_digest_179 (by decide) ?_
      have hmw : MWR θ S0 w H47 r q dt sv 0 dn rf kn := ⟨hzH47, hu, hmH47, hd, hsv⟩
      refine c_M (w := w) (As := [.int (iI pl), .int (iI 1), .int (iI 30)]) (rest := [.int (iI 10), .ref H4.size, .ref H4.size]) (b := w 0) (C := RX3) fx hl (ma_gapNow θ l S0 _ w _ _ _ _ _ _ _ _ hmw pl 1 30 (by omega) (by omega) (by omega)) (ob_recv hK hmH47.1 rfl) dX3_digest_181 k1288 k1290 ks19 k6 k1291 hd_X3_gapNow rfl ⟨by decide, by decide⟩ (Nat.le_of_ble_eq_true rfl) ⟨by dsimp only; omega, by dsimp only; omega⟩ hS (fun x hx => hAn x (Nat.le_trans hS.1 hx)) (fun H48 locs _ hszH48 hk0H48 hS => ?_)
      have hkH48 : ∀ x : Nat, x < (H47).size → H48[x]? = (H47)[x]? := fun x hx => hk0H48 x hx (Nat.not_le.mpr hx)
      have hstx34_H48 := hstx34_H47.kept (hkH48 _ hstx34_H47.lt.1) (hkH48 _ hstx34_H47.lt.2)
      have hrH47_H48 := hrH47.kept (hkH48 _ hrH47.lt)
      have hzH48 := hz0.at hAB hS
      have hjH48 := hj0.at hAB hS
      have hkmH48 : ∀ x : Nat, x < (H1).size → H48[x]? = (H1)[x]? := fun x hx => (hkH48 x (by omega)).trans (hkmH47 x hx)
      have hmH48 := hmH1.kept hkmH48
      have hltH48 := hmH48.lt
      have hltH48 := hmH48.lt
      refine q_nm (fun z49 ez49 => ?_)
      have gxH50 : GX dt pl.toNat (Int.toNat z12) 10 z49 := (show (z49 : Int) = xsF dt pl.toNat (Int.toNat z12) 10 by first | rfl | assumption | (subst_vars; rfl))
      try clear ez49
      refine r_iast (θ := θ) (a := H4.size) hx hb hK hrH47_H48 (hAn _ (by omega)) hS (i := 10) (x := z49) (by omega) (by decide) dX3_digest_184 (fun H50 locs haH50 hszH50 hkH50 hS => ?_)
      obtain ⟨gH50, hrH50, hvv⟩ : ∃ g : Nat → Int, AI θ H50 H4.size 13 g ∧ GP dt pl.toNat (Int.toNat z12) g 11 := ⟨_, haH50, gp_s hvv gxH50⟩
      have hstx34_H50 := hstx34_H48.kept (hkH50 _ (by omega)) (hkH50 _ (by omega))
      have hzH50 := hz0.at hAB hS
      have hjH50 := hj0.at hAB hS
      have hkmH50 : ∀ x : Nat, x < (H1).size → H50[x]? = (H1)[x]? := fun x hx => (hkH50 x (by omega)).trans (hkmH48 x hx)
      have hmH50 := hmH1.kept hkmH50
      have hltH50 := hmH50.lt
      have lnH50 := hrH50.lt
      refine lv_dup hx hb dX3_digest_185 rfl ?_
      refine q_bip hx hb dX3_digest_186 (by decide) ?_
      refine lv_aload_n hx hb dX3_digest_188 rfl (lv_at hl 3 rfl) ?_
      refine lv_iload_n hx hb dX3_digest_189 rfl (lv_at hl 2 rfl) ?_
      refine lv_iload hx hb dX3_digest_190 (lv_at hl 0 rfl) ?_
      have hmw : MWR θ S0 w H50 r q dt sv 0 dn rf kn := ⟨hzH50, hu, hmH50, hd, hsv⟩
      refine c_HV (As := [.int (iI pl), .int (iI z12)]) (rest := [.int (iI 11), .ref H4.size, .ref H4.size]) (b := w 0) (C := RX3) fx hl (mr_order θ l S0 _ w _ _ _ _ _ _ _ _ hmw pl z12 (by omega) (by omega)) (ob_recv hK hmH50.1 rfl) dX3_digest_192 k1598 k1600 ks32 k6 k1601 hd_X3_order rfl ⟨by decide, by decide⟩ (Nat.le_of_ble_eq_true rfl) ⟨by dsimp only; omega, by dsimp only; omega⟩ ?_
      refine q_nm (fun z51 ez51 => ?_)
      have gxH52 : GX dt pl.toNat (Int.toNat z12) 11 z51 := (show (z51 : Int) = xsF dt pl.toNat (Int.toNat z12) 11 by first | rfl | assumption | (subst_vars; rfl))
      try clear ez51
      refine r_iast (θ := θ) (a := H4.size) hx hb hK hrH50 (hAn _ (by omega)) hS (i := 11) (x := z51) (by omega) (by decide) dX3_digest_195 (fun H52 locs haH52 hszH52 hkH52 hS => ?_)
      obtain ⟨gH52, hrH52, hvv⟩ : ∃ g : Nat → Int, AI θ H52 H4.size 13 g ∧ GP dt pl.toNat (Int.toNat z12) g 12 := ⟨_, haH52, gp_s hvv gxH52⟩
      have hstx34_H52 := hstx34_H50.kept (hkH52 _ (by omega)) (hkH52 _ (by omega))
      have hzH52 := hz0.at hAB hS
      have hjH52 := hj0.at hAB hS
      have hkmH52 : ∀ x : Nat, x < (H1).size → H52[x]? = (H1)[x]? := fun x hx => (hkH52 x (by omega)).trans (hkmH50 x hx)
      have hmH52 := hmH1.kept hkmH52
      have hltH52 := hmH52.lt
      have lnH52 := hrH52.lt
      refine lv_dup hx hb dX3_digest_196 rfl ?_
      refine q_bip hx hb dX3_digest_197 (by decide) ?_
      refine lv_aload_n hx hb dX3_digest_199 rfl (lv_at hl 3 rfl) ?_
      refine lv_iload_n hx hb dX3_digest_200 rfl (lv_at hl 2 rfl) ?_
      refine lv_iload hx hb dX3_digest_201 (lv_at hl 0 rfl) ?_
      have hmw : MWR θ S0 w H52 r q dt sv 0 dn rf kn := ⟨hzH52, hu, hmH52, hd, hsv⟩
      refine c_HV (As := [.int (iI pl), .int (iI z12)]) (rest := [.int (iI 12), .ref H4.size, .ref H4.size]) (b := w 0) (C := RX3) fx hl (mr_monthsNow θ l S0 _ w _ _ _ _ _ _ _ _ hmw pl z12 (by omega) (by omega)) (ob_recv hK hmH52.1 rfl) dX3_digest_203 k1544 k1546 ks29 k6 k1547 hd_X3_monthsNow rfl ⟨by decide, by decide⟩ (Nat.le_of_ble_eq_true rfl) ⟨by dsimp only; omega, by dsimp only; omega⟩ ?_
      refine q_nm (fun z53 ez53 => ?_)
      have gxH54 : GX dt pl.toNat (Int.toNat z12) 12 z53 := (show (z53 : Int) = xsF dt pl.toNat (Int.toNat z12) 12 by first | rfl | assumption | (subst_vars; rfl))
      try clear ez53
      refine r_iast (θ := θ) (a := H4.size) hx hb hK hrH52 (hAn _ (by omega)) hS (i := 12) (x := z53) (by omega) (by decide) dX3_digest_206 (fun H54 locs haH54 hszH54 hkH54 hS => ?_)
      obtain ⟨gH54, hrH54, hvv⟩ : ∃ g : Nat → Int, AI θ H54 H4.size 13 g ∧ GP dt pl.toNat (Int.toNat z12) g 13 := ⟨_, haH54, gp_s hvv gxH54⟩
      have hstx34_H54 := hstx34_H52.kept (hkH54 _ (by omega)) (hkH54 _ (by omega))
      have hzH54 := hz0.at hAB hS
      have hjH54 := hj0.at hAB hS
      have hkmH54 : ∀ x : Nat, x < (H1).size → H54[x]? = (H1)[x]? := fun x hx => (hkH54 x (by omega)).trans (hkmH52 x hx)
      have hmH54 := hmH1.kept hkmH54
      have hltH54 := hmH54.lt
      have lnH54 := hrH54.lt
      refine lv_astore (lv' := [(5, .ref H4.size), (4, .int (iI z12)), (1, .long (lL d2)), (3, .int (iI pl)), (0, .ref (w 0))]) hx hb dX3_digest_207 hl (by decide) rfl (fun ls hl => ?_)
      refine lv_aload hx hb dX3_digest_209 (lv_at hl 0 rfl) ?_
      refine lv_astore (lv' := [(6, .ref H4.size), (5, .ref H4.size), (4, .int (iI z12)), (1, .long (lL d2)), (3, .int (iI pl)), (0, .ref (w 0))]) hx hb dX3_digest_211 hl (by decide) rfl (fun ls hl => ?_)
      refine lv_aload hx hb dX3_digest_213 (lv_at hl 0 rfl) ?_
      refine r_ialen (θ := θ) hx hb hK hrH54 dX3_digest_215 ?_
      refine lv_istore (lv' := [(7, .int (iI 13)), (6, .ref H4.size), (5, .ref H4.size), (4, .int (iI z12)), (1, .long (lL d2)), (3, .int (iI pl)), (0, .ref (w 0))]) hx hb dX3_digest_216 hl (by decide) rfl (fun ls hl => ?_)
      refine q_con hx hb dX3_digest_218 ?_
      refine lv_istore (lv' := [(8, .int (iI 0)), (7, .int (iI 13)), (6, .ref H4.size), (5, .ref H4.size), (4, .int (iI z12)), (1, .long (lL d2)), (3, .int (iI pl)), (0, .ref (w 0))]) hx hb dX3_digest_219 hl (by decide) rfl (fun ls hl => ?_)
      refine w_loopH (nL := 10) (σ := Int × Int) (fun x => (13 - x.2).toNat) (fun x Hx1 locs1 c9 s9 => ((0 ≤ x.2 ∧ x.2 ≤ 13) ∧ (x.1 = rfF gH54 d2 x.2.toNat)) ∧ AI θ Hx1 H4.size 13 gH54 ∧ (∀ x : Nat, x < (H1).size → Hx1[x]? = (H1)[x]?) ∧ (H1).size ≤ Hx1.size ∧ va_S (fun x : Nat => (x = w 0 ∨ x = w 1 ∨ x = w 2) ∨ s.heap.size ≤ x) s.heap Hx1 locs1 ∧ c9 ≤ 4 + 59 * Int.toNat pl + 59 ∧ s9 ≤ 16 + 545 * Int.toNat pl + 545) (fun x => [(1, .long (lL x.1)), (8, .int (iI x.2)), (7, .int (iI 13)), (6, .ref H4.size), (5, .ref H4.size), (4, .int (iI z12)), (3, .int (iI pl)), (0, .ref (w 0))]) ?_ ((d2 : Int), (0 : Int)) ⟨⟨by first | ((try dsimp only); (first | omega | rfl)) | (dsimp only; done), by first | ((try dsimp only); (first | omega | rfl)) | (dsimp only; done)⟩, hrH54, hkmH54, (by omega), hS, by (try dsimp only); omega, by (try dsimp only); omega⟩ (lv_sub hl [5, 0, 1, 2, 3, 4, 6, 7] rfl)
      intro x H55 locs cells slots hJ221 ih221 ls hl
      obtain ⟨d3, ix⟩ := x
      obtain ⟨hI221, hf0H55, hf1H55, hf2H55, hS, hcH55, hsH55⟩ := hJ221
      (try dsimp only at hI221 hcH55 hsH55 ih221 hl ⊢)
      (try dsimp only at hf0H55)
      (try dsimp only at hf1H55)
      (try dsimp only at hf2H55)
      have hsgeH55 := hS.1
      have hzH55 := hz0.at hAB hS
      have hjH55 := hj0.at hAB hS
      have hkmH55 := hf1H55
      have hmH55 := hmH1.kept hkmH55
      have hltH55 := hmH55.lt
      have lhf0H55 := hf0H55.lt
      refine lv_iload hx hb dX3_digest_221 (lv_at hl 1 rfl) ?_
      refine lv_iload hx hb dX3_digest_223 (lv_at hl 2 rfl) ?_
      refine q_cge (tgt := 251) hx hb dX3_digest_225 (by decide) (by omega) (by omega) (fun c56 => ?_) (fun c56 => ?_)
      · refine lv_iinc (v := iI (pl + 1)) (lv' := [(3, .int (iI (pl + 1))), (1, .long (lL d3)), (8, .int (iI ix)), (7, .int (iI 13)), (6, .ref H4.size), (5, .ref H4.size), (4, .int (iI z12)), (0, .ref (w 0))]) hx hb dX3_digest_251 hl (k := 6) rfl (iI_add _ _) (by decide) rfl (fun ls hl => ?_)
        refine lv_goto (tgt := 37) hx hb dX3_digest_254 (by decide) ?_
        exact ih37 ((d3 : Int), (pl + 1 : Int)) _ _ _ _ _ ⟨⟨by first | ((try dsimp only); (first | omega | exact dg_row (by omega) hI37.2 hI221.2 (by omega) gn9 hvv)) | (dsimp only; done), by first | ((try dsimp only); (first | omega | exact dg_row (by omega) hI37.2 hI221.2 (by omega) gn9 hvv)) | (dsimp only; done)⟩, hkmH55, (by omega), hS, by (try dsimp only); omega, by (try dsimp only); omega⟩ (by (try dsimp only); omega) (lv_sub hl [1, 0, 7] rfl)
      · refine lv_aload hx hb dX3_digest_228 (lv_at hl 3 rfl) ?_
        refine lv_iload hx hb dX3_digest_230 (lv_at hl 1 rfl) ?_
        refine r_iald (θ := θ) hx hb hK hf0H55 (i := ix) (by omega) (by decide) dX3_digest_232 ?_
        refine q_nm (fun z57 ez57 => ?_)
        refine lv_istore (lv' := [(9, .int (iI z57)), (1, .long (lL d3)), (8, .int (iI ix)), (7, .int (iI 13)), (6, .ref H4.size), (5, .ref H4.size), (4, .int (iI z12)), (3, .int (iI pl)), (0, .ref (w 0))]) hx hb dX3_digest_233 hl (by decide) rfl (fun ls hl => ?_)
        refine lv_lload_n hx hb dX3_digest_235 rfl (lv_at hl 1 rfl) ?_
        refine q_ldc2 (n := 31) hx hb hown (hts _ k1627) (by decide) dX3_digest_236 ?_
        refine q_lmul hx hb dX3_digest_239 ?_
        refine lv_iload hx hb dX3_digest_240 (lv_at hl 0 rfl) ?_
        refine q_i2ly hx hb dX3_digest_242 ?_
        refine q_ladd hx hb dX3_digest_243 ?_
        refine q_nml (fun z58 ez58 => ?_)
        refine lv_lstore_n (lv' := [(1, .long (lL z58)), (9, .int (iI z57)), (8, .int (iI ix)), (7, .int (iI 13)), (6, .ref H4.size), (5, .ref H4.size), (4, .int (iI z12)), (3, .int (iI pl)), (0, .ref (w 0))]) hx hb dX3_digest_244 rfl hl (by decide) rfl (fun ls hl => ?_)
        refine lv_iinc (v := iI (ix + 1)) (lv' := [(8, .int (iI (ix + 1))), (1, .long (lL z58)), (9, .int (iI z57)), (7, .int (iI 13)), (6, .ref H4.size), (5, .ref H4.size), (4, .int (iI z12)), (3, .int (iI pl)), (0, .ref (w 0))]) hx hb dX3_digest_245 hl (k := 2) rfl (iI_add _ _) (by decide) rfl (fun ls hl => ?_)
        refine lv_goto (tgt := 221) hx hb dX3_digest_248 (by decide) ?_
        exact ih221 ((z58 : Int), (ix + 1 : Int)) _ _ _ _ _ ⟨⟨by first | ((try dsimp only); (first | omega | exact rf_s (by omega) hI221.2 (by assumption) (by assumption))) | (dsimp only; done), by first | ((try dsimp only); (first | omega | exact rf_s (by omega) hI221.2 (by assumption) (by assumption))) | (dsimp only; done)⟩, hf0H55, hkmH55, (by omega), hS, by (try dsimp only); omega, by (try dsimp only); omega⟩ (by (try dsimp only); omega) (lv_sub hl [1, 0, 3, 4, 5, 6, 7, 8] rfl)
  · refine lv_lload_n hx hb dX3_digest_16 rfl (lv_at hl 0 rfl) ?_
    refine q_ldc2 (n := 31) hx hb hown (hts _ k1627) (by decide) dX3_digest_17 ?_
    refine q_lmul hx hb dX3_digest_20 ?_
    refine lv_aload_n hx hb dX3_digest_21 rfl (lv_at hl 2 rfl) ?_
    refine lv_iload_n hx hb dX3_digest_22 rfl (lv_at hl 1 rfl) ?_
    have hmw : MWR θ S0 w H2 r q dt sv 0 dn rf kn := ⟨hzH2, hu, hmH2, hd, hsv⟩
    refine c_M (w := w) (As := [.int (iI wh)]) (rest := [.long (lL (d1 * 31))]) (b := w 0) (C := RX3) fx hl (ma_houseNow θ l S0 _ w _ _ _ _ _ _ _ _ hmw wh (by omega)) (ob_recv hK hmH2.1 rfl) dX3_digest_23 k1610 k1612 ks33 k6 k1613 hd_X3_houseNow rfl ⟨by decide, by decide⟩ (Nat.le_of_ble_eq_true rfl) ⟨by dsimp only; omega, by dsimp only; omega⟩ hS (fun x hx => hAn x (Nat.le_trans hS.1 hx)) (fun H59 locs _ hszH59 hk0H59 hS => ?_)
    have hkH59 : ∀ x : Nat, x < (H2).size → H59[x]? = (H2)[x]? := fun x hx => hk0H59 x hx (Nat.not_le.mpr hx)
    have hzH59 := hz0.at hAB hS
    have hjH59 := hj0.at hAB hS
    have hkmH59 : ∀ x : Nat, x < (H1).size → H59[x]? = (H1)[x]? := fun x hx => (hkH59 x (by omega)).trans (hkmH2 x hx)
    have hmH59 := hmH1.kept hkmH59
    have hltH59 := hmH59.lt
    have hltH59 := hmH59.lt
    refine q_nm (fun z60 ez60 => ?_)
    refine q_i2ly hx hb dX3_digest_26 ?_
    refine q_ladd hx hb dX3_digest_27 ?_
    refine q_nml (fun z61 ez61 => ?_)
    refine lv_lstore_n (lv' := [(1, .long (lL z61)), (3, .int (iI wh)), (0, .ref (w 0))]) hx hb dX3_digest_28 rfl hl (by decide) rfl (fun ls hl => ?_)
    refine lv_iinc (v := iI (wh + 1)) (lv' := [(3, .int (iI (wh + 1))), (1, .long (lL z61)), (0, .ref (w 0))]) hx hb dX3_digest_29 hl (k := 1) rfl (iI_add _ _) (by decide) rfl (fun ls hl => ?_)
    refine lv_goto (tgt := 11) hx hb dX3_digest_32 (by decide) ?_
    exact ih11 ((z61 : Int), (wh + 1 : Int)) _ _ _ _ _ ⟨⟨by first | ((try dsimp only); (first | omega | exact dg1_s (by omega) hI11.2 (by assumption) (by assumption))) | (dsimp only; done), by first | ((try dsimp only); (first | omega | exact dg1_s (by omega) hI11.2 (by assumption) (by assumption))) | (dsimp only; done)⟩, hkmH59, (by omega), hS, by (try dsimp only); omega, by (try dsimp only); omega⟩ (by (try dsimp only); omega) (lv_sub hl [1, 0, 2] rfl)
