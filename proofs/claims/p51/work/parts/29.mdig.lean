set_option maxHeartbeats 4000000 in
set_option maxRecDepth 100000 in
theorem mok_digest (θ : TH) (l : Launch) (S0 : State) (H : Heap) (w : Nat → Nat) (r q : Nat → Nat) (dt : Nat → Int) (sv : Nat → Nat → Int) (th dn rf kn : Int) (hw : MWR θ S0 w H r q dt sv th dn rf kn) (hj : SJ θ S0 H) : CT l yX3_digest cX3_digest 10 (some .long) 9 215 358 3286 [.ref (w 0)] S0 H (fun v9 H1 => (∃ z : Int, v9 = some (.long (lL z))) ∧ ∃ r1 q1 : Nat → Nat, MWR θ S0 w H1 r1 q1 dt sv 0 dn rf kn ∧ NW 6 H.size r r1 ∧ NW 3 H.size q q1) (fun _ _ => False) (WA w H.size) := by
  refine ct_of (by decide +kernel) (Nat.le_of_ble_eq_true rfl) ?_
  intro pg en s mi args below meth co ls fx hs hr hlk hxt hin hl
  subst hs
  obtain ⟨hx, hb, hml, hown, hts⟩ := id fx.1
  have hS : va_S (fun x : Nat => (x = w 0 ∨ x = w 1 ∨ x = w 2) ∨ s.heap.size ≤ x) s.heap s.heap [] := va_S.rf
  obtain ⟨hz, hu, hm, hd, hsv⟩ := id hw
  have hAB : ∀ x : Nat, (fun x : Nat => (x = w 0 ∨ x = w 1 ∨ x = w 2) ∨ s.heap.size ≤ x) x → θ.2.2.2 ≤ x := wa_b hu hz.2.1
  have hz0 := hz
  have hK := sz_K fx.2 hz
  have hlt0 := hm.lt
  have hu1 := hu.1
  have hAn : ∀ x : Nat, s.heap.size ≤ x → (fun x : Nat => (x = w 0 ∨ x = w 1 ∨ x = w 2) ∨ s.heap.size ≤ x) x := fun _ h => Or.inr h
  clear hu1
  have hj0 := hj
  have hz2 := hz.2.1
  refine lv_aload_n hx hb dX3_digest_0 rfl (lv_at hl 0 rfl) ?_
  refine q_con hx hb dX3_digest_1 ?_
  refine r_put (θ := θ) (A := (fun x : Nat => (x = w 0 ∨ x = w 1 ∨ x = w 2) ∨ s.heap.size ≤ x)) (C := RX3) (T := TX3) (N := 6) (ci := 9) (v := .int (iI 0)) (ty := .int) hx hb hts gwX3 tyX3 tyX3_ok nmX3 hown hK hm.1 (Or.inl (Or.inl rfl)) hS rfl 0 (by decide) k1090 (fun _ h => h) rfl (by decide +kernel) rfl rfl (Nat.le_of_ble_eq_true rfl) dX3_digest_2 (fun H1 locs hoH1 hszH1 hkH1 hS => ?_)
  have hmH1 : MW θ w H1 r q dt sv 0 dn rf kn := hm.obj hu hoH1 hkH1
  have hzH1 := hz0.at hAB hS
  have hjH1 := hj0.at hAB hS
  refine q_ldc2 (n := 7843) hx hb hown (hts _ k1626) (by decide) dX3_digest_5 ?_
  refine lv_lstore_n (lv' := [(1, .long (lL 7843)), (0, .ref (w 0))]) hx hb dX3_digest_8 rfl hl (by decide) rfl (fun ls hl => ?_)
  refine q_con hx hb dX3_digest_9 ?_
  refine lv_istore_n (lv' := [(3, .int (iI 0)), (1, .long (lL 7843)), (0, .ref (w 0))]) hx hb dX3_digest_10 rfl hl (by decide) rfl (fun ls hl => ?_)
  refine w_loopH (nL := 10) (σ := Int × Int) (fun x => (4 - x.2).toNat) (fun x Hx1 locs1 c9 s9 => ((0 ≤ x.2 ∧ x.2 ≤ 4)) ∧ (∀ x : Nat, x < (H1).size → Hx1[x]? = (H1)[x]?) ∧ (H1).size ≤ Hx1.size ∧ va_S (fun x : Nat => (x = w 0 ∨ x = w 1 ∨ x = w 2) ∨ s.heap.size ≤ x) s.heap Hx1 locs1 ∧ c9 ≤ 1 * Int.toNat x.2 ∧ s9 ≤ 4 * Int.toNat x.2) (fun x => [(1, .long (lL x.1)), (3, .int (iI x.2)), (0, .ref (w 0))]) ?_ ((7843 : Int), (0 : Int)) ⟨(by first | ((try dsimp only); omega) | (dsimp only; done)), (fun x (_ : x < (H1).size) => (rfl : (H1)[x]? = (H1)[x]?)), (by omega), hS, by (try dsimp only); omega, by (try dsimp only); omega⟩ (lv_sub hl [1, 0, 2] rfl)
  intro x H2 locs cells slots hJ11 ih11 ls hl
  obtain ⟨d1, wh⟩ := x
  obtain ⟨hI11, hf0H2, hf1H2, hS, hcH2, hsH2⟩ := hJ11
  (try dsimp only at hI11 hcH2 hsH2 ih11 hl ⊢)
  (try dsimp only at hf0H2)
  (try dsimp only at hf1H2)
  have hsgeH2 := hS.1
  have hzH2 := hz0.at hAB hS
  have hjH2 := hj0.at hAB hS
  have hkmH2 := hf0H2
  have hmH2 := hmH1.kept hkmH2
  have hltH2 := hmH2.lt
  refine lv_iload_n hx hb dX3_digest_11 rfl (lv_at hl 1 rfl) ?_
  refine q_con hx hb dX3_digest_12 ?_
  refine q_cge (tgt := 35) hx hb dX3_digest_13 (by decide) (by omega) (by omega) (fun c3 => ?_) (fun c3 => ?_)
  · refine q_con hx hb dX3_digest_35 ?_
    refine lv_istore_n (lv' := [(3, .int (iI 0)), (1, .long (lL d1)), (0, .ref (w 0))]) hx hb dX3_digest_36 rfl hl (by decide) rfl (fun ls hl => ?_)
    refine w_loopH (nL := 10) (σ := Int × Int) (fun x => (6 - x.2).toNat) (fun x Hx1 locs1 c9 s9 => ((0 ≤ x.2 ∧ x.2 ≤ 6)) ∧ (∀ x : Nat, x < (H1).size → Hx1[x]? = (H1)[x]?) ∧ (H1).size ≤ Hx1.size ∧ va_S (fun x : Nat => (x = w 0 ∨ x = w 1 ∨ x = w 2) ∨ s.heap.size ≤ x) s.heap Hx1 locs1 ∧ c9 ≤ 4 + 59 * Int.toNat x.2 ∧ s9 ≤ 16 + 545 * Int.toNat x.2) (fun x => [(1, .long (lL x.1)), (3, .int (iI x.2)), (0, .ref (w 0))]) ?_ ((d1 : Int), (0 : Int)) ⟨(by first | ((try dsimp only); omega) | (dsimp only; done)), hkmH2, (by omega), hS, by (try dsimp only); omega, by (try dsimp only); omega⟩ (lv_sub hl [1, 0, 2] rfl)
    intro x H4 locs cells slots hJ37 ih37 ls hl
    obtain ⟨d2, pl⟩ := x
    obtain ⟨hI37, hf0H4, hf1H4, hS, hcH4, hsH4⟩ := hJ37
    (try dsimp only at hI37 hcH4 hsH4 ih37 hl ⊢)
    (try dsimp only at hf0H4)
    (try dsimp only at hf1H4)
    have hsgeH4 := hS.1
    have hzH4 := hz0.at hAB hS
    have hjH4 := hj0.at hAB hS
    have hkmH4 := hf0H4
    have hmH4 := hmH1.kept hkmH4
    have hltH4 := hmH4.lt
    refine lv_iload_n hx hb dX3_digest_37 rfl (lv_at hl 1 rfl) ?_
    refine q_bip hx hb dX3_digest_38 (by decide) ?_
    refine q_cge (tgt := 257) hx hb dX3_digest_40 (by decide) (by omega) (by omega) (fun c5 => ?_) (fun c5 => ?_)
    · refine q_con hx hb dX3_digest_257 ?_
      refine lv_istore_n (lv' := [(3, .int (iI 0)), (1, .long (lL d2)), (0, .ref (w 0))]) hx hb dX3_digest_258 rfl hl (by decide) rfl (fun ls hl => ?_)
      refine w_loopH (nL := 10) (σ := Int × Int) (fun x => (3 - x.2).toNat) (fun x Hx1 locs1 c9 s9 => ((0 ≤ x.2 ∧ x.2 ≤ 3)) ∧ (∀ x : Nat, x < (H1).size → Hx1[x]? = (H1)[x]?) ∧ (H1).size ≤ Hx1.size ∧ va_S (fun x : Nat => (x = w 0 ∨ x = w 1 ∨ x = w 2) ∨ s.heap.size ≤ x) s.heap Hx1 locs1 ∧ c9 ≤ 358 ∧ s9 ≤ 3286) (fun x => [(1, .long (lL x.1)), (3, .int (iI x.2)), (0, .ref (w 0))]) ?_ ((d2 : Int), (0 : Int)) ⟨(by first | ((try dsimp only); omega) | (dsimp only; done)), hkmH4, (by omega), hS, by (try dsimp only); omega, by (try dsimp only); omega⟩ (lv_sub hl [1, 0, 2] rfl)
      intro x H6 locs cells slots hJ259 ih259 ls hl
      obtain ⟨d4, sp⟩ := x
      obtain ⟨hI259, hf0H6, hf1H6, hS, hcH6, hsH6⟩ := hJ259
      (try dsimp only at hI259 hcH6 hsH6 ih259 hl ⊢)
      (try dsimp only at hf0H6)
      (try dsimp only at hf1H6)
      have hsgeH6 := hS.1
      have hzH6 := hz0.at hAB hS
      have hjH6 := hj0.at hAB hS
      have hkmH6 := hf0H6
      have hmH6 := hmH1.kept hkmH6
      have hltH6 := hmH6.lt
      refine lv_iload_n hx hb dX3_digest_259 rfl (lv_at hl 1 rfl) ?_
      refine q_con hx hb dX3_digest_260 ?_
      refine q_cge (tgt := 300) hx hb dX3_digest_261 (by decide) (by omega) (by omega) (fun c7 => ?_) (fun c7 => ?_)
      · refine lv_lload_n hx hb dX3_digest_300 rfl (lv_at hl 0 rfl) ?_
        refine q_ldc2 (n := 31) hx hb hown (hts _ k1627) (by decide) dX3_digest_301 ?_
        refine q_lmul hx hb dX3_digest_304 ?_
        refine q_lcon (z := 1) hx hb (by decide) dX3_digest_305 ?_
        refine q_ladd hx hb dX3_digest_306 ?_
        have hmw : MWR θ S0 w H6 r q dt sv 0 dn rf kn := ⟨hzH6, hu, hmH6, hd, hsv⟩
        exact e_l hx hb hr hlk hS dX3_digest_307 (by first | exact Nat.le_of_ble_eq_true rfl | ((try dsimp only); omega)) (by first | exact Nat.le_of_ble_eq_true rfl | ((try dsimp only); omega)) ⟨⟨_, rfl⟩, r, q, by first | exact hmw | (subst_vars; exact hmw), by first | exact nw_rf | exact nw_up (by omega) | exact nw_up2 (by omega), by first | exact nw_rf | exact nw_up (by omega) | exact nw_up2 (by omega)⟩
      · refine q_con hx hb dX3_digest_264 ?_
        refine lv_istore (lv' := [(4, .int (iI 0)), (1, .long (lL d4)), (3, .int (iI sp)), (0, .ref (w 0))]) hx hb dX3_digest_265 hl (by decide) rfl (fun ls hl => ?_)
        refine w_loopH (nL := 10) (σ := Int × Int) (fun x => (4 - x.2).toNat) (fun x Hx1 locs1 c9 s9 => ((0 ≤ x.2 ∧ x.2 ≤ 4)) ∧ (∀ x : Nat, x < (H1).size → Hx1[x]? = (H1)[x]?) ∧ (H1).size ≤ Hx1.size ∧ va_S (fun x : Nat => (x = w 0 ∨ x = w 1 ∨ x = w 2) ∨ s.heap.size ≤ x) s.heap Hx1 locs1 ∧ c9 ≤ 358 ∧ s9 ≤ 3286) (fun x => [(1, .long (lL x.1)), (4, .int (iI x.2)), (3, .int (iI sp)), (0, .ref (w 0))]) ?_ ((d4 : Int), (0 : Int)) ⟨(by first | ((try dsimp only); omega) | (dsimp only; done)), hkmH6, (by omega), hS, by (try dsimp only); omega, by (try dsimp only); omega⟩ (lv_sub hl [1, 0, 2, 3] rfl)
        intro x H8 locs cells slots hJ267 ih267 ls hl
        obtain ⟨d5, wh⟩ := x
        obtain ⟨hI267, hf0H8, hf1H8, hS, hcH8, hsH8⟩ := hJ267
        (try dsimp only at hI267 hcH8 hsH8 ih267 hl ⊢)
        (try dsimp only at hf0H8)
        (try dsimp only at hf1H8)
        have hsgeH8 := hS.1
        have hzH8 := hz0.at hAB hS
        have hjH8 := hj0.at hAB hS
        have hkmH8 := hf0H8
        have hmH8 := hmH1.kept hkmH8
        have hltH8 := hmH8.lt
        refine lv_iload hx hb dX3_digest_267 (lv_at hl 1 rfl) ?_
        refine q_con hx hb dX3_digest_269 ?_
        refine q_cge (tgt := 294) hx hb dX3_digest_270 (by decide) (by omega) (by omega) (fun c9 => ?_) (fun c9 => ?_)
        · refine lv_iinc (v := iI (sp + 1)) (lv' := [(3, .int (iI (sp + 1))), (1, .long (lL d5)), (4, .int (iI wh)), (0, .ref (w 0))]) hx hb dX3_digest_294 hl (k := 2) rfl (iI_add _ _) (by decide) rfl (fun ls hl => ?_)
          refine lv_goto (tgt := 259) hx hb dX3_digest_297 (by decide) ?_
          exact ih259 ((d5 : Int), (sp + 1 : Int)) _ _ _ _ _ ⟨(by first | ((try dsimp only); omega) | (dsimp only; done)), hkmH8, (by omega), hS, by (try dsimp only); omega, by (try dsimp only); omega⟩ (by (try dsimp only); omega) (lv_sub hl [1, 0, 3] rfl)
        · refine lv_lload_n hx hb dX3_digest_273 rfl (lv_at hl 0 rfl) ?_
          refine q_ldc2 (n := 31) hx hb hown (hts _ k1627) (by decide) dX3_digest_274 ?_
          refine q_lmul hx hb dX3_digest_277 ?_
          refine lv_aload_n hx hb dX3_digest_278 rfl (lv_at hl 3 rfl) ?_
          refine lv_iload_n hx hb dX3_digest_279 rfl (lv_at hl 2 rfl) ?_
          refine lv_iload hx hb dX3_digest_280 (lv_at hl 1 rfl) ?_
          have hmw : MWR θ S0 w H8 r q dt sv 0 dn rf kn := ⟨hzH8, hu, hmH8, hd, hsv⟩
          refine c_HV (As := [.int (iI sp), .int (iI wh)]) (rest := [.long (lL (d5 * 31))]) (b := w 0) (C := RX3) fx hl (mr_spanNow θ l S0 _ w _ _ _ _ _ _ _ _ hmw sp wh (by omega) (by omega)) (ob_recv hK hmH8.1 rfl) dX3_digest_282 k1254 k1256 ks16 k6 k1257 hd_X3_spanNow rfl ⟨by decide, by decide⟩ (Nat.le_of_ble_eq_true rfl) ⟨by dsimp only; omega, by dsimp only; omega⟩ ?_
          refine q_nm (fun z10 ez10 => ?_)
          refine q_any (fun z11 bz11 => ?_)
          refine q_i2l hx hb dX3_digest_285 (by omega) ?_
          refine q_ladd hx hb dX3_digest_286 ?_
          refine q_nml (fun z12 ez12 => ?_)
          refine lv_lstore_n (lv' := [(1, .long (lL z12)), (4, .int (iI wh)), (3, .int (iI sp)), (0, .ref (w 0))]) hx hb dX3_digest_287 rfl hl (by decide) rfl (fun ls hl => ?_)
          refine lv_iinc (v := iI (wh + 1)) (lv' := [(4, .int (iI (wh + 1))), (1, .long (lL z12)), (3, .int (iI sp)), (0, .ref (w 0))]) hx hb dX3_digest_288 hl (k := 1) rfl (iI_add _ _) (by decide) rfl (fun ls hl => ?_)
          refine lv_goto (tgt := 267) hx hb dX3_digest_291 (by decide) ?_
          exact ih267 ((z12 : Int), (wh + 1 : Int)) _ _ _ _ _ ⟨(by first | ((try dsimp only); omega) | (dsimp only; done)), hkmH8, (by omega), hS, by (try dsimp only); omega, by (try dsimp only); omega⟩ (by (try dsimp only); omega) (lv_sub hl [1, 0, 2, 3] rfl)
    · refine lv_iload_n hx hb dX3_digest_43 rfl (lv_at hl 1 rfl) ?_
      refine q_con hx hb dX3_digest_44 ?_
      refine q_add hx hb dX3_digest_45 ?_
      refine q_bip hx hb dX3_digest_46 (by decide) ?_
      refine q_rem hx hb dX3_digest_48 (by omega) (by omega) ?_
      refine q_nm (fun z13 ez13 => ?_)
      have fz13 : 0 ≤ (pl + 1) → z13 = (pl + 1) % 6 := fun h => by rw [ez13, tdiv_pos h (by omega)]; omega
      have gz13 : (pl + 1) < 0 → z13 = -((-(pl + 1)) % 6) := fun h => by rw [ez13, tdiv_neg' h]; omega
      clear ez13
      have hnxz13 : 0 ≤ z13 ∧ z13 < 6 := by omega
      clear fz13 gz13
      refine lv_istore (lv' := [(4, .int (iI z13)), (1, .long (lL d2)), (3, .int (iI pl)), (0, .ref (w 0))]) hx hb dX3_digest_49 hl (by decide) rfl (fun ls hl => ?_)
      refine q_bip hx hb dX3_digest_51 (by decide) ?_
      refine r_newI (θ := θ) hx hb hts hK k71 hS (by omega) (by (try dsimp only); omega) (by (try dsimp only); omega) dX3_digest_53 (fun H14 haH14 hszH14 hkH14 hS => ?_)
      have hzH14 := hz0.at hAB hS
      have hjH14 := hj0.at hAB hS
      have hkmH14 : ∀ x : Nat, x < (H1).size → H14[x]? = (H1)[x]? := fun x hx => (hkH14 x (by omega)).trans (hkmH4 x hx)
      have hmH14 := hmH1.kept hkmH14
      have hltH14 := hmH14.lt
      have lnH14 := haH14.lt
      refine lv_dup hx hb dX3_digest_55 rfl ?_
      refine q_con hx hb dX3_digest_56 ?_
      refine lv_aload_n hx hb dX3_digest_57 rfl (lv_at hl 3 rfl) ?_
      refine lv_iload_n hx hb dX3_digest_58 rfl (lv_at hl 2 rfl) ?_
      have hmw : MWR θ S0 w H14 r q dt sv 0 dn rf kn := ⟨hzH14, hu, hmH14, hd, hsv⟩
      refine c_HV (As := [.int (iI pl)]) (rest := [.int (iI 0), .ref H4.size, .ref H4.size]) (b := w 0) (C := RX3) fx hl (mr_became θ l S0 _ w _ _ _ _ _ _ _ _ hmw pl (by omega)) (ob_recv hK hmH14.1 rfl) dX3_digest_59 k1141 k1143 ks12 k6 k1144 hd_X3_became rfl ⟨by decide, by decide⟩ (Nat.le_of_ble_eq_true rfl) ⟨by dsimp only; omega, by dsimp only; omega⟩ ?_
      have t0z15 := hd pl.toNat (by omega)
      try clear ez10
      try clear ez13
      refine r_iast (θ := θ) (a := H4.size) hx hb hK haH14 (hAn _ (by omega)) hS (i := 0) (x := dt pl.toNat) (by omega) (by decide) dX3_digest_62 (fun H16 locs haH16 hszH16 hkH16 hS => ?_)
      obtain ⟨gH16, hrH16⟩ : ∃ g : Nat → Int, AI θ H16 H4.size 13 g := ⟨_, haH16⟩
      have hzH16 := hz0.at hAB hS
      have hjH16 := hj0.at hAB hS
      have hkmH16 : ∀ x : Nat, x < (H1).size → H16[x]? = (H1)[x]? := fun x hx => (hkH16 x (by omega)).trans (hkmH14 x hx)
      have hmH16 := hmH1.kept hkmH16
      have hltH16 := hmH16.lt
      have lnH16 := hrH16.lt
      refine lv_dup hx hb dX3_digest_63 rfl ?_
      refine q_con hx hb dX3_digest_64 ?_
      refine lv_aload_n hx hb dX3_digest_65 rfl (lv_at hl 3 rfl) ?_
      refine r_get (θ := θ) (C := RX3) (T := TX3) (N := 6) (ci := 9) hx hb hts gwX3 hown hK hmH16.1 rfl 4 (by decide) k1094 (fun _ h => h) (v := .ref (w 1)) rfl dX3_digest_66 ?_
      refine lv_iload_n hx hb dX3_digest_69 rfl (lv_at hl 2 rfl) ?_
      refine r_aald (θ := θ) hx hb hK hmH16.2.1 (i := pl) (by omega) (by decide) dX3_digest_70 ?_
      have rw17 := (hmH16.2.2.2.1 (pl.toNat) (by omega)).1
      have rw17n := (hmH16.2.2.2.1 (pl.toNat) (by omega)).2
      have rw17t := hd (pl.toNat) (by omega)
      have rw17l := rw17.lt
      have rw17i := inR rw17t
      have rw17m := inM rw17i
      have rw17d := dI_b (dt pl.toNat)
      refine q_con hx hb dX3_digest_71 ?_
      refine r_iald (θ := θ) hx hb hK rw17 (i := 0) (by omega) (by decide) dX3_digest_72 ?_
      refine q_as (mI (dt pl.toNat)) rfl ?_
      try clear rw17n
      refine r_iast (θ := θ) (a := H4.size) hx hb hK hrH16 (hAn _ (by omega)) hS (i := 1) (x := mI (dt pl.toNat)) (by omega) (by decide) dX3_digest_73 (fun H18 locs haH18 hszH18 hkH18 hS => ?_)
      obtain ⟨gH18, hrH18⟩ : ∃ g : Nat → Int, AI θ H18 H4.size 13 g := ⟨_, haH18⟩
      have hzH18 := hz0.at hAB hS
      have hjH18 := hj0.at hAB hS
      have hkmH18 : ∀ x : Nat, x < (H1).size → H18[x]? = (H1)[x]? := fun x hx => (hkH18 x (by omega)).trans (hkmH16 x hx)
      have hmH18 := hmH1.kept hkmH18
      have hltH18 := hmH18.lt
      have lnH18 := hrH18.lt
      refine lv_dup hx hb dX3_digest_74 rfl ?_
      refine q_con hx hb dX3_digest_75 ?_
      refine lv_aload_n hx hb dX3_digest_76 rfl (lv_at hl 3 rfl) ?_
      refine r_get (θ := θ) (C := RX3) (T := TX3) (N := 6) (ci := 9) hx hb hts gwX3 hown hK hmH18.1 rfl 4 (by decide) k1094 (fun _ h => h) (v := .ref (w 1)) rfl dX3_digest_77 ?_
      refine lv_iload_n hx hb dX3_digest_80 rfl (lv_at hl 2 rfl) ?_
      refine r_aald (θ := θ) hx hb hK hmH18.2.1 (i := pl) (by omega) (by decide) dX3_digest_81 ?_
      have rw19 := (hmH18.2.2.2.1 (pl.toNat) (by omega)).1
      have rw19n := (hmH18.2.2.2.1 (pl.toNat) (by omega)).2
      have rw19t := hd (pl.toNat) (by omega)
      have rw19l := rw19.lt
      have rw19i := inR rw19t
      have rw19m := inM rw19i
      have rw19d := dI_b (dt pl.toNat)
      refine q_con hx hb dX3_digest_82 ?_
      refine r_iald (θ := θ) hx hb hK rw19 (i := 1) (by omega) (by decide) dX3_digest_83 ?_
      refine q_as (dI (dt pl.toNat)) rfl ?_
      try clear rw19n
      refine r_iast (θ := θ) (a := H4.size) hx hb hK hrH18 (hAn _ (by omega)) hS (i := 2) (x := dI (dt pl.toNat)) (by omega) (by decide) dX3_digest_84 (fun H20 locs haH20 hszH20 hkH20 hS => ?_)
      obtain ⟨gH20, hrH20⟩ : ∃ g : Nat → Int, AI θ H20 H4.size 13 g := ⟨_, haH20⟩
      have hzH20 := hz0.at hAB hS
      have hjH20 := hj0.at hAB hS
      have hkmH20 : ∀ x : Nat, x < (H1).size → H20[x]? = (H1)[x]? := fun x hx => (hkH20 x (by omega)).trans (hkmH18 x hx)
      have hmH20 := hmH1.kept hkmH20
      have hltH20 := hmH20.lt
      have lnH20 := hrH20.lt
      refine lv_dup hx hb dX3_digest_85 rfl ?_
      refine q_con hx hb dX3_digest_86 ?_
      refine lv_aload_n hx hb dX3_digest_87 rfl (lv_at hl 3 rfl) ?_
      refine lv_iload_n hx hb dX3_digest_88 rfl (lv_at hl 2 rfl) ?_
      have hmw : MWR θ S0 w H20 r q dt sv 0 dn rf kn := ⟨hzH20, hu, hmH20, hd, hsv⟩
      refine c_HV (As := [.int (iI pl)]) (rest := [.int (iI 3), .ref H4.size, .ref H4.size]) (b := w 0) (C := RX3) fx hl (mr_became θ l S0 _ w _ _ _ _ _ _ _ _ hmw pl (by omega)) (ob_recv hK hmH20.1 rfl) dX3_digest_89 k1141 k1143 ks12 k6 k1144 hd_X3_became rfl ⟨by decide, by decide⟩ (Nat.le_of_ble_eq_true rfl) ⟨by dsimp only; omega, by dsimp only; omega⟩ ?_
      have t0z21 := hd pl.toNat (by omega)
      refine c_P (As := [.int (iI (dt pl.toNat))]) (rest := [.int (iI 3), .ref H4.size, .ref H4.size]) fx hl (pm_X3_weekdayOf l (dt pl.toNat) (by omega)) dX3_digest_92 k1149 k1150 k6 k1151 hd_X3_weekdayOf rfl ⟨by decide, by decide⟩ (Nat.le_of_ble_eq_true rfl) ⟨by (try dsimp only); omega, by (try dsimp only); omega⟩ ?_
      have t0z22 := wI_b (dt pl.toNat)
      refine r_iast (θ := θ) (a := H4.size) hx hb hK hrH20 (hAn _ (by omega)) hS (i := 3) (x := wI (dt pl.toNat)) (by omega) (by decide) dX3_digest_95 (fun H23 locs haH23 hszH23 hkH23 hS => ?_)
      obtain ⟨gH23, hrH23⟩ : ∃ g : Nat → Int, AI θ H23 H4.size 13 g := ⟨_, haH23⟩
      have hzH23 := hz0.at hAB hS
      have hjH23 := hj0.at hAB hS
      have hkmH23 : ∀ x : Nat, x < (H1).size → H23[x]? = (H1)[x]? := fun x hx => (hkH23 x (by omega)).trans (hkmH20 x hx)
      have hmH23 := hmH1.kept hkmH23
      have hltH23 := hmH23.lt
      have lnH23 := hrH23.lt
      refine lv_dup hx hb dX3_digest_96 rfl ?_
      refine q_con hx hb dX3_digest_97 ?_
      refine lv_aload_n hx hb dX3_digest_98 rfl (lv_at hl 3 rfl) ?_
      refine lv_iload_n hx hb dX3_digest_99 rfl (lv_at hl 2 rfl) ?_
      have hmw : MWR θ S0 w H23 r q dt sv 0 dn rf kn := ⟨hzH23, hu, hmH23, hd, hsv⟩
      refine c_HV (As := [.int (iI pl)]) (rest := [.int (iI 4), .ref H4.size, .ref H4.size]) (b := w 0) (C := RX3) fx hl (mr_dayOfYearNow θ l S0 _ w _ _ _ _ _ _ _ _ hmw pl (by omega)) (ob_recv hK hmH23.1 rfl) dX3_digest_100 k1564 k1566 ks30 k6 k1567 hd_X3_dayOfYearNow rfl ⟨by decide, by decide⟩ (Nat.le_of_ble_eq_true rfl) ⟨by dsimp only; omega, by dsimp only; omega⟩ ?_
      refine q_nm (fun z24 ez24 => ?_)
      try clear ez24
      refine r_iast (θ := θ) (a := H4.size) hx hb hK hrH23 (hAn _ (by omega)) hS (i := 4) (x := z24) (by omega) (by decide) dX3_digest_103 (fun H25 locs haH25 hszH25 hkH25 hS => ?_)
      obtain ⟨gH25, hrH25⟩ : ∃ g : Nat → Int, AI θ H25 H4.size 13 g := ⟨_, haH25⟩
      have hzH25 := hz0.at hAB hS
      have hjH25 := hj0.at hAB hS
      have hkmH25 : ∀ x : Nat, x < (H1).size → H25[x]? = (H1)[x]? := fun x hx => (hkH25 x (by omega)).trans (hkmH23 x hx)
      have hmH25 := hmH1.kept hkmH25
      have hltH25 := hmH25.lt
      have lnH25 := hrH25.lt
      refine lv_dup hx hb dX3_digest_104 rfl ?_
      refine q_con hx hb dX3_digest_105 ?_
      refine lv_aload_n hx hb dX3_digest_106 rfl (lv_at hl 3 rfl) ?_
      refine r_get (θ := θ) (C := RX3) (T := TX3) (N := 6) (ci := 9) hx hb hts gwX3 hown hK hmH25.1 rfl 4 (by decide) k1094 (fun _ h => h) (v := .ref (w 1)) rfl dX3_digest_107 ?_
      refine lv_iload_n hx hb dX3_digest_110 rfl (lv_at hl 2 rfl) ?_
      refine r_aald (θ := θ) hx hb hK hmH25.2.1 (i := pl) (by omega) (by decide) dX3_digest_111 ?_
      have rw26 := (hmH25.2.2.2.1 (pl.toNat) (by omega)).1
      have rw26n := (hmH25.2.2.2.1 (pl.toNat) (by omega)).2
      have rw26t := hd (pl.toNat) (by omega)
      have rw26l := rw26.lt
      have rw26i := inR rw26t
      have rw26m := inM rw26i
      have rw26d := dI_b (dt pl.toNat)
      refine q_con hx hb dX3_digest_112 ?_
      refine r_iald (θ := θ) hx hb hK rw26 (i := 0) (by omega) (by decide) dX3_digest_113 ?_
      refine q_as (mI (dt pl.toNat)) rfl ?_
      refine c_H (As := [.int (iI (mI (dt pl.toNat)))]) (rest := [.int (iI 5), .ref H4.size, .ref H4.size]) fx hl (pm_X3_length θ l S0 _ hzH25 (mI (dt pl.toNat)) (by omega)) dX3_digest_114 k1085 k1086 k6 k1087 hd_X3_length rfl ⟨by decide, by decide⟩ (Nat.le_of_ble_eq_true rfl) ⟨by dsimp only; omega, by dsimp only; omega⟩ ?_
      refine q_nm (fun z27 ez27 => ?_)
      have t0z27 := len_b (mI (dt pl.toNat))
      try clear rw26n
      try clear ez27
      refine r_iast (θ := θ) (a := H4.size) hx hb hK hrH25 (hAn _ (by omega)) hS (i := 5) (x := z27) (by omega) (by decide) dX3_digest_117 (fun H28 locs haH28 hszH28 hkH28 hS => ?_)
      obtain ⟨gH28, hrH28⟩ : ∃ g : Nat → Int, AI θ H28 H4.size 13 g := ⟨_, haH28⟩
      have hzH28 := hz0.at hAB hS
      have hjH28 := hj0.at hAB hS
      have hkmH28 : ∀ x : Nat, x < (H1).size → H28[x]? = (H1)[x]? := fun x hx => (hkH28 x (by omega)).trans (hkmH25 x hx)
      have hmH28 := hmH1.kept hkmH28
      have hltH28 := hmH28.lt
      have lnH28 := hrH28.lt
      refine lv_dup hx hb dX3_digest_118 rfl ?_
      refine q_bip hx hb dX3_digest_119 (by decide) ?_
      refine lv_aload_n hx hb dX3_digest_121 rfl (lv_at hl 3 rfl) ?_
      refine r_get (θ := θ) (C := RX3) (T := TX3) (N := 6) (ci := 9) hx hb hts gwX3 hown hK hmH28.1 rfl 4 (by decide) k1094 (fun _ h => h) (v := .ref (w 1)) rfl dX3_digest_122 ?_
      refine lv_iload_n hx hb dX3_digest_125 rfl (lv_at hl 2 rfl) ?_
      refine r_aald (θ := θ) hx hb hK hmH28.2.1 (i := pl) (by omega) (by decide) dX3_digest_126 ?_
      have rw29 := (hmH28.2.2.2.1 (pl.toNat) (by omega)).1
      have rw29n := (hmH28.2.2.2.1 (pl.toNat) (by omega)).2
      have rw29t := hd (pl.toNat) (by omega)
      have rw29l := rw29.lt
      have rw29i := inR rw29t
      have rw29m := inM rw29i
      have rw29d := dI_b (dt pl.toNat)
      refine q_con hx hb dX3_digest_127 ?_
      refine r_iald (θ := θ) hx hb hK rw29 (i := 0) (by omega) (by decide) dX3_digest_128 ?_
      refine q_as (mI (dt pl.toNat)) rfl ?_
      refine q_bip hx hb dX3_digest_129 (by decide) ?_
      refine c_P (As := [.int (iI (mI (dt pl.toNat))), .int (iI 12)]) (rest := [.int (iI 6), .ref H4.size, .ref H4.size]) fx hl (pm_X3_down l (mI (dt pl.toNat)) 12 (by omega) (by omega)) dX3_digest_131 k1073 k1074 k6 k1075 hd_X3_down rfl ⟨by decide, by decide⟩ (Nat.le_of_ble_eq_true rfl) ⟨by (try dsimp only); omega, by (try dsimp only); omega⟩ ?_
      refine q_nm (fun z30 ez30 => ?_)
      obtain ⟨r31, hr31⟩ := bex (lpI z30)
      refine c_P (As := [.int (iI z30)]) (rest := [.int (iI 6), .ref H4.size, .ref H4.size]) fx hl (pm_X3_isLeap l z30 r31 hr31 (by omega)) dX3_digest_134 k1079 k1080 k6 k1081 hd_X3_isLeap rfl ⟨by decide, by decide⟩ (Nat.le_of_ble_eq_true rfl) ⟨by (try dsimp only); omega, by (try dsimp only); omega⟩ ?_
      have br31 : r31 = 0 ∨ r31 = 1 := hr31.elim (fun h => Or.inr h.1) (fun h => Or.inl h.1)
      refine c_P (As := [.int (iI r31)]) (rest := [.int (iI 6), .ref H4.size, .ref H4.size]) fx hl (pm_X3_one l r31 (by omega)) dX3_digest_137 k1239 k1240 k6 k1241 hd_X3_one rfl ⟨by decide, by decide⟩ (Nat.le_of_ble_eq_true rfl) ⟨by (try dsimp only); omega, by (try dsimp only); omega⟩ ?_
      try clear rw29n
      try clear ez30
      try clear hr31
      try clear br31
      refine r_iast (θ := θ) (a := H4.size) hx hb hK hrH28 (hAn _ (by omega)) hS (i := 6) (x := r31) (by omega) (by decide) dX3_digest_140 (fun H33 locs haH33 hszH33 hkH33 hS => ?_)
      obtain ⟨gH33, hrH33⟩ : ∃ g : Nat → Int, AI θ H33 H4.size 13 g := ⟨_, haH33⟩
      have hzH33 := hz0.at hAB hS
      have hjH33 := hj0.at hAB hS
      have hkmH33 : ∀ x : Nat, x < (H1).size → H33[x]? = (H1)[x]? := fun x hx => (hkH33 x (by omega)).trans (hkmH28 x hx)
      have hmH33 := hmH1.kept hkmH33
      have hltH33 := hmH33.lt
      have lnH33 := hrH33.lt
      refine lv_dup hx hb dX3_digest_141 rfl ?_
      refine q_bip hx hb dX3_digest_142 (by decide) ?_
      refine lv_aload_n hx hb dX3_digest_144 rfl (lv_at hl 3 rfl) ?_
      refine lv_iload_n hx hb dX3_digest_145 rfl (lv_at hl 2 rfl) ?_
      have hmw : MWR θ S0 w H33 r q dt sv 0 dn rf kn := ⟨hzH33, hu, hmH33, hd, hsv⟩
      refine c_ME (As := [.int (iI pl)]) (rest := [.int (iI 7), .ref H4.size, .ref H4.size]) (b := w 0) (C := RX3) fx hl (jp_textNow θ l S0 _ w _ _ _ _ _ _ _ _ hmw hjH33 pl (by omega)) (ob_recv hK hmH33.1 rfl) dX3_digest_146 k1584 k1586 ks31 k6 k1587 hd_X3_textNow rfl ⟨by decide, by decide⟩ (Nat.le_of_ble_eq_true rfl) ⟨by (try dsimp only); omega, by (try dsimp only); omega⟩ hS (fun x hx => hAn x (Nat.le_trans hS.1 hx)) (fun x35 H34 locs hpH34 hszH34 hk0H34 hS => ?_)
      obtain ⟨hx36, y37, hy38, hq39⟩ := hpH34
      have hkH34 : ∀ q : Nat, q < (H33).size → H34[q]? = (H33)[q]? := fun q hq => hk0H34 q hq (Nat.not_le.mpr hq)
      have hrH33_H34 := hrH33.kept (hkH34 _ hrH33.lt)
      have hzH34 := hz0.at hAB hS
      have hjH34 := hj0.at hAB hS
      have hkmH34 : ∀ x : Nat, x < (H1).size → H34[x]? = (H1)[x]? := fun x hx => (hkH34 x (by omega)).trans (hkmH33 x hx)
      have hmH34 := hmH1.kept hkmH34
      have hltH34 := hmH34.lt
      obtain ⟨tnx35, etnx35⟩ : ∃ z : Nat, z = (if mI (dt pl.toNat) / 12 < 0 then 11 else 10) := ⟨_, rfl⟩
      have btnx35 : tnx35 ≤ 11 := by rw [etnx35]; split <;> omega
      have hstx35 : STg S0 H34 x35 y37 tnx35 := by rw [etnx35]; exact hq39
      have lstx35 := hstx35.lt
      refine c_Vr (C := "java/lang/String") (As := []) (rest := [.int (iI 7), .ref H4.size, .ref H4.size]) (r := some (.int (iI (tnx35 : Int)))) (st1 := [.int (iI (tnx35 : Int)), .int (iI 7), .ref H4.size, .ref H4.size]) fx hl (jm_length θ l S0 _ hzH34 hjH34 x35 y37 tnx35 hstx35 (by omega)) (o_recv fx.2 hstx35.1) dX3_digest_149 k1592 k415 k416 k4 k417 hd_J0_length_8abf5 rfl rfl ⟨by decide, by decide⟩ (Nat.le_of_ble_eq_true rfl) ⟨by (try dsimp only); omega, by (try dsimp only); omega⟩ hS (fun x hx => by first | exact hx.elim | ((try dsimp only at hx ⊢); omega)) (fun H40 locs hpH40 hsz0H40 hk0H40 hS => ?_)
      obtain rfl := hpH40.symm
      refine q_nm (fun z41 ez41 => ?_)
      try clear ez41
      refine r_iast (θ := θ) (a := H4.size) hx hb hK hrH33_H34 (hAn _ (by omega)) hS (i := 7) (x := z41) (by omega) (by decide) dX3_digest_152 (fun H42 locs haH42 hszH42 hkH42 hS => ?_)
      obtain ⟨gH42, hrH42⟩ : ∃ g : Nat → Int, AI θ H42 H4.size 13 g := ⟨_, haH42⟩
      have hstx35_H42 := hstx35.kept (hkH42 _ (by omega)) (hkH42 _ (by omega))
      have hzH42 := hz0.at hAB hS
      have hjH42 := hj0.at hAB hS
      have hkmH42 : ∀ x : Nat, x < (H1).size → H42[x]? = (H1)[x]? := fun x hx => (hkH42 x (by omega)).trans (hkmH34 x hx)
      have hmH42 := hmH1.kept hkmH42
      have hltH42 := hmH42.lt
      have lnH42 := hrH42.lt
      refine lv_dup hx hb dX3_digest_153 rfl ?_
      refine q_bip hx hb dX3_digest_154 (by decide) ?_
      refine lv_aload_n hx hb dX3_digest_156 rfl (lv_at hl 3 rfl) ?_
      refine lv_iload_n hx hb dX3_digest_157 rfl (lv_at hl 2 rfl) ?_
      refine q_con hx hb dX3_digest_158 ?_
      have hmw : MWR θ S0 w H42 r q dt sv 0 dn rf kn := ⟨hzH42, hu, hmH42, hd, hsv⟩
      refine c_M (w := w) (As := [.int (iI pl), .int (iI 1)]) (rest := [.int (iI 8), .ref H4.size, .ref H4.size]) (b := w 0) (C := RX3) fx hl (ma_lossNow θ l S0 _ w _ _ _ _ _ _ _ _ hmw pl 1 (by omega) (by omega)) (ob_recv hK hmH42.1 rfl) dX3_digest_159 k1266 k1268 ks18 k6 k1269 hd_X3_lossNow rfl ⟨by decide, by decide⟩ (Nat.le_of_ble_eq_true rfl) ⟨by dsimp only; omega, by dsimp only; omega⟩ hS (fun x hx => hAn x (Nat.le_trans hS.1 hx)) (fun H43 locs _ hszH43 hk0H43 hS => ?_)
      have hkH43 : ∀ x : Nat, x < (H42).size → H43[x]? = (H42)[x]? := fun x hx => hk0H43 x hx (Nat.not_le.mpr hx)
      have hstx35_H43 := hstx35_H42.kept (hkH43 _ hstx35_H42.lt.1) (hkH43 _ hstx35_H42.lt.2)
      have hrH42_H43 := hrH42.kept (hkH43 _ hrH42.lt)
      have hzH43 := hz0.at hAB hS
      have hjH43 := hj0.at hAB hS
      have hkmH43 : ∀ x : Nat, x < (H1).size → H43[x]? = (H1)[x]? := fun x hx => (hkH43 x (by omega)).trans (hkmH42 x hx)
      have hmH43 := hmH1.kept hkmH43
      have hltH43 := hmH43.lt
      have hltH43 := hmH43.lt
      refine q_nm (fun z44 ez44 => ?_)
      have t0z44 := dI_b (dt pl.toNat)
      have t1z44 := dI_b (shI (dt pl.toNat) 1)
      try clear ez44
      refine r_iast (θ := θ) (a := H4.size) hx hb hK hrH42_H43 (hAn _ (by omega)) hS (i := 8) (x := z44) (by omega) (by decide) dX3_digest_162 (fun H45 locs haH45 hszH45 hkH45 hS => ?_)
      obtain ⟨gH45, hrH45⟩ : ∃ g : Nat → Int, AI θ H45 H4.size 13 g := ⟨_, haH45⟩
      have hstx35_H45 := hstx35_H43.kept (hkH45 _ (by omega)) (hkH45 _ (by omega))
      have hzH45 := hz0.at hAB hS
      have hjH45 := hj0.at hAB hS
      have hkmH45 : ∀ x : Nat, x < (H1).size → H45[x]? = (H1)[x]? := fun x hx => (hkH45 x (by omega)).trans (hkmH43 x hx)
      have hmH45 := hmH1.kept hkmH45
      have hltH45 := hmH45.lt
      have lnH45 := hrH45.lt
      refine lv_dup hx hb dX3_digest_163 rfl ?_
      refine q_bip hx hb dX3_digest_164 (by decide) ?_
      refine lv_aload_n hx hb dX3_digest_166 rfl (lv_at hl 3 rfl) ?_
      refine lv_iload_n hx hb dX3_digest_167 rfl (lv_at hl 2 rfl) ?_
      refine q_con hx hb dX3_digest_168 ?_
      have hmw : MWR θ S0 w H45 r q dt sv 0 dn rf kn := ⟨hzH45, hu, hmH45, hd, hsv⟩
      refine c_M (w := w) (As := [.int (iI pl), .int (iI (-1))]) (rest := [.int (iI 9), .ref H4.size, .ref H4.size]) (b := w 0) (C := RX3) fx hl (ma_lossNow θ l S0 _ w _ _ _ _ _ _ _ _ hmw pl (-1) (by omega) (by omega)) (ob_recv hK hmH45.1 rfl) dX3_digest_169 k1266 k1268 ks18 k6 k1269 hd_X3_lossNow rfl ⟨by decide, by decide⟩ (Nat.le_of_ble_eq_true rfl) ⟨by dsimp only; omega, by dsimp only; omega⟩ hS (fun x hx => hAn x (Nat.le_trans hS.1 hx)) (fun H46 locs _ hszH46 hk0H46 hS => ?_)
      have hkH46 : ∀ x : Nat, x < (H45).size → H46[x]? = (H45)[x]? := fun x hx => hk0H46 x hx (Nat.not_le.mpr hx)
      have hstx35_H46 := hstx35_H45.kept (hkH46 _ hstx35_H45.lt.1) (hkH46 _ hstx35_H45.lt.2)
      have hrH45_H46 := hrH45.kept (hkH46 _ hrH45.lt)
      have hzH46 := hz0.at hAB hS
      have hjH46 := hj0.at hAB hS
      have hkmH46 : ∀ x : Nat, x < (H1).size → H46[x]? = (H1)[x]? := fun x hx => (hkH46 x (by omega)).trans (hkmH45 x hx)
      have hmH46 := hmH1.kept hkmH46
      have hltH46 := hmH46.lt
      have hltH46 := hmH46.lt
      refine q_nm (fun z47 ez47 => ?_)
      have t0z47 := dI_b (dt pl.toNat)
      have t1z47 := dI_b (shI (dt pl.toNat) (-1))
      try clear ez47
      refine r_iast (θ := θ) (a := H4.size) hx hb hK hrH45_H46 (hAn _ (by omega)) hS (i := 9) (x := z47) (by omega) (by decide) dX3_digest_172 (fun H48 locs haH48 hszH48 hkH48 hS => ?_)
      obtain ⟨gH48, hrH48⟩ : ∃ g : Nat → Int, AI θ H48 H4.size 13 g := ⟨_, haH48⟩
      have hstx35_H48 := hstx35_H46.kept (hkH48 _ (by omega)) (hkH48 _ (by omega))
      have hzH48 := hz0.at hAB hS
      have hjH48 := hj0.at hAB hS
      have hkmH48 : ∀ x : Nat, x < (H1).size → H48[x]? = (H1)[x]? := fun x hx => (hkH48 x (by omega)).trans (hkmH46 x hx)
      have hmH48 := hmH1.kept hkmH48
      have hltH48 := hmH48.lt
      have lnH48 := hrH48.lt
      refine lv_dup hx hb dX3_digest_173 rfl ?_
      refine q_bip hx hb dX3_digest_174 (by decide) ?_
      refine lv_aload_n hx hb dX3_digest_176 rfl (lv_at hl 3 rfl) ?_
      refine lv_iload_n hx hb dX3_digest_177 rfl (lv_at hl 2 rfl) ?_
      refine q_con hx hb dX3_digest_178 ?_
      refine q_bip hx hb dX3_digest_179 (by decide) ?_
      have hmw : MWR θ S0 w H48 r q dt sv 0 dn rf kn := ⟨hzH48, hu, hmH48, hd, hsv⟩
      refine c_M (w := w) (As := [.int (iI pl), .int (iI 1), .int (iI 30)]) (rest := [.int (iI 10), .ref H4.size, .ref H4.size]) (b := w 0) (C := RX3) fx hl (ma_gapNow θ l S0 _ w _ _ _ _ _ _ _ _ hmw pl 1 30 (by omega) (by omega) (by omega)) (ob_recv hK hmH48.1 rfl) dX3_digest_181 k1288 k1290 ks19 k6 k1291 hd_X3_gapNow rfl ⟨by decide, by decide⟩ (Nat.le_of_ble_eq_true rfl) ⟨by dsimp only; omega, by dsimp only; omega⟩ hS (fun x hx => hAn x (Nat.le_trans hS.1 hx)) (fun H49 locs _ hszH49 hk0H49 hS => ?_)
      have hkH49 : ∀ x : Nat, x < (H48).size → H49[x]? = (H48)[x]? := fun x hx => hk0H49 x hx (Nat.not_le.mpr hx)
      have hstx35_H49 := hstx35_H48.kept (hkH49 _ hstx35_H48.lt.1) (hkH49 _ hstx35_H48.lt.2)
      have hrH48_H49 := hrH48.kept (hkH49 _ hrH48.lt)
      have hzH49 := hz0.at hAB hS
      have hjH49 := hj0.at hAB hS
      have hkmH49 : ∀ x : Nat, x < (H1).size → H49[x]? = (H1)[x]? := fun x hx => (hkH49 x (by omega)).trans (hkmH48 x hx)
      have hmH49 := hmH1.kept hkmH49
      have hltH49 := hmH49.lt
      have hltH49 := hmH49.lt
      refine q_nm (fun z50 ez50 => ?_)
      try clear ez50
      refine r_iast (θ := θ) (a := H4.size) hx hb hK hrH48_H49 (hAn _ (by omega)) hS (i := 10) (x := z50) (by omega) (by decide) dX3_digest_184 (fun H51 locs haH51 hszH51 hkH51 hS => ?_)
      obtain ⟨gH51, hrH51⟩ : ∃ g : Nat → Int, AI θ H51 H4.size 13 g := ⟨_, haH51⟩
      have hstx35_H51 := hstx35_H49.kept (hkH51 _ (by omega)) (hkH51 _ (by omega))
      have hzH51 := hz0.at hAB hS
      have hjH51 := hj0.at hAB hS
      have hkmH51 : ∀ x : Nat, x < (H1).size → H51[x]? = (H1)[x]? := fun x hx => (hkH51 x (by omega)).trans (hkmH49 x hx)
      have hmH51 := hmH1.kept hkmH51
      have hltH51 := hmH51.lt
      have lnH51 := hrH51.lt
      refine lv_dup hx hb dX3_digest_185 rfl ?_
      refine q_bip hx hb dX3_digest_186 (by decide) ?_
      refine lv_aload_n hx hb dX3_digest_188 rfl (lv_at hl 3 rfl) ?_
      refine lv_iload_n hx hb dX3_digest_189 rfl (lv_at hl 2 rfl) ?_
      refine lv_iload hx hb dX3_digest_190 (lv_at hl 0 rfl) ?_
      have hmw : MWR θ S0 w H51 r q dt sv 0 dn rf kn := ⟨hzH51, hu, hmH51, hd, hsv⟩
      refine c_HV (As := [.int (iI pl), .int (iI z13)]) (rest := [.int (iI 11), .ref H4.size, .ref H4.size]) (b := w 0) (C := RX3) fx hl (mr_order θ l S0 _ w _ _ _ _ _ _ _ _ hmw pl z13 (by omega) (by omega)) (ob_recv hK hmH51.1 rfl) dX3_digest_192 k1598 k1600 ks32 k6 k1601 hd_X3_order rfl ⟨by decide, by decide⟩ (Nat.le_of_ble_eq_true rfl) ⟨by dsimp only; omega, by dsimp only; omega⟩ ?_
      refine q_nm (fun z52 ez52 => ?_)
      try clear ez52
      refine r_iast (θ := θ) (a := H4.size) hx hb hK hrH51 (hAn _ (by omega)) hS (i := 11) (x := z52) (by omega) (by decide) dX3_digest_195 (fun H53 locs haH53 hszH53 hkH53 hS => ?_)
      obtain ⟨gH53, hrH53⟩ : ∃ g : Nat → Int, AI θ H53 H4.size 13 g := ⟨_, haH53⟩
      have hstx35_H53 := hstx35_H51.kept (hkH53 _ (by omega)) (hkH53 _ (by omega))
      have hzH53 := hz0.at hAB hS
      have hjH53 := hj0.at hAB hS
      have hkmH53 : ∀ x : Nat, x < (H1).size → H53[x]? = (H1)[x]? := fun x hx => (hkH53 x (by omega)).trans (hkmH51 x hx)
      have hmH53 := hmH1.kept hkmH53
      have hltH53 := hmH53.lt
      have lnH53 := hrH53.lt
      refine lv_dup hx hb dX3_digest_196 rfl ?_
      refine q_bip hx hb dX3_digest_197 (by decide) ?_
      refine lv_aload_n hx hb dX3_digest_199 rfl (lv_at hl 3 rfl) ?_
      refine lv_iload_n hx hb dX3_digest_200 rfl (lv_at hl 2 rfl) ?_
      refine lv_iload hx hb dX3_digest_201 (lv_at hl 0 rfl) ?_
      have hmw : MWR θ S0 w H53 r q dt sv 0 dn rf kn := ⟨hzH53, hu, hmH53, hd, hsv⟩
      refine c_HV (As := [.int (iI pl), .int (iI z13)]) (rest := [.int (iI 12), .ref H4.size, .ref H4.size]) (b := w 0) (C := RX3) fx hl (mr_monthsNow θ l S0 _ w _ _ _ _ _ _ _ _ hmw pl z13 (by omega) (by omega)) (ob_recv hK hmH53.1 rfl) dX3_digest_203 k1544 k1546 ks29 k6 k1547 hd_X3_monthsNow rfl ⟨by decide, by decide⟩ (Nat.le_of_ble_eq_true rfl) ⟨by dsimp only; omega, by dsimp only; omega⟩ ?_
      refine q_nm (fun z54 ez54 => ?_)
      try clear ez54
      refine r_iast (θ := θ) (a := H4.size) hx hb hK hrH53 (hAn _ (by omega)) hS (i := 12) (x := z54) (by omega) (by decide) dX3_digest_206 (fun H55 locs haH55 hszH55 hkH55 hS => ?_)
      obtain ⟨gH55, hrH55⟩ : ∃ g : Nat → Int, AI θ H55 H4.size 13 g := ⟨_, haH55⟩
      have hstx35_H55 := hstx35_H53.kept (hkH55 _ (by omega)) (hkH55 _ (by omega))
      have hzH55 := hz0.at hAB hS
      have hjH55 := hj0.at hAB hS
      have hkmH55 : ∀ x : Nat, x < (H1).size → H55[x]? = (H1)[x]? := fun x hx => (hkH55 x (by omega)).trans (hkmH53 x hx)
      have hmH55 := hmH1.kept hkmH55
      have hltH55 := hmH55.lt
      have lnH55 := hrH55.lt
      refine lv_astore (lv' := [(5, .ref H4.size), (4, .int (iI z13)), (1, .long (lL d2)), (3, .int (iI pl)), (0, .ref (w 0))]) hx hb dX3_digest_207 hl (by decide) rfl (fun ls hl => ?_)
      refine lv_aload hx hb dX3_digest_209 (lv_at hl 0 rfl) ?_
      refine lv_astore (lv' := [(6, .ref H4.size), (5, .ref H4.size), (4, .int (iI z13)), (1, .long (lL d2)), (3, .int (iI pl)), (0, .ref (w 0))]) hx hb dX3_digest_211 hl (by decide) rfl (fun ls hl => ?_)
      refine lv_aload hx hb dX3_digest_213 (lv_at hl 0 rfl) ?_
      refine r_ialen (θ := θ) hx hb hK hrH55 dX3_digest_215 ?_
      refine lv_istore (lv' := [(7, .int (iI 13)), (6, .ref H4.size), (5, .ref H4.size), (4, .int (iI z13)), (1, .long (lL d2)), (3, .int (iI pl)), (0, .ref (w 0))]) hx hb dX3_digest_216 hl (by decide) rfl (fun ls hl => ?_)
      refine q_con hx hb dX3_digest_218 ?_
      refine lv_istore (lv' := [(8, .int (iI 0)), (7, .int (iI 13)), (6, .ref H4.size), (5, .ref H4.size), (4, .int (iI z13)), (1, .long (lL d2)), (3, .int (iI pl)), (0, .ref (w 0))]) hx hb dX3_digest_219 hl (by decide) rfl (fun ls hl => ?_)
      refine w_loopH (nL := 10) (σ := Int × Int) (fun x => (13 - x.2).toNat) (fun x Hx1 locs1 c9 s9 => ((0 ≤ x.2 ∧ x.2 ≤ 13)) ∧ AI θ Hx1 H4.size 13 gH55 ∧ (∀ x : Nat, x < (H1).size → Hx1[x]? = (H1)[x]?) ∧ (H1).size ≤ Hx1.size ∧ va_S (fun x : Nat => (x = w 0 ∨ x = w 1 ∨ x = w 2) ∨ s.heap.size ≤ x) s.heap Hx1 locs1 ∧ c9 ≤ 4 + 59 * Int.toNat pl + 59 ∧ s9 ≤ 16 + 545 * Int.toNat pl + 545) (fun x => [(1, .long (lL x.1)), (8, .int (iI x.2)), (7, .int (iI 13)), (6, .ref H4.size), (5, .ref H4.size), (4, .int (iI z13)), (3, .int (iI pl)), (0, .ref (w 0))]) ?_ ((d2 : Int), (0 : Int)) ⟨(by first | ((try dsimp only); omega) | (dsimp only; done)), hrH55, hkmH55, (by omega), hS, by (try dsimp only); omega, by (try dsimp only); omega⟩ (lv_sub hl [5, 0, 1, 2, 3, 4, 6, 7] rfl)
      intro x H56 locs cells slots hJ221 ih221 ls hl
      obtain ⟨d3, ix⟩ := x
      obtain ⟨hI221, hf0H56, hf1H56, hf2H56, hS, hcH56, hsH56⟩ := hJ221
      (try dsimp only at hI221 hcH56 hsH56 ih221 hl ⊢)
      (try dsimp only at hf0H56)
      (try dsimp only at hf1H56)
      (try dsimp only at hf2H56)
      have hsgeH56 := hS.1
      have hzH56 := hz0.at hAB hS
      have hjH56 := hj0.at hAB hS
      have hkmH56 := hf1H56
      have hmH56 := hmH1.kept hkmH56
      have hltH56 := hmH56.lt
      have lhf0H56 := hf0H56.lt
      refine lv_iload hx hb dX3_digest_221 (lv_at hl 1 rfl) ?_
      refine lv_iload hx hb dX3_digest_223 (lv_at hl 2 rfl) ?_
      refine q_cge (tgt := 251) hx hb dX3_digest_225 (by decide) (by omega) (by omega) (fun c57 => ?_) (fun c57 => ?_)
      · refine lv_iinc (v := iI (pl + 1)) (lv' := [(3, .int (iI (pl + 1))), (1, .long (lL d3)), (8, .int (iI ix)), (7, .int (iI 13)), (6, .ref H4.size), (5, .ref H4.size), (4, .int (iI z13)), (0, .ref (w 0))]) hx hb dX3_digest_251 hl (k := 6) rfl (iI_add _ _) (by decide) rfl (fun ls hl => ?_)
        refine lv_goto (tgt := 37) hx hb dX3_digest_254 (by decide) ?_
        exact ih37 ((d3 : Int), (pl + 1 : Int)) _ _ _ _ _ ⟨(by first | ((try dsimp only); omega) | (dsimp only; done)), hkmH56, (by omega), hS, by (try dsimp only); omega, by (try dsimp only); omega⟩ (by (try dsimp only); omega) (lv_sub hl [1, 0, 7] rfl)
      · refine lv_aload hx hb dX3_digest_228 (lv_at hl 3 rfl) ?_
        refine lv_iload hx hb dX3_digest_230 (lv_at hl 1 rfl) ?_
        refine r_iald (θ := θ) hx hb hK hf0H56 (i := ix) (by omega) (by decide) dX3_digest_232 ?_
        refine q_nm (fun z58 ez58 => ?_)
        refine lv_istore (lv' := [(9, .int (iI z58)), (1, .long (lL d3)), (8, .int (iI ix)), (7, .int (iI 13)), (6, .ref H4.size), (5, .ref H4.size), (4, .int (iI z13)), (3, .int (iI pl)), (0, .ref (w 0))]) hx hb dX3_digest_233 hl (by decide) rfl (fun ls hl => ?_)
        refine lv_lload_n hx hb dX3_digest_235 rfl (lv_at hl 1 rfl) ?_
        refine q_ldc2 (n := 31) hx hb hown (hts _ k1627) (by decide) dX3_digest_236 ?_
        refine q_lmul hx hb dX3_digest_239 ?_
        refine lv_iload hx hb dX3_digest_240 (lv_at hl 0 rfl) ?_
        refine q_any (fun z59 bz59 => ?_)
        refine q_i2l hx hb dX3_digest_242 (by omega) ?_
        refine q_ladd hx hb dX3_digest_243 ?_
        refine q_nml (fun z60 ez60 => ?_)
        refine lv_lstore_n (lv' := [(1, .long (lL z60)), (9, .int (iI z58)), (8, .int (iI ix)), (7, .int (iI 13)), (6, .ref H4.size), (5, .ref H4.size), (4, .int (iI z13)), (3, .int (iI pl)), (0, .ref (w 0))]) hx hb dX3_digest_244 rfl hl (by decide) rfl (fun ls hl => ?_)
        refine lv_iinc (v := iI (ix + 1)) (lv' := [(8, .int (iI (ix + 1))), (1, .long (lL z60)), (9, .int (iI z58)), (7, .int (iI 13)), (6, .ref H4.size), (5, .ref H4.size), (4, .int (iI z13)), (3, .int (iI pl)), (0, .ref (w 0))]) hx hb dX3_digest_245 hl (k := 2) rfl (iI_add _ _) (by decide) rfl (fun ls hl => ?_)
        refine lv_goto (tgt := 221) hx hb dX3_digest_248 (by decide) ?_
        exact ih221 ((z60 : Int), (ix + 1 : Int)) _ _ _ _ _ ⟨(by first | ((try dsimp only); omega) | (dsimp only; done)), hf0H56, hkmH56, (by omega), hS, by (try dsimp only); omega, by (try dsimp only); omega⟩ (by (try dsimp only); omega) (lv_sub hl [1, 0, 3, 4, 5, 6, 7, 8] rfl)
  · refine lv_lload_n hx hb dX3_digest_16 rfl (lv_at hl 0 rfl) ?_
    refine q_ldc2 (n := 31) hx hb hown (hts _ k1627) (by decide) dX3_digest_17 ?_
    refine q_lmul hx hb dX3_digest_20 ?_
    refine lv_aload_n hx hb dX3_digest_21 rfl (lv_at hl 2 rfl) ?_
    refine lv_iload_n hx hb dX3_digest_22 rfl (lv_at hl 1 rfl) ?_
    have hmw : MWR θ S0 w H2 r q dt sv 0 dn rf kn := ⟨hzH2, hu, hmH2, hd, hsv⟩
    refine c_MA (As := [.int (iI wh)]) (rest := [.long (lL (d1 * 31))]) (b := w 0) (C := RX3) fx hl (ma_houseNow θ l S0 _ w _ _ _ _ _ _ _ _ hmw wh (by omega)) (ob_recv hK hmH2.1 rfl) dX3_digest_23 k1610 k1612 ks33 k6 k1613 hd_X3_houseNow rfl ⟨by decide, by decide⟩ (Nat.le_of_ble_eq_true rfl) ⟨by dsimp only; omega, by dsimp only; omega⟩ hS (fun x hx => hAn x (Nat.le_trans hS.1 hx)) (fun z62 H61 locs hszH61 hk0H61 hS => ?_)
    have hkH61 : ∀ x : Nat, x < (H2).size → H61[x]? = (H2)[x]? := fun x hx => hk0H61 x hx (Nat.not_le.mpr hx)
    have hzH61 := hz0.at hAB hS
    have hjH61 := hj0.at hAB hS
    have hkmH61 : ∀ x : Nat, x < (H1).size → H61[x]? = (H1)[x]? := fun x hx => (hkH61 x (by omega)).trans (hkmH2 x hx)
    have hmH61 := hmH1.kept hkmH61
    have hltH61 := hmH61.lt
    have hltH61 := hmH61.lt
    refine q_any (fun z63 bz63 => ?_)
    refine q_i2l hx hb dX3_digest_26 (by omega) ?_
    refine q_ladd hx hb dX3_digest_27 ?_
    refine q_nml (fun z64 ez64 => ?_)
    refine lv_lstore_n (lv' := [(1, .long (lL z64)), (3, .int (iI wh)), (0, .ref (w 0))]) hx hb dX3_digest_28 rfl hl (by decide) rfl (fun ls hl => ?_)
    refine lv_iinc (v := iI (wh + 1)) (lv' := [(3, .int (iI (wh + 1))), (1, .long (lL z64)), (0, .ref (w 0))]) hx hb dX3_digest_29 hl (k := 1) rfl (iI_add _ _) (by decide) rfl (fun ls hl => ?_)
    refine lv_goto (tgt := 11) hx hb dX3_digest_32 (by decide) ?_
    exact ih11 ((z64 : Int), (wh + 1 : Int)) _ _ _ _ _ ⟨(by first | ((try dsimp only); omega) | (dsimp only; done)), hkmH61, (by omega), hS, by (try dsimp only); omega, by (try dsimp only); omega⟩ (by (try dsimp only); omega) (lv_sub hl [1, 0, 2] rfl)
