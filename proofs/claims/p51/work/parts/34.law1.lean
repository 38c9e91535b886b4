set_option maxHeartbeats 4000000 in
set_option maxRecDepth 100000 in
theorem lc_of {p : Program} {l : Launch} {e : Env} {R : Room} {s : State} {m : MethodId} {args : Array Value} {below : List Frame} {meth : Method} {c : Code} {Q : State → Prop} {θ : TH} {S0 : State} (fx : FX p m c cL_law 7 s args yL_law.cls S0) (hl0 : l.stackTraces = false) (hz0 : SZ θ S0 s.heap) (hj0 : SJ θ S0 s.heap) (hn : NX S0) {u w : Nat → Nat} {o b L : Nat} {xs : Nat → Int32} (hLX : LX u w o) (hoθ : θ.2.2.2 ≤ o) (hX : va_X b L xs s s.heap) (hbl : b < s.heap.size) (hbA : ¬ AJ θ b) (hL : L ≤ 2560) (hRF : 1000 ≤ R.frames ∧ 1000 ≤ R.locals) {H : Heap} {locs : List Loc} {cells slots : Nat} {ls : Array Slot} {i : Int} (hi : 0 ≤ i ∧ i + 5 ≤ (L : Int)) (hw : LWE θ S0 u w o H) (hS : va_S (AJ θ) s.heap H locs) (hRc : cells + 400 ≤ R.cells ∧ slots + 7000 ≤ R.slots) (hl : lv_has ls 7 [(4, .int (iI i)), (3, .ref o), (2, .ref (w 0)), (1, .ref (u 0)), (0, .ref b)]) (kk : LK p l e R s m args below meth c Q θ S0 u w o b i cells slots 2331) : W p l e R s m args below meth c H locs cells slots Q (F0 m 260 ls []) := by
  obtain ⟨hx, hb, hml, hown, hts⟩ := id fx.1
  have hAB : ∀ x : Nat, AJ θ x → θ.2.2.2 ≤ x := fun _ h => h
  obtain ⟨r, q, dt, sv, th, bc, rf, kn, nv, sv9, hw⟩ := hw
  obtain ⟨hcr, hmr, ho, hfr, hfq⟩ := id hw
  have hzH := hz0.at hAB hS
  have hjH := hj0.at hAB hS
  have hK := sz_K fx.2 hz0
  have hu := hcr.2.1
  obtain ⟨x1, ex1⟩ : ∃ z : Int, z = (xs (i + 1).toNat).toInt := ⟨_, rfl⟩
  have bx1 := x32_b ex1
  obtain ⟨x2, ex2⟩ : ∃ z : Int, z = (xs (i + 2).toNat).toInt := ⟨_, rfl⟩
  have bx2 := x32_b ex2
  obtain ⟨x3, ex3⟩ : ∃ z : Int, z = (xs (i + 3).toNat).toInt := ⟨_, rfl⟩
  have bx3 := x32_b ex3
  obtain ⟨x4, ex4⟩ : ∃ z : Int, z = (xs (i + 4).toNat).toInt := ⟨_, rfl⟩
  have bx4 := x32_b ex4
  obtain ⟨m9, em9⟩ : ∃ z : Int, z = 12 * x2 + x3 - 1 := ⟨_, rfl⟩
  by_cases hc1 : 0 ≤ x1 ∧ x1 < 6
  · by_cases hc2 : -9999 ≤ x2 ∧ x2 ≤ 9999
    · by_cases hc3 : 1 ≤ x3 ∧ x3 ≤ 12
      · by_cases hc4 : 1 ≤ x4 ∧ x4 ≤ 31
        · by_cases hc5 : x4 ≤ fI (m9 + 1) - fI m9
          · refine lv_aload_n hx hb dL_law_260 rfl (lv_at hl 3 rfl) ?_
            refine lv_aload_n hx hb dL_law_261 rfl (lv_at hl 4 rfl) ?_
            refine lv_iload hx hb dL_law_262 (lv_at hl 0 rfl) ?_
            refine q_con hx hb dL_law_264 ?_
            refine q_add hx hb dL_law_265 ?_
            refine r_xld hx hb hX hbl hbA hS (i := i + 1) (z := x1) (by omega) hL ex1 dL_law_266 ?_
            refine lv_aload_n hx hb dL_law_267 rfl (lv_at hl 4 rfl) ?_
            refine lv_iload hx hb dL_law_268 (lv_at hl 0 rfl) ?_
            refine q_con hx hb dL_law_270 ?_
            refine q_add hx hb dL_law_271 ?_
            refine r_xld hx hb hX hbl hbA hS (i := i + 2) (z := x2) (by omega) hL ex2 dL_law_272 ?_
            refine lv_aload_n hx hb dL_law_273 rfl (lv_at hl 4 rfl) ?_
            refine lv_iload hx hb dL_law_274 (lv_at hl 0 rfl) ?_
            refine q_con hx hb dL_law_276 ?_
            refine q_add hx hb dL_law_277 ?_
            refine r_xld hx hb hX hbl hbA hS (i := i + 3) (z := x3) (by omega) hL ex3 dL_law_278 ?_
            refine lv_aload_n hx hb dL_law_279 rfl (lv_at hl 4 rfl) ?_
            refine lv_iload hx hb dL_law_280 (lv_at hl 0 rfl) ?_
            refine q_con hx hb dL_law_282 ?_
            refine q_add hx hb dL_law_283 ?_
            refine r_xld hx hb hX hbl hbA hS (i := i + 4) (z := x4) (by omega) hL ex4 dL_law_284 ?_
            refine lv_aload_n hx hb dL_law_285 rfl (lv_at hl 1 rfl) ?_
            refine c_SWr (As := [.ref (u 0), .int (iI x1), .int (iI x2), .int (iI x3), .int (iI x4), .ref o]) (rest := []) (r := .int (iI 0)) fx hl (wr_of θ l hl0 S0 _ u dt (fun j => sv j 0) (fun j => sv j 1) (fun j => sv j 2) bc rf kn hcr hjH hn o nv sv9 ho hLX.1 x1 x2 x3 x4 m9 (by first | assumption | omega | (dsimp only; first | assumption | omega) | exact Hid.mk (by first | assumption | omega) | exact Hid.mk ⟨fun _ => by first | assumption | omega, fun _ => by first | assumption | omega⟩) (by first | assumption | omega | (dsimp only; first | assumption | omega) | exact Hid.mk (by first | assumption | omega) | exact Hid.mk ⟨fun _ => by first | assumption | omega, fun _ => by first | assumption | omega⟩) (by first | assumption | omega | (dsimp only; first | assumption | omega) | exact Hid.mk (by first | assumption | omega) | exact Hid.mk ⟨fun _ => by first | assumption | omega, fun _ => by first | assumption | omega⟩) (by first | assumption | omega | (dsimp only; first | assumption | omega) | exact Hid.mk (by first | assumption | omega) | exact Hid.mk ⟨fun _ => by first | assumption | omega, fun _ => by first | assumption | omega⟩) (by first | assumption | omega | (dsimp only; first | assumption | omega) | exact Hid.mk (by first | assumption | omega) | exact Hid.mk ⟨fun _ => by first | assumption | omega, fun _ => by first | assumption | omega⟩) (by first | assumption | omega | (dsimp only; first | assumption | omega) | exact Hid.mk (by first | assumption | omega) | exact Hid.mk ⟨fun _ => by first | assumption | omega, fun _ => by first | assumption | omega⟩) (by first | assumption | omega | (dsimp only; first | assumption | omega) | exact Hid.mk (by first | assumption | omega) | exact Hid.mk ⟨fun _ => by first | assumption | omega, fun _ => by first | assumption | omega⟩) (by first | assumption | omega | (dsimp only; first | assumption | omega) | exact Hid.mk (by first | assumption | omega) | exact Hid.mk ⟨fun _ => by first | assumption | omega, fun _ => by first | assumption | omega⟩) (by first | assumption | omega | (dsimp only; first | assumption | omega) | exact Hid.mk (by first | assumption | omega) | exact Hid.mk ⟨fun _ => by first | assumption | omega, fun _ => by first | assumption | omega⟩) (by first | assumption | omega | (dsimp only; first | assumption | omega) | exact Hid.mk (by first | assumption | omega) | exact Hid.mk ⟨fun _ => by first | assumption | omega, fun _ => by first | assumption | omega⟩)) dL_law_286 k693 k694 k0 k695 hd_L_of rfl ⟨by omega, by omega⟩ (Nat.le_of_ble_eq_true rfl) ⟨by (try dsimp only); omega, by (try dsimp only); omega⟩ hS (fun x h => h.elim (fun h => h.elim (fun ⟨j, hj, e⟩ => e ▸ hu.2 j hj) (fun h => Nat.le_trans hzH.2.1 h)) (fun e => e ▸ hoθ)) (fun H1 locs hpH1 hszH1 hkH1 hS => ?_)
            obtain ⟨hcw, ho1⟩ := hpH1
            have hzH1 := hz0.at hAB hS
            have hjH1 := hj0.at hAB hS
            have hm1 := lw_cls hLX hw hzH1 hkH1
            refine lv_istore (lv' := [(5, .int (iI 0)), (4, .int (iI i)), (3, .ref o), (2, .ref (w 0)), (1, .ref (u 0)), (0, .ref b)]) hx hb dL_law_289 hl (by decide) rfl (fun ls hl => ?_)
            refine lv_aload_n hx hb dL_law_291 rfl (lv_at hl 3 rfl) ?_
            refine lv_aload_n hx hb dL_law_292 rfl (lv_at hl 5 rfl) ?_
            refine lv_iload hx hb dL_law_293 (lv_at hl 1 rfl) ?_
            refine q_con hx hb dL_law_295 ?_
            refine q_add hx hb dL_law_296 ?_
            refine r_xld hx hb hX hbl hbA hS (i := i + 1) (z := x1) (by omega) hL ex1 dL_law_297 ?_
            refine lv_aload_n hx hb dL_law_298 rfl (lv_at hl 5 rfl) ?_
            refine lv_iload hx hb dL_law_299 (lv_at hl 1 rfl) ?_
            refine q_con hx hb dL_law_301 ?_
            refine q_add hx hb dL_law_302 ?_
            refine r_xld hx hb hX hbl hbA hS (i := i + 2) (z := x2) (by omega) hL ex2 dL_law_303 ?_
            refine lv_aload_n hx hb dL_law_304 rfl (lv_at hl 5 rfl) ?_
            refine lv_iload hx hb dL_law_305 (lv_at hl 1 rfl) ?_
            refine q_con hx hb dL_law_307 ?_
            refine q_add hx hb dL_law_308 ?_
            refine r_xld hx hb hX hbl hbA hS (i := i + 3) (z := x3) (by omega) hL ex3 dL_law_309 ?_
            refine lv_aload_n hx hb dL_law_310 rfl (lv_at hl 5 rfl) ?_
            refine lv_iload hx hb dL_law_311 (lv_at hl 1 rfl) ?_
            refine q_con hx hb dL_law_313 ?_
            refine q_add hx hb dL_law_314 ?_
            refine r_xld hx hb hX hbl hbA hS (i := i + 4) (z := x4) (by omega) hL ex4 dL_law_315 ?_
            refine c_Vr (As := [.int (iI x1), .int (iI x2), .int (iI x3), .int (iI x4)]) (rest := []) (b := w 0) (C := RX3) (r := some (.int (iI (inI m9 x4)))) (st1 := [.int (iI (inI m9 x4))]) fx hl (mok_of θ l S0 _ w r q dt sv th bc rf kn hm1 x1 x2 x3 x4 m9 (by first | assumption | omega | (dsimp only; first | assumption | omega) | exact Hid.mk (by first | assumption | omega) | exact Hid.mk ⟨fun _ => by first | assumption | omega, fun _ => by first | assumption | omega⟩) (by first | assumption | omega | (dsimp only; first | assumption | omega) | exact Hid.mk (by first | assumption | omega) | exact Hid.mk ⟨fun _ => by first | assumption | omega, fun _ => by first | assumption | omega⟩) (by first | assumption | omega | (dsimp only; first | assumption | omega) | exact Hid.mk (by first | assumption | omega) | exact Hid.mk ⟨fun _ => by first | assumption | omega, fun _ => by first | assumption | omega⟩) (by first | assumption | omega | (dsimp only; first | assumption | omega) | exact Hid.mk (by first | assumption | omega) | exact Hid.mk ⟨fun _ => by first | assumption | omega, fun _ => by first | assumption | omega⟩) (by first | assumption | omega | (dsimp only; first | assumption | omega) | exact Hid.mk (by first | assumption | omega) | exact Hid.mk ⟨fun _ => by first | assumption | omega, fun _ => by first | assumption | omega⟩) (by first | assumption | omega | (dsimp only; first | assumption | omega) | exact Hid.mk (by first | assumption | omega) | exact Hid.mk ⟨fun _ => by first | assumption | omega, fun _ => by first | assumption | omega⟩) (by first | assumption | omega | (dsimp only; first | assumption | omega) | exact Hid.mk (by first | assumption | omega) | exact Hid.mk ⟨fun _ => by first | assumption | omega, fun _ => by first | assumption | omega⟩) (by first | assumption | omega | (dsimp only; first | assumption | omega) | exact Hid.mk (by first | assumption | omega) | exact Hid.mk ⟨fun _ => by first | assumption | omega, fun _ => by first | assumption | omega⟩) (by first | assumption | omega | (dsimp only; first | assumption | omega) | exact Hid.mk (by first | assumption | omega) | exact Hid.mk ⟨fun _ => by first | assumption | omega, fun _ => by first | assumption | omega⟩) (by first | assumption | omega | (dsimp only; first | assumption | omega) | exact Hid.mk (by first | assumption | omega) | exact Hid.mk ⟨fun _ => by first | assumption | omega, fun _ => by first | assumption | omega⟩)) (ob_recv hK hm1.2.2.1.1 rfl) dL_law_316 k1109 k1110 k1111 k6 k1112 hd_X3_of rfl rfl ⟨by omega, by omega⟩ (Nat.le_of_ble_eq_true rfl) ⟨by (try dsimp only); omega, by (try dsimp only); omega⟩ hS (wa_b hm1.2.1 hzH1.2.1) (fun H2 locs hpH2 hszH2 hkH2 hS => ?_)
            obtain ⟨r1, q1, hm2, nr, nq⟩ := hpH2
            have hzH2 := hz0.at hAB hS
            have hL2 := lw_mod hLX hzH2 hu hcw ho1 hfr hfq hm2 nr nq hkH2
            refine lv_istore (lv' := [(6, .int (iI (inI m9 x4))), (5, .int (iI 0)), (4, .int (iI i)), (3, .ref o), (2, .ref (w 0)), (1, .ref (u 0)), (0, .ref b)]) hx hb dL_law_319 hl (by decide) rfl (fun ls hl => ?_)
            refine lv_goto (tgt := 2331) hx hb dL_law_321 (by decide) ?_
            exact kk _ _ _ _ _ ⟨_, _, _, _, _, _, _, _, _, _, hL2⟩ hS (by omega) (by omega) (lv_sub hl [2, 3, 4, 5, 6] rfl)
          · refine lv_aload_n hx hb dL_law_260 rfl (lv_at hl 3 rfl) ?_
            refine lv_aload_n hx hb dL_law_261 rfl (lv_at hl 4 rfl) ?_
            refine lv_iload hx hb dL_law_262 (lv_at hl 0 rfl) ?_
            refine q_con hx hb dL_law_264 ?_
            refine q_add hx hb dL_law_265 ?_
            refine r_xld hx hb hX hbl hbA hS (i := i + 1) (z := x1) (by omega) hL ex1 dL_law_266 ?_
            refine lv_aload_n hx hb dL_law_267 rfl (lv_at hl 4 rfl) ?_
            refine lv_iload hx hb dL_law_268 (lv_at hl 0 rfl) ?_
            refine q_con hx hb dL_law_270 ?_
            refine q_add hx hb dL_law_271 ?_
            refine r_xld hx hb hX hbl hbA hS (i := i + 2) (z := x2) (by omega) hL ex2 dL_law_272 ?_
            refine lv_aload_n hx hb dL_law_273 rfl (lv_at hl 4 rfl) ?_
            refine lv_iload hx hb dL_law_274 (lv_at hl 0 rfl) ?_
            refine q_con hx hb dL_law_276 ?_
            refine q_add hx hb dL_law_277 ?_
            refine r_xld hx hb hX hbl hbA hS (i := i + 3) (z := x3) (by omega) hL ex3 dL_law_278 ?_
            refine lv_aload_n hx hb dL_law_279 rfl (lv_at hl 4 rfl) ?_
            refine lv_iload hx hb dL_law_280 (lv_at hl 0 rfl) ?_
            refine q_con hx hb dL_law_282 ?_
            refine q_add hx hb dL_law_283 ?_
            refine r_xld hx hb hX hbl hbA hS (i := i + 4) (z := x4) (by omega) hL ex4 dL_law_284 ?_
            refine lv_aload_n hx hb dL_law_285 rfl (lv_at hl 1 rfl) ?_
            refine c_SWr (As := [.ref (u 0), .int (iI x1), .int (iI x2), .int (iI x3), .int (iI x4), .ref o]) (rest := []) (r := .int (iI 3)) fx hl (wn5_of θ l hl0 S0 _ u dt (fun j => sv j 0) (fun j => sv j 1) (fun j => sv j 2) bc rf kn hcr hjH hn o nv sv9 ho hLX.1 x1 x2 x3 x4 m9 (by first | assumption | omega | (dsimp only; first | assumption | omega) | exact Hid.mk (by first | assumption | omega) | exact Hid.mk ⟨fun _ => by first | assumption | omega, fun _ => by first | assumption | omega⟩) (by first | assumption | omega | (dsimp only; first | assumption | omega) | exact Hid.mk (by first | assumption | omega) | exact Hid.mk ⟨fun _ => by first | assumption | omega, fun _ => by first | assumption | omega⟩) (by first | assumption | omega | (dsimp only; first | assumption | omega) | exact Hid.mk (by first | assumption | omega) | exact Hid.mk ⟨fun _ => by first | assumption | omega, fun _ => by first | assumption | omega⟩) (by first | assumption | omega | (dsimp only; first | assumption | omega) | exact Hid.mk (by first | assumption | omega) | exact Hid.mk ⟨fun _ => by first | assumption | omega, fun _ => by first | assumption | omega⟩) (by first | assumption | omega | (dsimp only; first | assumption | omega) | exact Hid.mk (by first | assumption | omega) | exact Hid.mk ⟨fun _ => by first | assumption | omega, fun _ => by first | assumption | omega⟩) (by first | assumption | omega | (dsimp only; first | assumption | omega) | exact Hid.mk (by first | assumption | omega) | exact Hid.mk ⟨fun _ => by first | assumption | omega, fun _ => by first | assumption | omega⟩) (by first | assumption | omega | (dsimp only; first | assumption | omega) | exact Hid.mk (by first | assumption | omega) | exact Hid.mk ⟨fun _ => by first | assumption | omega, fun _ => by first | assumption | omega⟩) (by first | assumption | omega | (dsimp only; first | assumption | omega) | exact Hid.mk (by first | assumption | omega) | exact Hid.mk ⟨fun _ => by first | assumption | omega, fun _ => by first | assumption | omega⟩) (by first | assumption | omega | (dsimp only; first | assumption | omega) | exact Hid.mk (by first | assumption | omega) | exact Hid.mk ⟨fun _ => by first | assumption | omega, fun _ => by first | assumption | omega⟩) (by first | assumption | omega | (dsimp only; first | assumption | omega) | exact Hid.mk (by first | assumption | omega) | exact Hid.mk ⟨fun _ => by first | assumption | omega, fun _ => by first | assumption | omega⟩)) dL_law_286 k693 k694 k0 k695 hd_L_of rfl ⟨by omega, by omega⟩ (Nat.le_of_ble_eq_true rfl) ⟨by (try dsimp only); omega, by (try dsimp only); omega⟩ hS (fun x h => h.elim (fun h => h.elim (fun ⟨j, hj, e⟩ => e ▸ hu.2 j hj) (fun h => Nat.le_trans hzH.2.1 h)) (fun e => e ▸ hoθ)) (fun H3 locs hpH3 hszH3 hkH3 hS => ?_)
            obtain ⟨hcw, ho1⟩ := hpH3
            have hzH1 := hz0.at hAB hS
            have hjH1 := hj0.at hAB hS
            have hm1 := lw_cls hLX hw hzH1 hkH3
            refine lv_istore (lv' := [(5, .int (iI 3)), (4, .int (iI i)), (3, .ref o), (2, .ref (w 0)), (1, .ref (u 0)), (0, .ref b)]) hx hb dL_law_289 hl (by decide) rfl (fun ls hl => ?_)
            refine lv_aload_n hx hb dL_law_291 rfl (lv_at hl 3 rfl) ?_
            refine lv_aload_n hx hb dL_law_292 rfl (lv_at hl 5 rfl) ?_
            refine lv_iload hx hb dL_law_293 (lv_at hl 1 rfl) ?_
            refine q_con hx hb dL_law_295 ?_
            refine q_add hx hb dL_law_296 ?_
            refine r_xld hx hb hX hbl hbA hS (i := i + 1) (z := x1) (by omega) hL ex1 dL_law_297 ?_
            refine lv_aload_n hx hb dL_law_298 rfl (lv_at hl 5 rfl) ?_
            refine lv_iload hx hb dL_law_299 (lv_at hl 1 rfl) ?_
            refine q_con hx hb dL_law_301 ?_
            refine q_add hx hb dL_law_302 ?_
            refine r_xld hx hb hX hbl hbA hS (i := i + 2) (z := x2) (by omega) hL ex2 dL_law_303 ?_
            refine lv_aload_n hx hb dL_law_304 rfl (lv_at hl 5 rfl) ?_
            refine lv_iload hx hb dL_law_305 (lv_at hl 1 rfl) ?_
            refine q_con hx hb dL_law_307 ?_
            refine q_add hx hb dL_law_308 ?_
            refine r_xld hx hb hX hbl hbA hS (i := i + 3) (z := x3) (by omega) hL ex3 dL_law_309 ?_
            refine lv_aload_n hx hb dL_law_310 rfl (lv_at hl 5 rfl) ?_
            refine lv_iload hx hb dL_law_311 (lv_at hl 1 rfl) ?_
            refine q_con hx hb dL_law_313 ?_
            refine q_add hx hb dL_law_314 ?_
            refine r_xld hx hb hX hbl hbA hS (i := i + 4) (z := x4) (by omega) hL ex4 dL_law_315 ?_
            refine c_Vr (As := [.int (iI x1), .int (iI x2), .int (iI x3), .int (iI x4)]) (rest := []) (b := w 0) (C := RX3) (r := some (.int (iI 0))) (st1 := [.int (iI 0)]) fx hl (mno5_of θ l S0 _ w r q dt sv th bc rf kn hm1 x1 x2 x3 x4 m9 (by first | assumption | omega | (dsimp only; first | assumption | omega) | exact Hid.mk (by first | assumption | omega) | exact Hid.mk ⟨fun _ => by first | assumption | omega, fun _ => by first | assumption | omega⟩) (by first | assumption | omega | (dsimp only; first | assumption | omega) | exact Hid.mk (by first | assumption | omega) | exact Hid.mk ⟨fun _ => by first | assumption | omega, fun _ => by first | assumption | omega⟩) (by first | assumption | omega | (dsimp only; first | assumption | omega) | exact Hid.mk (by first | assumption | omega) | exact Hid.mk ⟨fun _ => by first | assumption | omega, fun _ => by first | assumption | omega⟩) (by first | assumption | omega | (dsimp only; first | assumption | omega) | exact Hid.mk (by first | assumption | omega) | exact Hid.mk ⟨fun _ => by first | assumption | omega, fun _ => by first | assumption | omega⟩) (by first | assumption | omega | (dsimp only; first | assumption | omega) | exact Hid.mk (by first | assumption | omega) | exact Hid.mk ⟨fun _ => by first | assumption | omega, fun _ => by first | assumption | omega⟩) (by first | assumption | omega | (dsimp only; first | assumption | omega) | exact Hid.mk (by first | assumption | omega) | exact Hid.mk ⟨fun _ => by first | assumption | omega, fun _ => by first | assumption | omega⟩) (by first | assumption | omega | (dsimp only; first | assumption | omega) | exact Hid.mk (by first | assumption | omega) | exact Hid.mk ⟨fun _ => by first | assumption | omega, fun _ => by first | assumption | omega⟩) (by first | assumption | omega | (dsimp only; first | assumption | omega) | exact Hid.mk (by first | assumption | omega) | exact Hid.mk ⟨fun _ => by first | assumption | omega, fun _ => by first | assumption | omega⟩) (by first | assumption | omega | (dsimp only; first | assumption | omega) | exact Hid.mk (by first | assumption | omega) | exact Hid.mk ⟨fun _ => by first | assumption | omega, fun _ => by first | assumption | omega⟩) (by first | assumption | omega | (dsimp only; first | assumption | omega) | exact Hid.mk (by first | assumption | omega) | exact Hid.mk ⟨fun _ => by first | assumption | omega, fun _ => by first | assumption | omega⟩)) (ob_recv hK hm1.2.2.1.1 rfl) dL_law_316 k1109 k1110 k1111 k6 k1112 hd_X3_of rfl rfl ⟨by omega, by omega⟩ (Nat.le_of_ble_eq_true rfl) ⟨by (try dsimp only); omega, by (try dsimp only); omega⟩ hS (wa_b hm1.2.1 hzH1.2.1) (fun H4 locs hpH4 hszH4 hkH4 hS => ?_)
            obtain ⟨r1, q1, hm2, nr, nq⟩ := hpH4
            have hzH2 := hz0.at hAB hS
            have hL2 := lw_mod hLX hzH2 hu hcw ho1 hfr hfq hm2 nr nq hkH4
            refine lv_istore (lv' := [(6, .int (iI 0)), (5, .int (iI 3)), (4, .int (iI i)), (3, .ref o), (2, .ref (w 0)), (1, .ref (u 0)), (0, .ref b)]) hx hb dL_law_319 hl (by decide) rfl (fun ls hl => ?_)
            refine lv_goto (tgt := 2331) hx hb dL_law_321 (by decide) ?_
            exact kk _ _ _ _ _ ⟨_, _, _, _, _, _, _, _, _, _, hL2⟩ hS (by omega) (by omega) (lv_sub hl [2, 3, 4, 5, 6] rfl)
        · refine lv_aload_n hx hb dL_law_260 rfl (lv_at hl 3 rfl) ?_
          refine lv_aload_n hx hb dL_law_261 rfl (lv_at hl 4 rfl) ?_
          refine lv_iload hx hb dL_law_262 (lv_at hl 0 rfl) ?_
          refine q_con hx hb dL_law_264 ?_
          refine q_add hx hb dL_law_265 ?_
          refine r_xld hx hb hX hbl hbA hS (i := i + 1) (z := x1) (by omega) hL ex1 dL_law_266 ?_
          refine lv_aload_n hx hb dL_law_267 rfl (lv_at hl 4 rfl) ?_
          refine lv_iload hx hb dL_law_268 (lv_at hl 0 rfl) ?_
          refine q_con hx hb dL_law_270 ?_
          refine q_add hx hb dL_law_271 ?_
          refine r_xld hx hb hX hbl hbA hS (i := i + 2) (z := x2) (by omega) hL ex2 dL_law_272 ?_
          refine lv_aload_n hx hb dL_law_273 rfl (lv_at hl 4 rfl) ?_
          refine lv_iload hx hb dL_law_274 (lv_at hl 0 rfl) ?_
          refine q_con hx hb dL_law_276 ?_
          refine q_add hx hb dL_law_277 ?_
          refine r_xld hx hb hX hbl hbA hS (i := i + 3) (z := x3) (by omega) hL ex3 dL_law_278 ?_
          refine lv_aload_n hx hb dL_law_279 rfl (lv_at hl 4 rfl) ?_
          refine lv_iload hx hb dL_law_280 (lv_at hl 0 rfl) ?_
          refine q_con hx hb dL_law_282 ?_
          refine q_add hx hb dL_law_283 ?_
          refine r_xld hx hb hX hbl hbA hS (i := i + 4) (z := x4) (by omega) hL ex4 dL_law_284 ?_
          refine lv_aload_n hx hb dL_law_285 rfl (lv_at hl 1 rfl) ?_
          refine c_SWr (As := [.ref (u 0), .int (iI x1), .int (iI x2), .int (iI x3), .int (iI x4), .ref o]) (rest := []) (r := .int (iI 2)) fx hl (wn4_of θ l hl0 S0 _ u dt (fun j => sv j 0) (fun j => sv j 1) (fun j => sv j 2) bc rf kn hcr hjH hn o nv sv9 ho hLX.1 x1 x2 x3 x4 m9 (by first | assumption | omega | (dsimp only; first | assumption | omega) | exact Hid.mk (by first | assumption | omega) | exact Hid.mk ⟨fun _ => by first | assumption | omega, fun _ => by first | assumption | omega⟩) (by first | assumption | omega | (dsimp only; first | assumption | omega) | exact Hid.mk (by first | assumption | omega) | exact Hid.mk ⟨fun _ => by first | assumption | omega, fun _ => by first | assumption | omega⟩) (by first | assumption | omega | (dsimp only; first | assumption | omega) | exact Hid.mk (by first | assumption | omega) | exact Hid.mk ⟨fun _ => by first | assumption | omega, fun _ => by first | assumption | omega⟩) (by first | assumption | omega | (dsimp only; first | assumption | omega) | exact Hid.mk (by first | assumption | omega) | exact Hid.mk ⟨fun _ => by first | assumption | omega, fun _ => by first | assumption | omega⟩) (by first | assumption | omega | (dsimp only; first | assumption | omega) | exact Hid.mk (by first | assumption | omega) | exact Hid.mk ⟨fun _ => by first | assumption | omega, fun _ => by first | assumption | omega⟩) (by first | assumption | omega | (dsimp only; first | assumption | omega) | exact Hid.mk (by first | assumption | omega) | exact Hid.mk ⟨fun _ => by first | assumption | omega, fun _ => by first | assumption | omega⟩) (by first | assumption | omega | (dsimp only; first | assumption | omega) | exact Hid.mk (by first | assumption | omega) | exact Hid.mk ⟨fun _ => by first | assumption | omega, fun _ => by first | assumption | omega⟩) (by first | assumption | omega | (dsimp only; first | assumption | omega) | exact Hid.mk (by first | assumption | omega) | exact Hid.mk ⟨fun _ => by first | assumption | omega, fun _ => by first | assumption | omega⟩) (by first | assumption | omega | (dsimp only; first | assumption | omega) | exact Hid.mk (by first | assumption | omega) | exact Hid.mk ⟨fun _ => by first | assumption | omega, fun _ => by first | assumption | omega⟩)) dL_law_286 k693 k694 k0 k695 hd_L_of rfl ⟨by omega, by omega⟩ (Nat.le_of_ble_eq_true rfl) ⟨by (try dsimp only); omega, by (try dsimp only); omega⟩ hS (fun x h => h.elim (fun h => h.elim (fun ⟨j, hj, e⟩ => e ▸ hu.2 j hj) (fun h => Nat.le_trans hzH.2.1 h)) (fun e => e ▸ hoθ)) (fun H5 locs hpH5 hszH5 hkH5 hS => ?_)
          obtain ⟨hcw, ho1⟩ := hpH5
          have hzH1 := hz0.at hAB hS
          have hjH1 := hj0.at hAB hS
          have hm1 := lw_cls hLX hw hzH1 hkH5
          refine lv_istore (lv' := [(5, .int (iI 2)), (4, .int (iI i)), (3, .ref o), (2, .ref (w 0)), (1, .ref (u 0)), (0, .ref b)]) hx hb dL_law_289 hl (by decide) rfl (fun ls hl => ?_)
          refine lv_aload_n hx hb dL_law_291 rfl (lv_at hl 3 rfl) ?_
          refine lv_aload_n hx hb dL_law_292 rfl (lv_at hl 5 rfl) ?_
          refine lv_iload hx hb dL_law_293 (lv_at hl 1 rfl) ?_
          refine q_con hx hb dL_law_295 ?_
          refine q_add hx hb dL_law_296 ?_
          refine r_xld hx hb hX hbl hbA hS (i := i + 1) (z := x1) (by omega) hL ex1 dL_law_297 ?_
          refine lv_aload_n hx hb dL_law_298 rfl (lv_at hl 5 rfl) ?_
          refine lv_iload hx hb dL_law_299 (lv_at hl 1 rfl) ?_
          refine q_con hx hb dL_law_301 ?_
          refine q_add hx hb dL_law_302 ?_
          refine r_xld hx hb hX hbl hbA hS (i := i + 2) (z := x2) (by omega) hL ex2 dL_law_303 ?_
          refine lv_aload_n hx hb dL_law_304 rfl (lv_at hl 5 rfl) ?_
          refine lv_iload hx hb dL_law_305 (lv_at hl 1 rfl) ?_
          refine q_con hx hb dL_law_307 ?_
          refine q_add hx hb dL_law_308 ?_
          refine r_xld hx hb hX hbl hbA hS (i := i + 3) (z := x3) (by omega) hL ex3 dL_law_309 ?_
          refine lv_aload_n hx hb dL_law_310 rfl (lv_at hl 5 rfl) ?_
          refine lv_iload hx hb dL_law_311 (lv_at hl 1 rfl) ?_
          refine q_con hx hb dL_law_313 ?_
          refine q_add hx hb dL_law_314 ?_
          refine r_xld hx hb hX hbl hbA hS (i := i + 4) (z := x4) (by omega) hL ex4 dL_law_315 ?_
          refine c_Vr (As := [.int (iI x1), .int (iI x2), .int (iI x3), .int (iI x4)]) (rest := []) (b := w 0) (C := RX3) (r := some (.int (iI 0))) (st1 := [.int (iI 0)]) fx hl (mno4_of θ l S0 _ w r q dt sv th bc rf kn hm1 x1 x2 x3 x4 m9 (by first | assumption | omega | (dsimp only; first | assumption | omega) | exact Hid.mk (by first | assumption | omega) | exact Hid.mk ⟨fun _ => by first | assumption | omega, fun _ => by first | assumption | omega⟩) (by first | assumption | omega | (dsimp only; first | assumption | omega) | exact Hid.mk (by first | assumption | omega) | exact Hid.mk ⟨fun _ => by first | assumption | omega, fun _ => by first | assumption | omega⟩) (by first | assumption | omega | (dsimp only; first | assumption | omega) | exact Hid.mk (by first | assumption | omega) | exact Hid.mk ⟨fun _ => by first | assumption | omega, fun _ => by first | assumption | omega⟩) (by first | assumption | omega | (dsimp only; first | assumption | omega) | exact Hid.mk (by first | assumption | omega) | exact Hid.mk ⟨fun _ => by first | assumption | omega, fun _ => by first | assumption | omega⟩) (by first | assumption | omega | (dsimp only; first | assumption | omega) | exact Hid.mk (by first | assumption | omega) | exact Hid.mk ⟨fun _ => by first | assumption | omega, fun _ => by first | assumption | omega⟩) (by first | assumption | omega | (dsimp only; first | assumption | omega) | exact Hid.mk (by first | assumption | omega) | exact Hid.mk ⟨fun _ => by first | assumption | omega, fun _ => by first | assumption | omega⟩) (by first | assumption | omega | (dsimp only; first | assumption | omega) | exact Hid.mk (by first | assumption | omega) | exact Hid.mk ⟨fun _ => by first | assumption | omega, fun _ => by first | assumption | omega⟩) (by first | assumption | omega | (dsimp only; first | assumption | omega) | exact Hid.mk (by first | assumption | omega) | exact Hid.mk ⟨fun _ => by first | assumption | omega, fun _ => by first | assumption | omega⟩) (by first | assumption | omega | (dsimp only; first | assumption | omega) | exact Hid.mk (by first | assumption | omega) | exact Hid.mk ⟨fun _ => by first | assumption | omega, fun _ => by first | assumption | omega⟩)) (ob_recv hK hm1.2.2.1.1 rfl) dL_law_316 k1109 k1110 k1111 k6 k1112 hd_X3_of rfl rfl ⟨by omega, by omega⟩ (Nat.le_of_ble_eq_true rfl) ⟨by (try dsimp only); omega, by (try dsimp only); omega⟩ hS (wa_b hm1.2.1 hzH1.2.1) (fun H6 locs hpH6 hszH6 hkH6 hS => ?_)
          obtain ⟨r1, q1, hm2, nr, nq⟩ := hpH6
          have hzH2 := hz0.at hAB hS
          have hL2 := lw_mod hLX hzH2 hu hcw ho1 hfr hfq hm2 nr nq hkH6
          refine lv_istore (lv' := [(6, .int (iI 0)), (5, .int (iI 2)), (4, .int (iI i)), (3, .ref o), (2, .ref (w 0)), (1, .ref (u 0)), (0, .ref b)]) hx hb dL_law_319 hl (by decide) rfl (fun ls hl => ?_)
          refine lv_goto (tgt := 2331) hx hb dL_law_321 (by decide) ?_
          exact kk _ _ _ _ _ ⟨_, _, _, _, _, _, _, _, _, _, hL2⟩ hS (by omega) (by omega) (lv_sub hl [2, 3, 4, 5, 6] rfl)
      · refine lv_aload_n hx hb dL_law_260 rfl (lv_at hl 3 rfl) ?_
        refine lv_aload_n hx hb dL_law_261 rfl (lv_at hl 4 rfl) ?_
        refine lv_iload hx hb dL_law_262 (lv_at hl 0 rfl) ?_
        refine q_con hx hb dL_law_264 ?_
        refine q_add hx hb dL_law_265 ?_
        refine r_xld hx hb hX hbl hbA hS (i := i + 1) (z := x1) (by omega) hL ex1 dL_law_266 ?_
        refine lv_aload_n hx hb dL_law_267 rfl (lv_at hl 4 rfl) ?_
        refine lv_iload hx hb dL_law_268 (lv_at hl 0 rfl) ?_
        refine q_con hx hb dL_law_270 ?_
        refine q_add hx hb dL_law_271 ?_
        refine r_xld hx hb hX hbl hbA hS (i := i + 2) (z := x2) (by omega) hL ex2 dL_law_272 ?_
        refine lv_aload_n hx hb dL_law_273 rfl (lv_at hl 4 rfl) ?_
        refine lv_iload hx hb dL_law_274 (lv_at hl 0 rfl) ?_
        refine q_con hx hb dL_law_276 ?_
        refine q_add hx hb dL_law_277 ?_
        refine r_xld hx hb hX hbl hbA hS (i := i + 3) (z := x3) (by omega) hL ex3 dL_law_278 ?_
        refine lv_aload_n hx hb dL_law_279 rfl (lv_at hl 4 rfl) ?_
        refine lv_iload hx hb dL_law_280 (lv_at hl 0 rfl) ?_
        refine q_con hx hb dL_law_282 ?_
        refine q_add hx hb dL_law_283 ?_
        refine r_xld hx hb hX hbl hbA hS (i := i + 4) (z := x4) (by omega) hL ex4 dL_law_284 ?_
        refine lv_aload_n hx hb dL_law_285 rfl (lv_at hl 1 rfl) ?_
        refine c_SWr (As := [.ref (u 0), .int (iI x1), .int (iI x2), .int (iI x3), .int (iI x4), .ref o]) (rest := []) (r := .int (iI 2)) fx hl (wn3_of θ l hl0 S0 _ u dt (fun j => sv j 0) (fun j => sv j 1) (fun j => sv j 2) bc rf kn hcr hjH hn o nv sv9 ho hLX.1 x1 x2 x3 x4 m9 (by first | assumption | omega | (dsimp only; first | assumption | omega) | exact Hid.mk (by first | assumption | omega) | exact Hid.mk ⟨fun _ => by first | assumption | omega, fun _ => by first | assumption | omega⟩) (by first | assumption | omega | (dsimp only; first | assumption | omega) | exact Hid.mk (by first | assumption | omega) | exact Hid.mk ⟨fun _ => by first | assumption | omega, fun _ => by first | assumption | omega⟩) (by first | assumption | omega | (dsimp only; first | assumption | omega) | exact Hid.mk (by first | assumption | omega) | exact Hid.mk ⟨fun _ => by first | assumption | omega, fun _ => by first | assumption | omega⟩) (by first | assumption | omega | (dsimp only; first | assumption | omega) | exact Hid.mk (by first | assumption | omega) | exact Hid.mk ⟨fun _ => by first | assumption | omega, fun _ => by first | assumption | omega⟩) (by first | assumption | omega | (dsimp only; first | assumption | omega) | exact Hid.mk (by first | assumption | omega) | exact Hid.mk ⟨fun _ => by first | assumption | omega, fun _ => by first | assumption | omega⟩) (by first | assumption | omega | (dsimp only; first | assumption | omega) | exact Hid.mk (by first | assumption | omega) | exact Hid.mk ⟨fun _ => by first | assumption | omega, fun _ => by first | assumption | omega⟩) (by first | assumption | omega | (dsimp only; first | assumption | omega) | exact Hid.mk (by first | assumption | omega) | exact Hid.mk ⟨fun _ => by first | assumption | omega, fun _ => by first | assumption | omega⟩) (by first | assumption | omega | (dsimp only; first | assumption | omega) | exact Hid.mk (by first | assumption | omega) | exact Hid.mk ⟨fun _ => by first | assumption | omega, fun _ => by first | assumption | omega⟩)) dL_law_286 k693 k694 k0 k695 hd_L_of rfl ⟨by omega, by omega⟩ (Nat.le_of_ble_eq_true rfl) ⟨by (try dsimp only); omega, by (try dsimp only); omega⟩ hS (fun x h => h.elim (fun h => h.elim (fun ⟨j, hj, e⟩ => e ▸ hu.2 j hj) (fun h => Nat.le_trans hzH.2.1 h)) (fun e => e ▸ hoθ)) (fun H7 locs hpH7 hszH7 hkH7 hS => ?_)
        obtain ⟨hcw, ho1⟩ := hpH7
        have hzH1 := hz0.at hAB hS
        have hjH1 := hj0.at hAB hS
        have hm1 := lw_cls hLX hw hzH1 hkH7
        refine lv_istore (lv' := [(5, .int (iI 2)), (4, .int (iI i)), (3, .ref o), (2, .ref (w 0)), (1, .ref (u 0)), (0, .ref b)]) hx hb dL_law_289 hl (by decide) rfl (fun ls hl => ?_)
        refine lv_aload_n hx hb dL_law_291 rfl (lv_at hl 3 rfl) ?_
        refine lv_aload_n hx hb dL_law_292 rfl (lv_at hl 5 rfl) ?_
        refine lv_iload hx hb dL_law_293 (lv_at hl 1 rfl) ?_
        refine q_con hx hb dL_law_295 ?_
        refine q_add hx hb dL_law_296 ?_
        refine r_xld hx hb hX hbl hbA hS (i := i + 1) (z := x1) (by omega) hL ex1 dL_law_297 ?_
        refine lv_aload_n hx hb dL_law_298 rfl (lv_at hl 5 rfl) ?_
        refine lv_iload hx hb dL_law_299 (lv_at hl 1 rfl) ?_
        refine q_con hx hb dL_law_301 ?_
        refine q_add hx hb dL_law_302 ?_
        refine r_xld hx hb hX hbl hbA hS (i := i + 2) (z := x2) (by omega) hL ex2 dL_law_303 ?_
        refine lv_aload_n hx hb dL_law_304 rfl (lv_at hl 5 rfl) ?_
        refine lv_iload hx hb dL_law_305 (lv_at hl 1 rfl) ?_
        refine q_con hx hb dL_law_307 ?_
        refine q_add hx hb dL_law_308 ?_
        refine r_xld hx hb hX hbl hbA hS (i := i + 3) (z := x3) (by omega) hL ex3 dL_law_309 ?_
        refine lv_aload_n hx hb dL_law_310 rfl (lv_at hl 5 rfl) ?_
        refine lv_iload hx hb dL_law_311 (lv_at hl 1 rfl) ?_
        refine q_con hx hb dL_law_313 ?_
        refine q_add hx hb dL_law_314 ?_
        refine r_xld hx hb hX hbl hbA hS (i := i + 4) (z := x4) (by omega) hL ex4 dL_law_315 ?_
        refine c_Vr (As := [.int (iI x1), .int (iI x2), .int (iI x3), .int (iI x4)]) (rest := []) (b := w 0) (C := RX3) (r := some (.int (iI 0))) (st1 := [.int (iI 0)]) fx hl (mno3_of θ l S0 _ w r q dt sv th bc rf kn hm1 x1 x2 x3 x4 m9 (by first | assumption | omega | (dsimp only; first | assumption | omega) | exact Hid.mk (by first | assumption | omega) | exact Hid.mk ⟨fun _ => by first | assumption | omega, fun _ => by first | assumption | omega⟩) (by first | assumption | omega | (dsimp only; first | assumption | omega) | exact Hid.mk (by first | assumption | omega) | exact Hid.mk ⟨fun _ => by first | assumption | omega, fun _ => by first | assumption | omega⟩) (by first | assumption | omega | (dsimp only; first | assumption | omega) | exact Hid.mk (by first | assumption | omega) | exact Hid.mk ⟨fun _ => by first | assumption | omega, fun _ => by first | assumption | omega⟩) (by first | assumption | omega | (dsimp only; first | assumption | omega) | exact Hid.mk (by first | assumption | omega) | exact Hid.mk ⟨fun _ => by first | assumption | omega, fun _ => by first | assumption | omega⟩) (by first | assumption | omega | (dsimp only; first | assumption | omega) | exact Hid.mk (by first | assumption | omega) | exact Hid.mk ⟨fun _ => by first | assumption | omega, fun _ => by first | assumption | omega⟩) (by first | assumption | omega | (dsimp only; first | assumption | omega) | exact Hid.mk (by first | assumption | omega) | exact Hid.mk ⟨fun _ => by first | assumption | omega, fun _ => by first | assumption | omega⟩) (by first | assumption | omega | (dsimp only; first | assumption | omega) | exact Hid.mk (by first | assumption | omega) | exact Hid.mk ⟨fun _ => by first | assumption | omega, fun _ => by first | assumption | omega⟩) (by first | assumption | omega | (dsimp only; first | assumption | omega) | exact Hid.mk (by first | assumption | omega) | exact Hid.mk ⟨fun _ => by first | assumption | omega, fun _ => by first | assumption | omega⟩)) (ob_recv hK hm1.2.2.1.1 rfl) dL_law_316 k1109 k1110 k1111 k6 k1112 hd_X3_of rfl rfl ⟨by omega, by omega⟩ (Nat.le_of_ble_eq_true rfl) ⟨by (try dsimp only); omega, by (try dsimp only); omega⟩ hS (wa_b hm1.2.1 hzH1.2.1) (fun H8 locs hpH8 hszH8 hkH8 hS => ?_)
        obtain ⟨r1, q1, hm2, nr, nq⟩ := hpH8
        have hzH2 := hz0.at hAB hS
        have hL2 := lw_mod hLX hzH2 hu hcw ho1 hfr hfq hm2 nr nq hkH8
        refine lv_istore (lv' := [(6, .int (iI 0)), (5, .int (iI 2)), (4, .int (iI i)), (3, .ref o), (2, .ref (w 0)), (1, .ref (u 0)), (0, .ref b)]) hx hb dL_law_319 hl (by decide) rfl (fun ls hl => ?_)
        refine lv_goto (tgt := 2331) hx hb dL_law_321 (by decide) ?_
        exact kk _ _ _ _ _ ⟨_, _, _, _, _, _, _, _, _, _, hL2⟩ hS (by omega) (by omega) (lv_sub hl [2, 3, 4, 5, 6] rfl)
    · refine lv_aload_n hx hb dL_law_260 rfl (lv_at hl 3 rfl) ?_
      refine lv_aload_n hx hb dL_law_261 rfl (lv_at hl 4 rfl) ?_
      refine lv_iload hx hb dL_law_262 (lv_at hl 0 rfl) ?_
      refine q_con hx hb dL_law_264 ?_
      refine q_add hx hb dL_law_265 ?_
      refine r_xld hx hb hX hbl hbA hS (i := i + 1) (z := x1) (by omega) hL ex1 dL_law_266 ?_
      refine lv_aload_n hx hb dL_law_267 rfl (lv_at hl 4 rfl) ?_
      refine lv_iload hx hb dL_law_268 (lv_at hl 0 rfl) ?_
      refine q_con hx hb dL_law_270 ?_
      refine q_add hx hb dL_law_271 ?_
      refine r_xld hx hb hX hbl hbA hS (i := i + 2) (z := x2) (by omega) hL ex2 dL_law_272 ?_
      refine lv_aload_n hx hb dL_law_273 rfl (lv_at hl 4 rfl) ?_
      refine lv_iload hx hb dL_law_274 (lv_at hl 0 rfl) ?_
      refine q_con hx hb dL_law_276 ?_
      refine q_add hx hb dL_law_277 ?_
      refine r_xld hx hb hX hbl hbA hS (i := i + 3) (z := x3) (by omega) hL ex3 dL_law_278 ?_
      refine lv_aload_n hx hb dL_law_279 rfl (lv_at hl 4 rfl) ?_
      refine lv_iload hx hb dL_law_280 (lv_at hl 0 rfl) ?_
      refine q_con hx hb dL_law_282 ?_
      refine q_add hx hb dL_law_283 ?_
      refine r_xld hx hb hX hbl hbA hS (i := i + 4) (z := x4) (by omega) hL ex4 dL_law_284 ?_
      refine lv_aload_n hx hb dL_law_285 rfl (lv_at hl 1 rfl) ?_
      refine c_SWr (As := [.ref (u 0), .int (iI x1), .int (iI x2), .int (iI x3), .int (iI x4), .ref o]) (rest := []) (r := .int (iI 2)) fx hl (wn2_of θ l hl0 S0 _ u dt (fun j => sv j 0) (fun j => sv j 1) (fun j => sv j 2) bc rf kn hcr hjH hn o nv sv9 ho hLX.1 x1 x2 x3 x4 m9 (by first | assumption | omega | (dsimp only; first | assumption | omega) | exact Hid.mk (by first | assumption | omega) | exact Hid.mk ⟨fun _ => by first | assumption | omega, fun _ => by first | assumption | omega⟩) (by first | assumption | omega | (dsimp only; first | assumption | omega) | exact Hid.mk (by first | assumption | omega) | exact Hid.mk ⟨fun _ => by first | assumption | omega, fun _ => by first | assumption | omega⟩) (by first | assumption | omega | (dsimp only; first | assumption | omega) | exact Hid.mk (by first | assumption | omega) | exact Hid.mk ⟨fun _ => by first | assumption | omega, fun _ => by first | assumption | omega⟩) (by first | assumption | omega | (dsimp only; first | assumption | omega) | exact Hid.mk (by first | assumption | omega) | exact Hid.mk ⟨fun _ => by first | assumption | omega, fun _ => by first | assumption | omega⟩) (by first | assumption | omega | (dsimp only; first | assumption | omega) | exact Hid.mk (by first | assumption | omega) | exact Hid.mk ⟨fun _ => by first | assumption | omega, fun _ => by first | assumption | omega⟩) (by first | assumption | omega | (dsimp only; first | assumption | omega) | exact Hid.mk (by first | assumption | omega) | exact Hid.mk ⟨fun _ => by first | assumption | omega, fun _ => by first | assumption | omega⟩) (by first | assumption | omega | (dsimp only; first | assumption | omega) | exact Hid.mk (by first | assumption | omega) | exact Hid.mk ⟨fun _ => by first | assumption | omega, fun _ => by first | assumption | omega⟩)) dL_law_286 k693 k694 k0 k695 hd_L_of rfl ⟨by omega, by omega⟩ (Nat.le_of_ble_eq_true rfl) ⟨by (try dsimp only); omega, by (try dsimp only); omega⟩ hS (fun x h => h.elim (fun h => h.elim (fun ⟨j, hj, e⟩ => e ▸ hu.2 j hj) (fun h => Nat.le_trans hzH.2.1 h)) (fun e => e ▸ hoθ)) (fun H9 locs hpH9 hszH9 hkH9 hS => ?_)
      obtain ⟨hcw, ho1⟩ := hpH9
      have hzH1 := hz0.at hAB hS
      have hjH1 := hj0.at hAB hS
      have hm1 := lw_cls hLX hw hzH1 hkH9
      refine lv_istore (lv' := [(5, .int (iI 2)), (4, .int (iI i)), (3, .ref o), (2, .ref (w 0)), (1, .ref (u 0)), (0, .ref b)]) hx hb dL_law_289 hl (by decide) rfl (fun ls hl => ?_)
      refine lv_aload_n hx hb dL_law_291 rfl (lv_at hl 3 rfl) ?_
      refine lv_aload_n hx hb dL_law_292 rfl (lv_at hl 5 rfl) ?_
      refine lv_iload hx hb dL_law_293 (lv_at hl 1 rfl) ?_
      refine q_con hx hb dL_law_295 ?_
      refine q_add hx hb dL_law_296 ?_
      refine r_xld hx hb hX hbl hbA hS (i := i + 1) (z := x1) (by omega) hL ex1 dL_law_297 ?_
      refine lv_aload_n hx hb dL_law_298 rfl (lv_at hl 5 rfl) ?_
      refine lv_iload hx hb dL_law_299 (lv_at hl 1 rfl) ?_
      refine q_con hx hb dL_law_301 ?_
      refine q_add hx hb dL_law_302 ?_
      refine r_xld hx hb hX hbl hbA hS (i := i + 2) (z := x2) (by omega) hL ex2 dL_law_303 ?_
      refine lv_aload_n hx hb dL_law_304 rfl (lv_at hl 5 rfl) ?_
      refine lv_iload hx hb dL_law_305 (lv_at hl 1 rfl) ?_
      refine q_con hx hb dL_law_307 ?_
      refine q_add hx hb dL_law_308 ?_
      refine r_xld hx hb hX hbl hbA hS (i := i + 3) (z := x3) (by omega) hL ex3 dL_law_309 ?_
      refine lv_aload_n hx hb dL_law_310 rfl (lv_at hl 5 rfl) ?_
      refine lv_iload hx hb dL_law_311 (lv_at hl 1 rfl) ?_
      refine q_con hx hb dL_law_313 ?_
      refine q_add hx hb dL_law_314 ?_
      refine r_xld hx hb hX hbl hbA hS (i := i + 4) (z := x4) (by omega) hL ex4 dL_law_315 ?_
      refine c_Vr (As := [.int (iI x1), .int (iI x2), .int (iI x3), .int (iI x4)]) (rest := []) (b := w 0) (C := RX3) (r := some (.int (iI 0))) (st1 := [.int (iI 0)]) fx hl (mno2_of θ l S0 _ w r q dt sv th bc rf kn hm1 x1 x2 x3 x4 m9 (by first | assumption | omega | (dsimp only; first | assumption | omega) | exact Hid.mk (by first | assumption | omega) | exact Hid.mk ⟨fun _ => by first | assumption | omega, fun _ => by first | assumption | omega⟩) (by first | assumption | omega | (dsimp only; first | assumption | omega) | exact Hid.mk (by first | assumption | omega) | exact Hid.mk ⟨fun _ => by first | assumption | omega, fun _ => by first | assumption | omega⟩) (by first | assumption | omega | (dsimp only; first | assumption | omega) | exact Hid.mk (by first | assumption | omega) | exact Hid.mk ⟨fun _ => by first | assumption | omega, fun _ => by first | assumption | omega⟩) (by first | assumption | omega | (dsimp only; first | assumption | omega) | exact Hid.mk (by first | assumption | omega) | exact Hid.mk ⟨fun _ => by first | assumption | omega, fun _ => by first | assumption | omega⟩) (by first | assumption | omega | (dsimp only; first | assumption | omega) | exact Hid.mk (by first | assumption | omega) | exact Hid.mk ⟨fun _ => by first | assumption | omega, fun _ => by first | assumption | omega⟩) (by first | assumption | omega | (dsimp only; first | assumption | omega) | exact Hid.mk (by first | assumption | omega) | exact Hid.mk ⟨fun _ => by first | assumption | omega, fun _ => by first | assumption | omega⟩) (by first | assumption | omega | (dsimp only; first | assumption | omega) | exact Hid.mk (by first | assumption | omega) | exact Hid.mk ⟨fun _ => by first | assumption | omega, fun _ => by first | assumption | omega⟩)) (ob_recv hK hm1.2.2.1.1 rfl) dL_law_316 k1109 k1110 k1111 k6 k1112 hd_X3_of rfl rfl ⟨by omega, by omega⟩ (Nat.le_of_ble_eq_true rfl) ⟨by (try dsimp only); omega, by (try dsimp only); omega⟩ hS (wa_b hm1.2.1 hzH1.2.1) (fun H10 locs hpH10 hszH10 hkH10 hS => ?_)
      obtain ⟨r1, q1, hm2, nr, nq⟩ := hpH10
      have hzH2 := hz0.at hAB hS
      have hL2 := lw_mod hLX hzH2 hu hcw ho1 hfr hfq hm2 nr nq hkH10
      refine lv_istore (lv' := [(6, .int (iI 0)), (5, .int (iI 2)), (4, .int (iI i)), (3, .ref o), (2, .ref (w 0)), (1, .ref (u 0)), (0, .ref b)]) hx hb dL_law_319 hl (by decide) rfl (fun ls hl => ?_)
      refine lv_goto (tgt := 2331) hx hb dL_law_321 (by decide) ?_
      exact kk _ _ _ _ _ ⟨_, _, _, _, _, _, _, _, _, _, hL2⟩ hS (by omega) (by omega) (lv_sub hl [2, 3, 4, 5, 6] rfl)
  · refine lv_aload_n hx hb dL_law_260 rfl (lv_at hl 3 rfl) ?_
    refine lv_aload_n hx hb dL_law_261 rfl (lv_at hl 4 rfl) ?_
    refine lv_iload hx hb dL_law_262 (lv_at hl 0 rfl) ?_
    refine q_con hx hb dL_law_264 ?_
    refine q_add hx hb dL_law_265 ?_
    refine r_xld hx hb hX hbl hbA hS (i := i + 1) (z := x1) (by omega) hL ex1 dL_law_266 ?_
    refine lv_aload_n hx hb dL_law_267 rfl (lv_at hl 4 rfl) ?_
    refine lv_iload hx hb dL_law_268 (lv_at hl 0 rfl) ?_
    refine q_con hx hb dL_law_270 ?_
    refine q_add hx hb dL_law_271 ?_
    refine r_xld hx hb hX hbl hbA hS (i := i + 2) (z := x2) (by omega) hL ex2 dL_law_272 ?_
    refine lv_aload_n hx hb dL_law_273 rfl (lv_at hl 4 rfl) ?_
    refine lv_iload hx hb dL_law_274 (lv_at hl 0 rfl) ?_
    refine q_con hx hb dL_law_276 ?_
    refine q_add hx hb dL_law_277 ?_
    refine r_xld hx hb hX hbl hbA hS (i := i + 3) (z := x3) (by omega) hL ex3 dL_law_278 ?_
    refine lv_aload_n hx hb dL_law_279 rfl (lv_at hl 4 rfl) ?_
    refine lv_iload hx hb dL_law_280 (lv_at hl 0 rfl) ?_
    refine q_con hx hb dL_law_282 ?_
    refine q_add hx hb dL_law_283 ?_
    refine r_xld hx hb hX hbl hbA hS (i := i + 4) (z := x4) (by omega) hL ex4 dL_law_284 ?_
    refine lv_aload_n hx hb dL_law_285 rfl (lv_at hl 1 rfl) ?_
    refine c_SWr (As := [.ref (u 0), .int (iI x1), .int (iI x2), .int (iI x3), .int (iI x4), .ref o]) (rest := []) (r := .int (iI 1)) fx hl (wn1_of θ l hl0 S0 _ u dt (fun j => sv j 0) (fun j => sv j 1) (fun j => sv j 2) bc rf kn hcr hjH hn o nv sv9 ho hLX.1 x1 x2 x3 x4 m9 (by first | assumption | omega | (dsimp only; first | assumption | omega) | exact Hid.mk (by first | assumption | omega) | exact Hid.mk ⟨fun _ => by first | assumption | omega, fun _ => by first | assumption | omega⟩) (by first | assumption | omega | (dsimp only; first | assumption | omega) | exact Hid.mk (by first | assumption | omega) | exact Hid.mk ⟨fun _ => by first | assumption | omega, fun _ => by first | assumption | omega⟩) (by first | assumption | omega | (dsimp only; first | assumption | omega) | exact Hid.mk (by first | assumption | omega) | exact Hid.mk ⟨fun _ => by first | assumption | omega, fun _ => by first | assumption | omega⟩) (by first | assumption | omega | (dsimp only; first | assumption | omega) | exact Hid.mk (by first | assumption | omega) | exact Hid.mk ⟨fun _ => by first | assumption | omega, fun _ => by first | assumption | omega⟩) (by first | assumption | omega | (dsimp only; first | assumption | omega) | exact Hid.mk (by first | assumption | omega) | exact Hid.mk ⟨fun _ => by first | assumption | omega, fun _ => by first | assumption | omega⟩) (by first | assumption | omega | (dsimp only; first | assumption | omega) | exact Hid.mk (by first | assumption | omega) | exact Hid.mk ⟨fun _ => by first | assumption | omega, fun _ => by first | assumption | omega⟩)) dL_law_286 k693 k694 k0 k695 hd_L_of rfl ⟨by omega, by omega⟩ (Nat.le_of_ble_eq_true rfl) ⟨by (try dsimp only); omega, by (try dsimp only); omega⟩ hS (fun x h => h.elim (fun h => h.elim (fun ⟨j, hj, e⟩ => e ▸ hu.2 j hj) (fun h => Nat.le_trans hzH.2.1 h)) (fun e => e ▸ hoθ)) (fun H11 locs hpH11 hszH11 hkH11 hS => ?_)
    obtain ⟨hcw, ho1⟩ := hpH11
    have hzH1 := hz0.at hAB hS
    have hjH1 := hj0.at hAB hS
    have hm1 := lw_cls hLX hw hzH1 hkH11
    refine lv_istore (lv' := [(5, .int (iI 1)), (4, .int (iI i)), (3, .ref o), (2, .ref (w 0)), (1, .ref (u 0)), (0, .ref b)]) hx hb dL_law_289 hl (by decide) rfl (fun ls hl => ?_)
    refine lv_aload_n hx hb dL_law_291 rfl (lv_at hl 3 rfl) ?_
    refine lv_aload_n hx hb dL_law_292 rfl (lv_at hl 5 rfl) ?_
    refine lv_iload hx hb dL_law_293 (lv_at hl 1 rfl) ?_
    refine q_con hx hb dL_law_295 ?_
    refine q_add hx hb dL_law_296 ?_
    refine r_xld hx hb hX hbl hbA hS (i := i + 1) (z := x1) (by omega) hL ex1 dL_law_297 ?_
    refine lv_aload_n hx hb dL_law_298 rfl (lv_at hl 5 rfl) ?_
    refine lv_iload hx hb dL_law_299 (lv_at hl 1 rfl) ?_
    refine q_con hx hb dL_law_301 ?_
    refine q_add hx hb dL_law_302 ?_
    refine r_xld hx hb hX hbl hbA hS (i := i + 2) (z := x2) (by omega) hL ex2 dL_law_303 ?_
    refine lv_aload_n hx hb dL_law_304 rfl (lv_at hl 5 rfl) ?_
    refine lv_iload hx hb dL_law_305 (lv_at hl 1 rfl) ?_
    refine q_con hx hb dL_law_307 ?_
    refine q_add hx hb dL_law_308 ?_
    refine r_xld hx hb hX hbl hbA hS (i := i + 3) (z := x3) (by omega) hL ex3 dL_law_309 ?_
    refine lv_aload_n hx hb dL_law_310 rfl (lv_at hl 5 rfl) ?_
    refine lv_iload hx hb dL_law_311 (lv_at hl 1 rfl) ?_
    refine q_con hx hb dL_law_313 ?_
    refine q_add hx hb dL_law_314 ?_
    refine r_xld hx hb hX hbl hbA hS (i := i + 4) (z := x4) (by omega) hL ex4 dL_law_315 ?_
    refine c_Vr (As := [.int (iI x1), .int (iI x2), .int (iI x3), .int (iI x4)]) (rest := []) (b := w 0) (C := RX3) (r := some (.int (iI 0))) (st1 := [.int (iI 0)]) fx hl (mno1_of θ l S0 _ w r q dt sv th bc rf kn hm1 x1 x2 x3 x4 m9 (by first | assumption | omega | (dsimp only; first | assumption | omega) | exact Hid.mk (by first | assumption | omega) | exact Hid.mk ⟨fun _ => by first | assumption | omega, fun _ => by first | assumption | omega⟩) (by first | assumption | omega | (dsimp only; first | assumption | omega) | exact Hid.mk (by first | assumption | omega) | exact Hid.mk ⟨fun _ => by first | assumption | omega, fun _ => by first | assumption | omega⟩) (by first | assumption | omega | (dsimp only; first | assumption | omega) | exact Hid.mk (by first | assumption | omega) | exact Hid.mk ⟨fun _ => by first | assumption | omega, fun _ => by first | assumption | omega⟩) (by first | assumption | omega | (dsimp only; first | assumption | omega) | exact Hid.mk (by first | assumption | omega) | exact Hid.mk ⟨fun _ => by first | assumption | omega, fun _ => by first | assumption | omega⟩) (by first | assumption | omega | (dsimp only; first | assumption | omega) | exact Hid.mk (by first | assumption | omega) | exact Hid.mk ⟨fun _ => by first | assumption | omega, fun _ => by first | assumption | omega⟩) (by first | assumption | omega | (dsimp only; first | assumption | omega) | exact Hid.mk (by first | assumption | omega) | exact Hid.mk ⟨fun _ => by first | assumption | omega, fun _ => by first | assumption | omega⟩)) (ob_recv hK hm1.2.2.1.1 rfl) dL_law_316 k1109 k1110 k1111 k6 k1112 hd_X3_of rfl rfl ⟨by omega, by omega⟩ (Nat.le_of_ble_eq_true rfl) ⟨by (try dsimp only); omega, by (try dsimp only); omega⟩ hS (wa_b hm1.2.1 hzH1.2.1) (fun H12 locs hpH12 hszH12 hkH12 hS => ?_)
    obtain ⟨r1, q1, hm2, nr, nq⟩ := hpH12
    have hzH2 := hz0.at hAB hS
    have hL2 := lw_mod hLX hzH2 hu hcw ho1 hfr hfq hm2 nr nq hkH12
    refine lv_istore (lv' := [(6, .int (iI 0)), (5, .int (iI 1)), (4, .int (iI i)), (3, .ref o), (2, .ref (w 0)), (1, .ref (u 0)), (0, .ref b)]) hx hb dL_law_319 hl (by decide) rfl (fun ls hl => ?_)
    refine lv_goto (tgt := 2331) hx hb dL_law_321 (by decide) ?_
    exact kk _ _ _ _ _ ⟨_, _, _, _, _, _, _, _, _, _, hL2⟩ hS (by omega) (by omega) (lv_sub hl [2, 3, 4, 5, 6] rfl)

set_option maxHeartbeats 4000000 in
set_option maxRecDepth 100000 in
theorem lc_ofDay {p : Program} {l : Launch} {e : Env} {R : Room} {s : State} {m : MethodId} {args : Array Value} {below : List Frame} {meth : Method} {c : Code} {Q : State → Prop} {θ : TH} {S0 : State} (fx : FX p m c cL_law 7 s args yL_law.cls S0) (hl0 : l.stackTraces = false) (hz0 : SZ θ S0 s.heap) (hj0 : SJ θ S0 s.heap) (hn : NX S0) {u w : Nat → Nat} {o b L : Nat} {xs : Nat → Int32} (hLX : LX u w o) (hoθ : θ.2.2.2 ≤ o) (hX : va_X b L xs s s.heap) (hbl : b < s.heap.size) (hbA : ¬ AJ θ b) (hL : L ≤ 2560) (hRF : 1000 ≤ R.frames ∧ 1000 ≤ R.locals) {H : Heap} {locs : List Loc} {cells slots : Nat} {ls : Array Slot} {i : Int} (hi : 0 ≤ i ∧ i + 5 ≤ (L : Int)) (hw : LWE θ S0 u w o H) (hS : va_S (AJ θ) s.heap H locs) (hRc : cells + 400 ≤ R.cells ∧ slots + 7000 ≤ R.slots) (hl : lv_has ls 7 [(4, .int (iI i)), (3, .ref o), (2, .ref (w 0)), (1, .ref (u 0)), (0, .ref b)]) (kk : LK p l e R s m args below meth c Q θ S0 u w o b i cells slots 2331) : W p l e R s m args below meth c H locs cells slots Q (F0 m 324 ls []) := by
  obtain ⟨hx, hb, hml, hown, hts⟩ := id fx.1
  have hAB : ∀ x : Nat, AJ θ x → θ.2.2.2 ≤ x := fun _ h => h
  obtain ⟨r, q, dt, sv, th, bc, rf, kn, nv, sv9, hw⟩ := hw
  obtain ⟨hcr, hmr, ho, hfr, hfq⟩ := id hw
  have hzH := hz0.at hAB hS
  have hjH := hj0.at hAB hS
  have hK := sz_K fx.2 hz0
  have hu := hcr.2.1
  obtain ⟨x1, ex1⟩ : ∃ z : Int, z = (xs (i + 1).toNat).toInt := ⟨_, rfl⟩
  have bx1 := x32_b ex1
  obtain ⟨x2, ex2⟩ : ∃ z : Int, z = (xs (i + 2).toNat).toInt := ⟨_, rfl⟩
  have bx2 := x32_b ex2
  by_cases hc1 : 0 ≤ x1 ∧ x1 < 6
  · by_cases hc2 : -4371587 ≤ x2 ∧ x2 ≤ 2932896
    · refine lv_aload_n hx hb dL_law_324 rfl (lv_at hl 3 rfl) ?_
      refine lv_aload_n hx hb dL_law_325 rfl (lv_at hl 4 rfl) ?_
      refine lv_iload hx hb dL_law_326 (lv_at hl 0 rfl) ?_
      refine q_con hx hb dL_law_328 ?_
      refine q_add hx hb dL_law_329 ?_
      refine r_xld hx hb hX hbl hbA hS (i := i + 1) (z := x1) (by omega) hL ex1 dL_law_330 ?_
      refine lv_aload_n hx hb dL_law_331 rfl (lv_at hl 4 rfl) ?_
      refine lv_iload hx hb dL_law_332 (lv_at hl 0 rfl) ?_
      refine q_con hx hb dL_law_334 ?_
      refine q_add hx hb dL_law_335 ?_
      refine r_xld hx hb hX hbl hbA hS (i := i + 2) (z := x2) (by omega) hL ex2 dL_law_336 ?_
      refine lv_aload_n hx hb dL_law_337 rfl (lv_at hl 1 rfl) ?_
      refine c_SWr (As := [.ref (u 0), .int (iI x1), .int (iI x2), .ref o]) (rest := []) (r := .int (iI 0)) fx hl (wr_ofDay θ l hl0 S0 _ u dt (fun j => sv j 0) (fun j => sv j 1) (fun j => sv j 2) bc rf kn hcr hjH hn o nv sv9 ho hLX.1 x1 x2 (by first | assumption | omega | (dsimp only; first | assumption | omega) | exact Hid.mk (by first | assumption | omega) | exact Hid.mk ⟨fun _ => by first | assumption | omega, fun _ => by first | assumption | omega⟩) (by first | assumption | omega | (dsimp only; first | assumption | omega) | exact Hid.mk (by first | assumption | omega) | exact Hid.mk ⟨fun _ => by first | assumption | omega, fun _ => by first | assumption | omega⟩) (by first | assumption | omega | (dsimp only; first | assumption | omega) | exact Hid.mk (by first | assumption | omega) | exact Hid.mk ⟨fun _ => by first | assumption | omega, fun _ => by first | assumption | omega⟩) (by first | assumption | omega | (dsimp only; first | assumption | omega) | exact Hid.mk (by first | assumption | omega) | exact Hid.mk ⟨fun _ => by first | assumption | omega, fun _ => by first | assumption | omega⟩)) dL_law_338 k727 k728 k0 k729 hd_L_ofDay rfl ⟨by omega, by omega⟩ (Nat.le_of_ble_eq_true rfl) ⟨by (try dsimp only); omega, by (try dsimp only); omega⟩ hS (fun x h => h.elim (fun h => h.elim (fun ⟨j, hj, e⟩ => e ▸ hu.2 j hj) (fun h => Nat.le_trans hzH.2.1 h)) (fun e => e ▸ hoθ)) (fun H1 locs hpH1 hszH1 hkH1 hS => ?_)
      obtain ⟨hcw, ho1⟩ := hpH1
      have hzH1 := hz0.at hAB hS
      have hjH1 := hj0.at hAB hS
      have hm1 := lw_cls hLX hw hzH1 hkH1
      refine lv_istore (lv' := [(5, .int (iI 0)), (4, .int (iI i)), (3, .ref o), (2, .ref (w 0)), (1, .ref (u 0)), (0, .ref b)]) hx hb dL_law_341 hl (by decide) rfl (fun ls hl => ?_)
      refine lv_aload_n hx hb dL_law_343 rfl (lv_at hl 3 rfl) ?_
      refine lv_aload_n hx hb dL_law_344 rfl (lv_at hl 5 rfl) ?_
      refine lv_iload hx hb dL_law_345 (lv_at hl 1 rfl) ?_
      refine q_con hx hb dL_law_347 ?_
      refine q_add hx hb dL_law_348 ?_
      refine r_xld hx hb hX hbl hbA hS (i := i + 1) (z := x1) (by omega) hL ex1 dL_law_349 ?_
      refine lv_aload_n hx hb dL_law_350 rfl (lv_at hl 5 rfl) ?_
      refine lv_iload hx hb dL_law_351 (lv_at hl 1 rfl) ?_
      refine q_con hx hb dL_law_353 ?_
      refine q_add hx hb dL_law_354 ?_
      refine r_xld hx hb hX hbl hbA hS (i := i + 2) (z := x2) (by omega) hL ex2 dL_law_355 ?_
      refine c_Vr (As := [.int (iI x1), .int (iI x2)]) (rest := []) (b := w 0) (C := RX3) (r := some (.int (iI (wI x2)))) (st1 := [.int (iI (wI x2))]) fx hl (mok_ofDay θ l S0 _ w r q dt sv th bc rf kn hm1 x1 x2 (by first | assumption | omega | (dsimp only; first | assumption | omega) | exact Hid.mk (by first | assumption | omega) | exact Hid.mk ⟨fun _ => by first | assumption | omega, fun _ => by first | assumption | omega⟩) (by first | assumption | omega | (dsimp only; first | assumption | omega) | exact Hid.mk (by first | assumption | omega) | exact Hid.mk ⟨fun _ => by first | assumption | omega, fun _ => by first | assumption | omega⟩) (by first | assumption | omega | (dsimp only; first | assumption | omega) | exact Hid.mk (by first | assumption | omega) | exact Hid.mk ⟨fun _ => by first | assumption | omega, fun _ => by first | assumption | omega⟩) (by first | assumption | omega | (dsimp only; first | assumption | omega) | exact Hid.mk (by first | assumption | omega) | exact Hid.mk ⟨fun _ => by first | assumption | omega, fun _ => by first | assumption | omega⟩)) (ob_recv hK hm1.2.2.1.1 rfl) dL_law_356 k1145 k1146 k1147 k6 k1148 hd_X3_ofDay rfl rfl ⟨by omega, by omega⟩ (Nat.le_of_ble_eq_true rfl) ⟨by (try dsimp only); omega, by (try dsimp only); omega⟩ hS (wa_b hm1.2.1 hzH1.2.1) (fun H2 locs hpH2 hszH2 hkH2 hS => ?_)
      obtain ⟨r1, q1, hm2, nr, nq⟩ := hpH2
      have hzH2 := hz0.at hAB hS
      have hL2 := lw_mod hLX hzH2 hu hcw ho1 hfr hfq hm2 nr nq hkH2
      refine lv_istore (lv' := [(6, .int (iI (wI x2))), (5, .int (iI 0)), (4, .int (iI i)), (3, .ref o), (2, .ref (w 0)), (1, .ref (u 0)), (0, .ref b)]) hx hb dL_law_359 hl (by decide) rfl (fun ls hl => ?_)
      refine lv_goto (tgt := 2331) hx hb dL_law_361 (by decide) ?_
      exact kk _ _ _ _ _ ⟨_, _, _, _, _, _, _, _, _, _, hL2⟩ hS (by omega) (by omega) (lv_sub hl [2, 3, 4, 5, 6] rfl)
    · refine lv_aload_n hx hb dL_law_324 rfl (lv_at hl 3 rfl) ?_
      refine lv_aload_n hx hb dL_law_325 rfl (lv_at hl 4 rfl) ?_
      refine lv_iload hx hb dL_law_326 (lv_at hl 0 rfl) ?_
      refine q_con hx hb dL_law_328 ?_
      refine q_add hx hb dL_law_329 ?_
      refine r_xld hx hb hX hbl hbA hS (i := i + 1) (z := x1) (by omega) hL ex1 dL_law_330 ?_
      refine lv_aload_n hx hb dL_law_331 rfl (lv_at hl 4 rfl) ?_
      refine lv_iload hx hb dL_law_332 (lv_at hl 0 rfl) ?_
      refine q_con hx hb dL_law_334 ?_
      refine q_add hx hb dL_law_335 ?_
      refine r_xld hx hb hX hbl hbA hS (i := i + 2) (z := x2) (by omega) hL ex2 dL_law_336 ?_
      refine lv_aload_n hx hb dL_law_337 rfl (lv_at hl 1 rfl) ?_
      refine c_SWr (As := [.ref (u 0), .int (iI x1), .int (iI x2), .ref o]) (rest := []) (r := .int (iI 2)) fx hl (wn2_ofDay θ l hl0 S0 _ u dt (fun j => sv j 0) (fun j => sv j 1) (fun j => sv j 2) bc rf kn hcr hjH hn o nv sv9 ho hLX.1 x1 x2 (by first | assumption | omega | (dsimp only; first | assumption | omega) | exact Hid.mk (by first | assumption | omega) | exact Hid.mk ⟨fun _ => by first | assumption | omega, fun _ => by first | assumption | omega⟩) (by first | assumption | omega | (dsimp only; first | assumption | omega) | exact Hid.mk (by first | assumption | omega) | exact Hid.mk ⟨fun _ => by first | assumption | omega, fun _ => by first | assumption | omega⟩) (by first | assumption | omega | (dsimp only; first | assumption | omega) | exact Hid.mk (by first | assumption | omega) | exact Hid.mk ⟨fun _ => by first | assumption | omega, fun _ => by first | assumption | omega⟩) (by first | assumption | omega | (dsimp only; first | assumption | omega) | exact Hid.mk (by first | assumption | omega) | exact Hid.mk ⟨fun _ => by first | assumption | omega, fun _ => by first | assumption | omega⟩)) dL_law_338 k727 k728 k0 k729 hd_L_ofDay rfl ⟨by omega, by omega⟩ (Nat.le_of_ble_eq_true rfl) ⟨by (try dsimp only); omega, by (try dsimp only); omega⟩ hS (fun x h => h.elim (fun h => h.elim (fun ⟨j, hj, e⟩ => e ▸ hu.2 j hj) (fun h => Nat.le_trans hzH.2.1 h)) (fun e => e ▸ hoθ)) (fun H3 locs hpH3 hszH3 hkH3 hS => ?_)
      obtain ⟨hcw, ho1⟩ := hpH3
      have hzH1 := hz0.at hAB hS
      have hjH1 := hj0.at hAB hS
      have hm1 := lw_cls hLX hw hzH1 hkH3
      refine lv_istore (lv' := [(5, .int (iI 2)), (4, .int (iI i)), (3, .ref o), (2, .ref (w 0)), (1, .ref (u 0)), (0, .ref b)]) hx hb dL_law_341 hl (by decide) rfl (fun ls hl => ?_)
      refine lv_aload_n hx hb dL_law_343 rfl (lv_at hl 3 rfl) ?_
      refine lv_aload_n hx hb dL_law_344 rfl (lv_at hl 5 rfl) ?_
      refine lv_iload hx hb dL_law_345 (lv_at hl 1 rfl) ?_
      refine q_con hx hb dL_law_347 ?_
      refine q_add hx hb dL_law_348 ?_
      refine r_xld hx hb hX hbl hbA hS (i := i + 1) (z := x1) (by omega) hL ex1 dL_law_349 ?_
      refine lv_aload_n hx hb dL_law_350 rfl (lv_at hl 5 rfl) ?_
      refine lv_iload hx hb dL_law_351 (lv_at hl 1 rfl) ?_
      refine q_con hx hb dL_law_353 ?_
      refine q_add hx hb dL_law_354 ?_
      refine r_xld hx hb hX hbl hbA hS (i := i + 2) (z := x2) (by omega) hL ex2 dL_law_355 ?_
      refine c_Vr (As := [.int (iI x1), .int (iI x2)]) (rest := []) (b := w 0) (C := RX3) (r := some (.int (iI 0))) (st1 := [.int (iI 0)]) fx hl (mno2_ofDay θ l S0 _ w r q dt sv th bc rf kn hm1 x1 x2 (by first | assumption | omega | (dsimp only; first | assumption | omega) | exact Hid.mk (by first | assumption | omega) | exact Hid.mk ⟨fun _ => by first | assumption | omega, fun _ => by first | assumption | omega⟩) (by first | assumption | omega | (dsimp only; first | assumption | omega) | exact Hid.mk (by first | assumption | omega) | exact Hid.mk ⟨fun _ => by first | assumption | omega, fun _ => by first | assumption | omega⟩) (by first | assumption | omega | (dsimp only; first | assumption | omega) | exact Hid.mk (by first | assumption | omega) | exact Hid.mk ⟨fun _ => by first | assumption | omega, fun _ => by first | assumption | omega⟩) (by first | assumption | omega | (dsimp only; first | assumption | omega) | exact Hid.mk (by first | assumption | omega) | exact Hid.mk ⟨fun _ => by first | assumption | omega, fun _ => by first | assumption | omega⟩)) (ob_recv hK hm1.2.2.1.1 rfl) dL_law_356 k1145 k1146 k1147 k6 k1148 hd_X3_ofDay rfl rfl ⟨by omega, by omega⟩ (Nat.le_of_ble_eq_true rfl) ⟨by (try dsimp only); omega, by (try dsimp only); omega⟩ hS (wa_b hm1.2.1 hzH1.2.1) (fun H4 locs hpH4 hszH4 hkH4 hS => ?_)
      obtain ⟨r1, q1, hm2, nr, nq⟩ := hpH4
      have hzH2 := hz0.at hAB hS
      have hL2 := lw_mod hLX hzH2 hu hcw ho1 hfr hfq hm2 nr nq hkH4
      refine lv_istore (lv' := [(6, .int (iI 0)), (5, .int (iI 2)), (4, .int (iI i)), (3, .ref o), (2, .ref (w 0)), (1, .ref (u 0)), (0, .ref b)]) hx hb dL_law_359 hl (by decide) rfl (fun ls hl => ?_)
      refine lv_goto (tgt := 2331) hx hb dL_law_361 (by decide) ?_
      exact kk _ _ _ _ _ ⟨_, _, _, _, _, _, _, _, _, _, hL2⟩ hS (by omega) (by omega) (lv_sub hl [2, 3, 4, 5, 6] rfl)
  · refine lv_aload_n hx hb dL_law_324 rfl (lv_at hl 3 rfl) ?_
    refine lv_aload_n hx hb dL_law_325 rfl (lv_at hl 4 rfl) ?_
    refine lv_iload hx hb dL_law_326 (lv_at hl 0 rfl) ?_
    refine q_con hx hb dL_law_328 ?_
    refine q_add hx hb dL_law_329 ?_
    refine r_xld hx hb hX hbl hbA hS (i := i + 1) (z := x1) (by omega) hL ex1 dL_law_330 ?_
    refine lv_aload_n hx hb dL_law_331 rfl (lv_at hl 4 rfl) ?_
    refine lv_iload hx hb dL_law_332 (lv_at hl 0 rfl) ?_
    refine q_con hx hb dL_law_334 ?_
    refine q_add hx hb dL_law_335 ?_
    refine r_xld hx hb hX hbl hbA hS (i := i + 2) (z := x2) (by omega) hL ex2 dL_law_336 ?_
    refine lv_aload_n hx hb dL_law_337 rfl (lv_at hl 1 rfl) ?_
    refine c_SWr (As := [.ref (u 0), .int (iI x1), .int (iI x2), .ref o]) (rest := []) (r := .int (iI 1)) fx hl (wn1_ofDay θ l hl0 S0 _ u dt (fun j => sv j 0) (fun j => sv j 1) (fun j => sv j 2) bc rf kn hcr hjH hn o nv sv9 ho hLX.1 x1 x2 (by first | assumption | omega | (dsimp only; first | assumption | omega) | exact Hid.mk (by first | assumption | omega) | exact Hid.mk ⟨fun _ => by first | assumption | omega, fun _ => by first | assumption | omega⟩) (by first | assumption | omega | (dsimp only; first | assumption | omega) | exact Hid.mk (by first | assumption | omega) | exact Hid.mk ⟨fun _ => by first | assumption | omega, fun _ => by first | assumption | omega⟩) (by first | assumption | omega | (dsimp only; first | assumption | omega) | exact Hid.mk (by first | assumption | omega) | exact Hid.mk ⟨fun _ => by first | assumption | omega, fun _ => by first | assumption | omega⟩)) dL_law_338 k727 k728 k0 k729 hd_L_ofDay rfl ⟨by omega, by omega⟩ (Nat.le_of_ble_eq_true rfl) ⟨by (try dsimp only); omega, by (try dsimp only); omega⟩ hS (fun x h => h.elim (fun h => h.elim (fun ⟨j, hj, e⟩ => e ▸ hu.2 j hj) (fun h => Nat.le_trans hzH.2.1 h)) (fun e => e ▸ hoθ)) (fun H5 locs hpH5 hszH5 hkH5 hS => ?_)
    obtain ⟨hcw, ho1⟩ := hpH5
    have hzH1 := hz0.at hAB hS
    have hjH1 := hj0.at hAB hS
    have hm1 := lw_cls hLX hw hzH1 hkH5
    refine lv_istore (lv' := [(5, .int (iI 1)), (4, .int (iI i)), (3, .ref o), (2, .ref (w 0)), (1, .ref (u 0)), (0, .ref b)]) hx hb dL_law_341 hl (by decide) rfl (fun ls hl => ?_)
    refine lv_aload_n hx hb dL_law_343 rfl (lv_at hl 3 rfl) ?_
    refine lv_aload_n hx hb dL_law_344 rfl (lv_at hl 5 rfl) ?_
    refine lv_iload hx hb dL_law_345 (lv_at hl 1 rfl) ?_
    refine q_con hx hb dL_law_347 ?_
    refine q_add hx hb dL_law_348 ?_
    refine r_xld hx hb hX hbl hbA hS (i := i + 1) (z := x1) (by omega) hL ex1 dL_law_349 ?_
    refine lv_aload_n hx hb dL_law_350 rfl (lv_at hl 5 rfl) ?_
    refine lv_iload hx hb dL_law_351 (lv_at hl 1 rfl) ?_
    refine q_con hx hb dL_law_353 ?_
    refine q_add hx hb dL_law_354 ?_
    refine r_xld hx hb hX hbl hbA hS (i := i + 2) (z := x2) (by omega) hL ex2 dL_law_355 ?_
    refine c_Vr (As := [.int (iI x1), .int (iI x2)]) (rest := []) (b := w 0) (C := RX3) (r := some (.int (iI 0))) (st1 := [.int (iI 0)]) fx hl (mno1_ofDay θ l S0 _ w r q dt sv th bc rf kn hm1 x1 x2 (by first | assumption | omega | (dsimp only; first | assumption | omega) | exact Hid.mk (by first | assumption | omega) | exact Hid.mk ⟨fun _ => by first | assumption | omega, fun _ => by first | assumption | omega⟩) (by first | assumption | omega | (dsimp only; first | assumption | omega) | exact Hid.mk (by first | assumption | omega) | exact Hid.mk ⟨fun _ => by first | assumption | omega, fun _ => by first | assumption | omega⟩) (by first | assumption | omega | (dsimp only; first | assumption | omega) | exact Hid.mk (by first | assumption | omega) | exact Hid.mk ⟨fun _ => by first | assumption | omega, fun _ => by first | assumption | omega⟩)) (ob_recv hK hm1.2.2.1.1 rfl) dL_law_356 k1145 k1146 k1147 k6 k1148 hd_X3_ofDay rfl rfl ⟨by omega, by omega⟩ (Nat.le_of_ble_eq_true rfl) ⟨by (try dsimp only); omega, by (try dsimp only); omega⟩ hS (wa_b hm1.2.1 hzH1.2.1) (fun H6 locs hpH6 hszH6 hkH6 hS => ?_)
    obtain ⟨r1, q1, hm2, nr, nq⟩ := hpH6
    have hzH2 := hz0.at hAB hS
    have hL2 := lw_mod hLX hzH2 hu hcw ho1 hfr hfq hm2 nr nq hkH6
    refine lv_istore (lv' := [(6, .int (iI 0)), (5, .int (iI 1)), (4, .int (iI i)), (3, .ref o), (2, .ref (w 0)), (1, .ref (u 0)), (0, .ref b)]) hx hb dL_law_359 hl (by decide) rfl (fun ls hl => ?_)
    refine lv_goto (tgt := 2331) hx hb dL_law_361 (by decide) ?_
    exact kk _ _ _ _ _ ⟨_, _, _, _, _, _, _, _, _, _, hL2⟩ hS (by omega) (by omega) (lv_sub hl [2, 3, 4, 5, 6] rfl)

set_option maxHeartbeats 4000000 in
set_option maxRecDepth 100000 in
theorem lc_ofMonth {p : Program} {l : Launch} {e : Env} {R : Room} {s : State} {m : MethodId} {args : Array Value} {below : List Frame} {meth : Method} {c : Code} {Q : State → Prop} {θ : TH} {S0 : State} (fx : FX p m c cL_law 7 s args yL_law.cls S0) (hl0 : l.stackTraces = false) (hz0 : SZ θ S0 s.heap) (hj0 : SJ θ S0 s.heap) (hn : NX S0) {u w : Nat → Nat} {o b L : Nat} {xs : Nat → Int32} (hLX : LX u w o) (hoθ : θ.2.2.2 ≤ o) (hX : va_X b L xs s s.heap) (hbl : b < s.heap.size) (hbA : ¬ AJ θ b) (hL : L ≤ 2560) (hRF : 1000 ≤ R.frames ∧ 1000 ≤ R.locals) {H : Heap} {locs : List Loc} {cells slots : Nat} {ls : Array Slot} {i : Int} (hi : 0 ≤ i ∧ i + 5 ≤ (L : Int)) (hw : LWE θ S0 u w o H) (hS : va_S (AJ θ) s.heap H locs) (hRc : cells + 400 ≤ R.cells ∧ slots + 7000 ≤ R.slots) (hl : lv_has ls 7 [(4, .int (iI i)), (3, .ref o), (2, .ref (w 0)), (1, .ref (u 0)), (0, .ref b)]) (kk : LK p l e R s m args below meth c Q θ S0 u w o b i cells slots 2331) : W p l e R s m args below meth c H locs cells slots Q (F0 m 364 ls []) := by
  obtain ⟨hx, hb, hml, hown, hts⟩ := id fx.1
  have hAB : ∀ x : Nat, AJ θ x → θ.2.2.2 ≤ x := fun _ h => h
  obtain ⟨r, q, dt, sv, th, bc, rf, kn, nv, sv9, hw⟩ := hw
  obtain ⟨hcr, hmr, ho, hfr, hfq⟩ := id hw
  have hzH := hz0.at hAB hS
  have hjH := hj0.at hAB hS
  have hK := sz_K fx.2 hz0
  have hu := hcr.2.1
  obtain ⟨x1, ex1⟩ : ∃ z : Int, z = (xs (i + 1).toNat).toInt := ⟨_, rfl⟩
  have bx1 := x32_b ex1
  obtain ⟨x2, ex2⟩ : ∃ z : Int, z = (xs (i + 2).toNat).toInt := ⟨_, rfl⟩
  have bx2 := x32_b ex2
  obtain ⟨x3, ex3⟩ : ∃ z : Int, z = (xs (i + 3).toNat).toInt := ⟨_, rfl⟩
  have bx3 := x32_b ex3
  by_cases hc1 : 0 ≤ x1 ∧ x1 < 6
  · by_cases hc2 : -119988 ≤ x2 ∧ x2 ≤ 119999
    · by_cases hc3 : 1 ≤ x3 ∧ x3 ≤ 31
      · refine lv_aload_n hx hb dL_law_364 rfl (lv_at hl 3 rfl) ?_
        refine lv_aload_n hx hb dL_law_365 rfl (lv_at hl 4 rfl) ?_
        refine lv_iload hx hb dL_law_366 (lv_at hl 0 rfl) ?_
        refine q_con hx hb dL_law_368 ?_
        refine q_add hx hb dL_law_369 ?_
        refine r_xld hx hb hX hbl hbA hS (i := i + 1) (z := x1) (by omega) hL ex1 dL_law_370 ?_
        refine lv_aload_n hx hb dL_law_371 rfl (lv_at hl 4 rfl) ?_
        refine lv_iload hx hb dL_law_372 (lv_at hl 0 rfl) ?_
        refine q_con hx hb dL_law_374 ?_
        refine q_add hx hb dL_law_375 ?_
        refine r_xld hx hb hX hbl hbA hS (i := i + 2) (z := x2) (by omega) hL ex2 dL_law_376 ?_
        refine lv_aload_n hx hb dL_law_377 rfl (lv_at hl 4 rfl) ?_
        refine lv_iload hx hb dL_law_378 (lv_at hl 0 rfl) ?_
        refine q_con hx hb dL_law_380 ?_
        refine q_add hx hb dL_law_381 ?_
        refine r_xld hx hb hX hbl hbA hS (i := i + 3) (z := x3) (by omega) hL ex3 dL_law_382 ?_
        refine lv_aload_n hx hb dL_law_383 rfl (lv_at hl 1 rfl) ?_
        refine c_SWr (As := [.ref (u 0), .int (iI x1), .int (iI x2), .int (iI x3), .ref o]) (rest := []) (r := .int (iI 0)) fx hl (wr_ofMonth θ l hl0 S0 _ u dt (fun j => sv j 0) (fun j => sv j 1) (fun j => sv j 2) bc rf kn hcr hjH hn o nv sv9 ho hLX.1 x1 x2 x3 (by first | assumption | omega | (dsimp only; first | assumption | omega) | exact Hid.mk (by first | assumption | omega) | exact Hid.mk ⟨fun _ => by first | assumption | omega, fun _ => by first | assumption | omega⟩) (by first | assumption | omega | (dsimp only; first | assumption | omega) | exact Hid.mk (by first | assumption | omega) | exact Hid.mk ⟨fun _ => by first | assumption | omega, fun _ => by first | assumption | omega⟩) (by first | assumption | omega | (dsimp only; first | assumption | omega) | exact Hid.mk (by first | assumption | omega) | exact Hid.mk ⟨fun _ => by first | assumption | omega, fun _ => by first | assumption | omega⟩) (by first | assumption | omega | (dsimp only; first | assumption | omega) | exact Hid.mk (by first | assumption | omega) | exact Hid.mk ⟨fun _ => by first | assumption | omega, fun _ => by first | assumption | omega⟩) (by first | assumption | omega | (dsimp only; first | assumption | omega) | exact Hid.mk (by first | assumption | omega) | exact Hid.mk ⟨fun _ => by first | assumption | omega, fun _ => by first | assumption | omega⟩) (by first | assumption | omega | (dsimp only; first | assumption | omega) | exact Hid.mk (by first | assumption | omega) | exact Hid.mk ⟨fun _ => by first | assumption | omega, fun _ => by first | assumption | omega⟩)) dL_law_384 k736 k737 k0 k738 hd_L_ofMonth rfl ⟨by omega, by omega⟩ (Nat.le_of_ble_eq_true rfl) ⟨by (try dsimp only); omega, by (try dsimp only); omega⟩ hS (fun x h => h.elim (fun h => h.elim (fun ⟨j, hj, e⟩ => e ▸ hu.2 j hj) (fun h => Nat.le_trans hzH.2.1 h)) (fun e => e ▸ hoθ)) (fun H1 locs hpH1 hszH1 hkH1 hS => ?_)
        obtain ⟨hcw, ho1⟩ := hpH1
        have hzH1 := hz0.at hAB hS
        have hjH1 := hj0.at hAB hS
        have hm1 := lw_cls hLX hw hzH1 hkH1
        refine lv_istore (lv' := [(5, .int (iI 0)), (4, .int (iI i)), (3, .ref o), (2, .ref (w 0)), (1, .ref (u 0)), (0, .ref b)]) hx hb dL_law_387 hl (by decide) rfl (fun ls hl => ?_)
        refine lv_aload_n hx hb dL_law_389 rfl (lv_at hl 3 rfl) ?_
        refine lv_aload_n hx hb dL_law_390 rfl (lv_at hl 5 rfl) ?_
        refine lv_iload hx hb dL_law_391 (lv_at hl 1 rfl) ?_
        refine q_con hx hb dL_law_393 ?_
        refine q_add hx hb dL_law_394 ?_
        refine r_xld hx hb hX hbl hbA hS (i := i + 1) (z := x1) (by omega) hL ex1 dL_law_395 ?_
        refine lv_aload_n hx hb dL_law_396 rfl (lv_at hl 5 rfl) ?_
        refine lv_iload hx hb dL_law_397 (lv_at hl 1 rfl) ?_
        refine q_con hx hb dL_law_399 ?_
        refine q_add hx hb dL_law_400 ?_
        refine r_xld hx hb hX hbl hbA hS (i := i + 2) (z := x2) (by omega) hL ex2 dL_law_401 ?_
        refine lv_aload_n hx hb dL_law_402 rfl (lv_at hl 5 rfl) ?_
        refine lv_iload hx hb dL_law_403 (lv_at hl 1 rfl) ?_
        refine q_con hx hb dL_law_405 ?_
        refine q_add hx hb dL_law_406 ?_
        refine r_xld hx hb hX hbl hbA hS (i := i + 3) (z := x3) (by omega) hL ex3 dL_law_407 ?_
        refine c_Vr (As := [.int (iI x1), .int (iI x2), .int (iI x3)]) (rest := []) (b := w 0) (C := RX3) (r := some (.int (iI (dI (inI x2 x3))))) (st1 := [.int (iI (dI (inI x2 x3)))]) fx hl (mok_ofMonth θ l S0 _ w r q dt sv th bc rf kn hm1 x1 x2 x3 (by first | assumption | omega | (dsimp only; first | assumption | omega) | exact Hid.mk (by first | assumption | omega) | exact Hid.mk ⟨fun _ => by first | assumption | omega, fun _ => by first | assumption | omega⟩) (by first | assumption | omega | (dsimp only; first | assumption | omega) | exact Hid.mk (by first | assumption | omega) | exact Hid.mk ⟨fun _ => by first | assumption | omega, fun _ => by first | assumption | omega⟩) (by first | assumption | omega | (dsimp only; first | assumption | omega) | exact Hid.mk (by first | assumption | omega) | exact Hid.mk ⟨fun _ => by first | assumption | omega, fun _ => by first | assumption | omega⟩) (by first | assumption | omega | (dsimp only; first | assumption | omega) | exact Hid.mk (by first | assumption | omega) | exact Hid.mk ⟨fun _ => by first | assumption | omega, fun _ => by first | assumption | omega⟩) (by first | assumption | omega | (dsimp only; first | assumption | omega) | exact Hid.mk (by first | assumption | omega) | exact Hid.mk ⟨fun _ => by first | assumption | omega, fun _ => by first | assumption | omega⟩) (by first | assumption | omega | (dsimp only; first | assumption | omega) | exact Hid.mk (by first | assumption | omega) | exact Hid.mk ⟨fun _ => by first | assumption | omega, fun _ => by first | assumption | omega⟩)) (ob_recv hK hm1.2.2.1.1 rfl) dL_law_408 k1152 k1153 k1154 k6 k1155 hd_X3_ofMonth rfl rfl ⟨by omega, by omega⟩ (Nat.le_of_ble_eq_true rfl) ⟨by (try dsimp only); omega, by (try dsimp only); omega⟩ hS (wa_b hm1.2.1 hzH1.2.1) (fun H2 locs hpH2 hszH2 hkH2 hS => ?_)
        obtain ⟨r1, q1, hm2, nr, nq⟩ := hpH2
        have hzH2 := hz0.at hAB hS
        have hL2 := lw_mod hLX hzH2 hu hcw ho1 hfr hfq hm2 nr nq hkH2
        refine lv_istore (lv' := [(6, .int (iI (dI (inI x2 x3)))), (5, .int (iI 0)), (4, .int (iI i)), (3, .ref o), (2, .ref (w 0)), (1, .ref (u 0)), (0, .ref b)]) hx hb dL_law_411 hl (by decide) rfl (fun ls hl => ?_)
        refine lv_goto (tgt := 2331) hx hb dL_law_413 (by decide) ?_
        exact kk _ _ _ _ _ ⟨_, _, _, _, _, _, _, _, _, _, hL2⟩ hS (by omega) (by omega) (lv_sub hl [2, 3, 4, 5, 6] rfl)
      · refine lv_aload_n hx hb dL_law_364 rfl (lv_at hl 3 rfl) ?_
        refine lv_aload_n hx hb dL_law_365 rfl (lv_at hl 4 rfl) ?_
        refine lv_iload hx hb dL_law_366 (lv_at hl 0 rfl) ?_
        refine q_con hx hb dL_law_368 ?_
        refine q_add hx hb dL_law_369 ?_
        refine r_xld hx hb hX hbl hbA hS (i := i + 1) (z := x1) (by omega) hL ex1 dL_law_370 ?_
        refine lv_aload_n hx hb dL_law_371 rfl (lv_at hl 4 rfl) ?_
        refine lv_iload hx hb dL_law_372 (lv_at hl 0 rfl) ?_
        refine q_con hx hb dL_law_374 ?_
        refine q_add hx hb dL_law_375 ?_
        refine r_xld hx hb hX hbl hbA hS (i := i + 2) (z := x2) (by omega) hL ex2 dL_law_376 ?_
        refine lv_aload_n hx hb dL_law_377 rfl (lv_at hl 4 rfl) ?_
        refine lv_iload hx hb dL_law_378 (lv_at hl 0 rfl) ?_
        refine q_con hx hb dL_law_380 ?_
        refine q_add hx hb dL_law_381 ?_
        refine r_xld hx hb hX hbl hbA hS (i := i + 3) (z := x3) (by omega) hL ex3 dL_law_382 ?_
        refine lv_aload_n hx hb dL_law_383 rfl (lv_at hl 1 rfl) ?_
        refine c_SWr (As := [.ref (u 0), .int (iI x1), .int (iI x2), .int (iI x3), .ref o]) (rest := []) (r := .int (iI 2)) fx hl (wn3_ofMonth θ l hl0 S0 _ u dt (fun j => sv j 0) (fun j => sv j 1) (fun j => sv j 2) bc rf kn hcr hjH hn o nv sv9 ho hLX.1 x1 x2 x3 (by first | assumption | omega | (dsimp only; first | assumption | omega) | exact Hid.mk (by first | assumption | omega) | exact Hid.mk ⟨fun _ => by first | assumption | omega, fun _ => by first | assumption | omega⟩) (by first | assumption | omega | (dsimp only; first | assumption | omega) | exact Hid.mk (by first | assumption | omega) | exact Hid.mk ⟨fun _ => by first | assumption | omega, fun _ => by first | assumption | omega⟩) (by first | assumption | omega | (dsimp only; first | assumption | omega) | exact Hid.mk (by first | assumption | omega) | exact Hid.mk ⟨fun _ => by first | assumption | omega, fun _ => by first | assumption | omega⟩) (by first | assumption | omega | (dsimp only; first | assumption | omega) | exact Hid.mk (by first | assumption | omega) | exact Hid.mk ⟨fun _ => by first | assumption | omega, fun _ => by first | assumption | omega⟩) (by first | assumption | omega | (dsimp only; first | assumption | omega) | exact Hid.mk (by first | assumption | omega) | exact Hid.mk ⟨fun _ => by first | assumption | omega, fun _ => by first | assumption | omega⟩) (by first | assumption | omega | (dsimp only; first | assumption | omega) | exact Hid.mk (by first | assumption | omega) | exact Hid.mk ⟨fun _ => by first | assumption | omega, fun _ => by first | assumption | omega⟩)) dL_law_384 k736 k737 k0 k738 hd_L_ofMonth rfl ⟨by omega, by omega⟩ (Nat.le_of_ble_eq_true rfl) ⟨by (try dsimp only); omega, by (try dsimp only); omega⟩ hS (fun x h => h.elim (fun h => h.elim (fun ⟨j, hj, e⟩ => e ▸ hu.2 j hj) (fun h => Nat.le_trans hzH.2.1 h)) (fun e => e ▸ hoθ)) (fun H3 locs hpH3 hszH3 hkH3 hS => ?_)
        obtain ⟨hcw, ho1⟩ := hpH3
        have hzH1 := hz0.at hAB hS
        have hjH1 := hj0.at hAB hS
        have hm1 := lw_cls hLX hw hzH1 hkH3
        refine lv_istore (lv' := [(5, .int (iI 2)), (4, .int (iI i)), (3, .ref o), (2, .ref (w 0)), (1, .ref (u 0)), (0, .ref b)]) hx hb dL_law_387 hl (by decide) rfl (fun ls hl => ?_)
        refine lv_aload_n hx hb dL_law_389 rfl (lv_at hl 3 rfl) ?_
        refine lv_aload_n hx hb dL_law_390 rfl (lv_at hl 5 rfl) ?_
        refine lv_iload hx hb dL_law_391 (lv_at hl 1 rfl) ?_
        refine q_con hx hb dL_law_393 ?_
        refine q_add hx hb dL_law_394 ?_
        refine r_xld hx hb hX hbl hbA hS (i := i + 1) (z := x1) (by omega) hL ex1 dL_law_395 ?_
        refine lv_aload_n hx hb dL_law_396 rfl (lv_at hl 5 rfl) ?_
        refine lv_iload hx hb dL_law_397 (lv_at hl 1 rfl) ?_
        refine q_con hx hb dL_law_399 ?_
        refine q_add hx hb dL_law_400 ?_
        refine r_xld hx hb hX hbl hbA hS (i := i + 2) (z := x2) (by omega) hL ex2 dL_law_401 ?_
        refine lv_aload_n hx hb dL_law_402 rfl (lv_at hl 5 rfl) ?_
        refine lv_iload hx hb dL_law_403 (lv_at hl 1 rfl) ?_
        refine q_con hx hb dL_law_405 ?_
        refine q_add hx hb dL_law_406 ?_
        refine r_xld hx hb hX hbl hbA hS (i := i + 3) (z := x3) (by omega) hL ex3 dL_law_407 ?_
        refine c_Vr (As := [.int (iI x1), .int (iI x2), .int (iI x3)]) (rest := []) (b := w 0) (C := RX3) (r := some (.int (iI 0))) (st1 := [.int (iI 0)]) fx hl (mno3_ofMonth θ l S0 _ w r q dt sv th bc rf kn hm1 x1 x2 x3 (by first | assumption | omega | (dsimp only; first | assumption | omega) | exact Hid.mk (by first | assumption | omega) | exact Hid.mk ⟨fun _ => by first | assumption | omega, fun _ => by first | assumption | omega⟩) (by first | assumption | omega | (dsimp only; first | assumption | omega) | exact Hid.mk (by first | assumption | omega) | exact Hid.mk ⟨fun _ => by first | assumption | omega, fun _ => by first | assumption | omega⟩) (by first | assumption | omega | (dsimp only; first | assumption | omega) | exact Hid.mk (by first | assumption | omega) | exact Hid.mk ⟨fun _ => by first | assumption | omega, fun _ => by first | assumption | omega⟩) (by first | assumption | omega | (dsimp only; first | assumption | omega) | exact Hid.mk (by first | assumption | omega) | exact Hid.mk ⟨fun _ => by first | assumption | omega, fun _ => by first | assumption | omega⟩) (by first | assumption | omega | (dsimp only; first | assumption | omega) | exact Hid.mk (by first | assumption | omega) | exact Hid.mk ⟨fun _ => by first | assumption | omega, fun _ => by first | assumption | omega⟩) (by first | assumption | omega | (dsimp only; first | assumption | omega) | exact Hid.mk (by first | assumption | omega) | exact Hid.mk ⟨fun _ => by first | assumption | omega, fun _ => by first | assumption | omega⟩)) (ob_recv hK hm1.2.2.1.1 rfl) dL_law_408 k1152 k1153 k1154 k6 k1155 hd_X3_ofMonth rfl rfl ⟨by omega, by omega⟩ (Nat.le_of_ble_eq_true rfl) ⟨by (try dsimp only); omega, by (try dsimp only); omega⟩ hS (wa_b hm1.2.1 hzH1.2.1) (fun H4 locs hpH4 hszH4 hkH4 hS => ?_)
        obtain ⟨r1, q1, hm2, nr, nq⟩ := hpH4
        have hzH2 := hz0.at hAB hS
        have hL2 := lw_mod hLX hzH2 hu hcw ho1 hfr hfq hm2 nr nq hkH4
        refine lv_istore (lv' := [(6, .int (iI 0)), (5, .int (iI 2)), (4, .int (iI i)), (3, .ref o), (2, .ref (w 0)), (1, .ref (u 0)), (0, .ref b)]) hx hb dL_law_411 hl (by decide) rfl (fun ls hl => ?_)
        refine lv_goto (tgt := 2331) hx hb dL_law_413 (by decide) ?_
        exact kk _ _ _ _ _ ⟨_, _, _, _, _, _, _, _, _, _, hL2⟩ hS (by omega) (by omega) (lv_sub hl [2, 3, 4, 5, 6] rfl)
    · refine lv_aload_n hx hb dL_law_364 rfl (lv_at hl 3 rfl) ?_
      refine lv_aload_n hx hb dL_law_365 rfl (lv_at hl 4 rfl) ?_
      refine lv_iload hx hb dL_law_366 (lv_at hl 0 rfl) ?_
      refine q_con hx hb dL_law_368 ?_
      refine q_add hx hb dL_law_369 ?_
      refine r_xld hx hb hX hbl hbA hS (i := i + 1) (z := x1) (by omega) hL ex1 dL_law_370 ?_
      refine lv_aload_n hx hb dL_law_371 rfl (lv_at hl 4 rfl) ?_
      refine lv_iload hx hb dL_law_372 (lv_at hl 0 rfl) ?_
      refine q_con hx hb dL_law_374 ?_
      refine q_add hx hb dL_law_375 ?_
      refine r_xld hx hb hX hbl hbA hS (i := i + 2) (z := x2) (by omega) hL ex2 dL_law_376 ?_
      refine lv_aload_n hx hb dL_law_377 rfl (lv_at hl 4 rfl) ?_
      refine lv_iload hx hb dL_law_378 (lv_at hl 0 rfl) ?_
      refine q_con hx hb dL_law_380 ?_
      refine q_add hx hb dL_law_381 ?_
      refine r_xld hx hb hX hbl hbA hS (i := i + 3) (z := x3) (by omega) hL ex3 dL_law_382 ?_
      refine lv_aload_n hx hb dL_law_383 rfl (lv_at hl 1 rfl) ?_
      refine c_SWr (As := [.ref (u 0), .int (iI x1), .int (iI x2), .int (iI x3), .ref o]) (rest := []) (r := .int (iI 2)) fx hl (wn2_ofMonth θ l hl0 S0 _ u dt (fun j => sv j 0) (fun j => sv j 1) (fun j => sv j 2) bc rf kn hcr hjH hn o nv sv9 ho hLX.1 x1 x2 x3 (by first | assumption | omega | (dsimp only; first | assumption | omega) | exact Hid.mk (by first | assumption | omega) | exact Hid.mk ⟨fun _ => by first | assumption | omega, fun _ => by first | assumption | omega⟩) (by first | assumption | omega | (dsimp only; first | assumption | omega) | exact Hid.mk (by first | assumption | omega) | exact Hid.mk ⟨fun _ => by first | assumption | omega, fun _ => by first | assumption | omega⟩) (by first | assumption | omega | (dsimp only; first | assumption | omega) | exact Hid.mk (by first | assumption | omega) | exact Hid.mk ⟨fun _ => by first | assumption | omega, fun _ => by first | assumption | omega⟩) (by first | assumption | omega | (dsimp only; first | assumption | omega) | exact Hid.mk (by first | assumption | omega) | exact Hid.mk ⟨fun _ => by first | assumption | omega, fun _ => by first | assumption | omega⟩) (by first | assumption | omega | (dsimp only; first | assumption | omega) | exact Hid.mk (by first | assumption | omega) | exact Hid.mk ⟨fun _ => by first | assumption | omega, fun _ => by first | assumption | omega⟩)) dL_law_384 k736 k737 k0 k738 hd_L_ofMonth rfl ⟨by omega, by omega⟩ (Nat.le_of_ble_eq_true rfl) ⟨by (try dsimp only); omega, by (try dsimp only); omega⟩ hS (fun x h => h.elim (fun h => h.elim (fun ⟨j, hj, e⟩ => e ▸ hu.2 j hj) (fun h => Nat.le_trans hzH.2.1 h)) (fun e => e ▸ hoθ)) (fun H5 locs hpH5 hszH5 hkH5 hS => ?_)
      obtain ⟨hcw, ho1⟩ := hpH5
      have hzH1 := hz0.at hAB hS
      have hjH1 := hj0.at hAB hS
      have hm1 := lw_cls hLX hw hzH1 hkH5
      refine lv_istore (lv' := [(5, .int (iI 2)), (4, .int (iI i)), (3, .ref o), (2, .ref (w 0)), (1, .ref (u 0)), (0, .ref b)]) hx hb dL_law_387 hl (by decide) rfl (fun ls hl => ?_)
      refine lv_aload_n hx hb dL_law_389 rfl (lv_at hl 3 rfl) ?_
      refine lv_aload_n hx hb dL_law_390 rfl (lv_at hl 5 rfl) ?_
      refine lv_iload hx hb dL_law_391 (lv_at hl 1 rfl) ?_
      refine q_con hx hb dL_law_393 ?_
      refine q_add hx hb dL_law_394 ?_
      refine r_xld hx hb hX hbl hbA hS (i := i + 1) (z := x1) (by omega) hL ex1 dL_law_395 ?_
      refine lv_aload_n hx hb dL_law_396 rfl (lv_at hl 5 rfl) ?_
      refine lv_iload hx hb dL_law_397 (lv_at hl 1 rfl) ?_
      refine q_con hx hb dL_law_399 ?_
      refine q_add hx hb dL_law_400 ?_
      refine r_xld hx hb hX hbl hbA hS (i := i + 2) (z := x2) (by omega) hL ex2 dL_law_401 ?_
      refine lv_aload_n hx hb dL_law_402 rfl (lv_at hl 5 rfl) ?_
      refine lv_iload hx hb dL_law_403 (lv_at hl 1 rfl) ?_
      refine q_con hx hb dL_law_405 ?_
      refine q_add hx hb dL_law_406 ?_
      refine r_xld hx hb hX hbl hbA hS (i := i + 3) (z := x3) (by omega) hL ex3 dL_law_407 ?_
      refine c_Vr (As := [.int (iI x1), .int (iI x2), .int (iI x3)]) (rest := []) (b := w 0) (C := RX3) (r := some (.int (iI 0))) (st1 := [.int (iI 0)]) fx hl (mno2_ofMonth θ l S0 _ w r q dt sv th bc rf kn hm1 x1 x2 x3 (by first | assumption | omega | (dsimp only; first | assumption | omega) | exact Hid.mk (by first | assumption | omega) | exact Hid.mk ⟨fun _ => by first | assumption | omega, fun _ => by first | assumption | omega⟩) (by first | assumption | omega | (dsimp only; first | assumption | omega) | exact Hid.mk (by first | assumption | omega) | exact Hid.mk ⟨fun _ => by first | assumption | omega, fun _ => by first | assumption | omega⟩) (by first | assumption | omega | (dsimp only; first | assumption | omega) | exact Hid.mk (by first | assumption | omega) | exact Hid.mk ⟨fun _ => by first | assumption | omega, fun _ => by first | assumption | omega⟩) (by first | assumption | omega | (dsimp only; first | assumption | omega) | exact Hid.mk (by first | assumption | omega) | exact Hid.mk ⟨fun _ => by first | assumption | omega, fun _ => by first | assumption | omega⟩) (by first | assumption | omega | (dsimp only; first | assumption | omega) | exact Hid.mk (by first | assumption | omega) | exact Hid.mk ⟨fun _ => by first | assumption | omega, fun _ => by first | assumption | omega⟩)) (ob_recv hK hm1.2.2.1.1 rfl) dL_law_408 k1152 k1153 k1154 k6 k1155 hd_X3_ofMonth rfl rfl ⟨by omega, by omega⟩ (Nat.le_of_ble_eq_true rfl) ⟨by (try dsimp only); omega, by (try dsimp only); omega⟩ hS (wa_b hm1.2.1 hzH1.2.1) (fun H6 locs hpH6 hszH6 hkH6 hS => ?_)
      obtain ⟨r1, q1, hm2, nr, nq⟩ := hpH6
      have hzH2 := hz0.at hAB hS
      have hL2 := lw_mod hLX hzH2 hu hcw ho1 hfr hfq hm2 nr nq hkH6
      refine lv_istore (lv' := [(6, .int (iI 0)), (5, .int (iI 2)), (4, .int (iI i)), (3, .ref o), (2, .ref (w 0)), (1, .ref (u 0)), (0, .ref b)]) hx hb dL_law_411 hl (by decide) rfl (fun ls hl => ?_)
      refine lv_goto (tgt := 2331) hx hb dL_law_413 (by decide) ?_
      exact kk _ _ _ _ _ ⟨_, _, _, _, _, _, _, _, _, _, hL2⟩ hS (by omega) (by omega) (lv_sub hl [2, 3, 4, 5, 6] rfl)
  · refine lv_aload_n hx hb dL_law_364 rfl (lv_at hl 3 rfl) ?_
    refine lv_aload_n hx hb dL_law_365 rfl (lv_at hl 4 rfl) ?_
    refine lv_iload hx hb dL_law_366 (lv_at hl 0 rfl) ?_
    refine q_con hx hb dL_law_368 ?_
    refine q_add hx hb dL_law_369 ?_
    refine r_xld hx hb hX hbl hbA hS (i := i + 1) (z := x1) (by omega) hL ex1 dL_law_370 ?_
    refine lv_aload_n hx hb dL_law_371 rfl (lv_at hl 4 rfl) ?_
    refine lv_iload hx hb dL_law_372 (lv_at hl 0 rfl) ?_
    refine q_con hx hb dL_law_374 ?_
    refine q_add hx hb dL_law_375 ?_
    refine r_xld hx hb hX hbl hbA hS (i := i + 2) (z := x2) (by omega) hL ex2 dL_law_376 ?_
    refine lv_aload_n hx hb dL_law_377 rfl (lv_at hl 4 rfl) ?_
    refine lv_iload hx hb dL_law_378 (lv_at hl 0 rfl) ?_
    refine q_con hx hb dL_law_380 ?_
    refine q_add hx hb dL_law_381 ?_
    refine r_xld hx hb hX hbl hbA hS (i := i + 3) (z := x3) (by omega) hL ex3 dL_law_382 ?_
    refine lv_aload_n hx hb dL_law_383 rfl (lv_at hl 1 rfl) ?_
    refine c_SWr (As := [.ref (u 0), .int (iI x1), .int (iI x2), .int (iI x3), .ref o]) (rest := []) (r := .int (iI 1)) fx hl (wn1_ofMonth θ l hl0 S0 _ u dt (fun j => sv j 0) (fun j => sv j 1) (fun j => sv j 2) bc rf kn hcr hjH hn o nv sv9 ho hLX.1 x1 x2 x3 (by first | assumption | omega | (dsimp only; first | assumption | omega) | exact Hid.mk (by first | assumption | omega) | exact Hid.mk ⟨fun _ => by first | assumption | omega, fun _ => by first | assumption | omega⟩) (by first | assumption | omega | (dsimp only; first | assumption | omega) | exact Hid.mk (by first | assumption | omega) | exact Hid.mk ⟨fun _ => by first | assumption | omega, fun _ => by first | assumption | omega⟩) (by first | assumption | omega | (dsimp only; first | assumption | omega) | exact Hid.mk (by first | assumption | omega) | exact Hid.mk ⟨fun _ => by first | assumption | omega, fun _ => by first | assumption | omega⟩) (by first | assumption | omega | (dsimp only; first | assumption | omega) | exact Hid.mk (by first | assumption | omega) | exact Hid.mk ⟨fun _ => by first | assumption | omega, fun _ => by first | assumption | omega⟩)) dL_law_384 k736 k737 k0 k738 hd_L_ofMonth rfl ⟨by omega, by omega⟩ (Nat.le_of_ble_eq_true rfl) ⟨by (try dsimp only); omega, by (try dsimp only); omega⟩ hS (fun x h => h.elim (fun h => h.elim (fun ⟨j, hj, e⟩ => e ▸ hu.2 j hj) (fun h => Nat.le_trans hzH.2.1 h)) (fun e => e ▸ hoθ)) (fun H7 locs hpH7 hszH7 hkH7 hS => ?_)
    obtain ⟨hcw, ho1⟩ := hpH7
    have hzH1 := hz0.at hAB hS
    have hjH1 := hj0.at hAB hS
    have hm1 := lw_cls hLX hw hzH1 hkH7
    refine lv_istore (lv' := [(5, .int (iI 1)), (4, .int (iI i)), (3, .ref o), (2, .ref (w 0)), (1, .ref (u 0)), (0, .ref b)]) hx hb dL_law_387 hl (by decide) rfl (fun ls hl => ?_)
    refine lv_aload_n hx hb dL_law_389 rfl (lv_at hl 3 rfl) ?_
    refine lv_aload_n hx hb dL_law_390 rfl (lv_at hl 5 rfl) ?_
    refine lv_iload hx hb dL_law_391 (lv_at hl 1 rfl) ?_
    refine q_con hx hb dL_law_393 ?_
    refine q_add hx hb dL_law_394 ?_
    refine r_xld hx hb hX hbl hbA hS (i := i + 1) (z := x1) (by omega) hL ex1 dL_law_395 ?_
    refine lv_aload_n hx hb dL_law_396 rfl (lv_at hl 5 rfl) ?_
    refine lv_iload hx hb dL_law_397 (lv_at hl 1 rfl) ?_
    refine q_con hx hb dL_law_399 ?_
    refine q_add hx hb dL_law_400 ?_
    refine r_xld hx hb hX hbl hbA hS (i := i + 2) (z := x2) (by omega) hL ex2 dL_law_401 ?_
    refine lv_aload_n hx hb dL_law_402 rfl (lv_at hl 5 rfl) ?_
    refine lv_iload hx hb dL_law_403 (lv_at hl 1 rfl) ?_
    refine q_con hx hb dL_law_405 ?_
    refine q_add hx hb dL_law_406 ?_
    refine r_xld hx hb hX hbl hbA hS (i := i + 3) (z := x3) (by omega) hL ex3 dL_law_407 ?_
    refine c_Vr (As := [.int (iI x1), .int (iI x2), .int (iI x3)]) (rest := []) (b := w 0) (C := RX3) (r := some (.int (iI 0))) (st1 := [.int (iI 0)]) fx hl (mno1_ofMonth θ l S0 _ w r q dt sv th bc rf kn hm1 x1 x2 x3 (by first | assumption | omega | (dsimp only; first | assumption | omega) | exact Hid.mk (by first | assumption | omega) | exact Hid.mk ⟨fun _ => by first | assumption | omega, fun _ => by first | assumption | omega⟩) (by first | assumption | omega | (dsimp only; first | assumption | omega) | exact Hid.mk (by first | assumption | omega) | exact Hid.mk ⟨fun _ => by first | assumption | omega, fun _ => by first | assumption | omega⟩) (by first | assumption | omega | (dsimp only; first | assumption | omega) | exact Hid.mk (by first | assumption | omega) | exact Hid.mk ⟨fun _ => by first | assumption | omega, fun _ => by first | assumption | omega⟩) (by first | assumption | omega | (dsimp only; first | assumption | omega) | exact Hid.mk (by first | assumption | omega) | exact Hid.mk ⟨fun _ => by first | assumption | omega, fun _ => by first | assumption | omega⟩)) (ob_recv hK hm1.2.2.1.1 rfl) dL_law_408 k1152 k1153 k1154 k6 k1155 hd_X3_ofMonth rfl rfl ⟨by omega, by omega⟩ (Nat.le_of_ble_eq_true rfl) ⟨by (try dsimp only); omega, by (try dsimp only); omega⟩ hS (wa_b hm1.2.1 hzH1.2.1) (fun H8 locs hpH8 hszH8 hkH8 hS => ?_)
    obtain ⟨r1, q1, hm2, nr, nq⟩ := hpH8
    have hzH2 := hz0.at hAB hS
    have hL2 := lw_mod hLX hzH2 hu hcw ho1 hfr hfq hm2 nr nq hkH8
    refine lv_istore (lv' := [(6, .int (iI 0)), (5, .int (iI 1)), (4, .int (iI i)), (3, .ref o), (2, .ref (w 0)), (1, .ref (u 0)), (0, .ref b)]) hx hb dL_law_411 hl (by decide) rfl (fun ls hl => ?_)
    refine lv_goto (tgt := 2331) hx hb dL_law_413 (by decide) ?_
    exact kk _ _ _ _ _ ⟨_, _, _, _, _, _, _, _, _, _, hL2⟩ hS (by omega) (by omega) (lv_sub hl [2, 3, 4, 5, 6] rfl)

set_option maxHeartbeats 4000000 in
set_option maxRecDepth 100000 in
theorem lc_copy {p : Program} {l : Launch} {e : Env} {R : Room} {s : State} {m : MethodId} {args : Array Value} {below : List Frame} {meth : Method} {c : Code} {Q : State → Prop} {θ : TH} {S0 : State} (fx : FX p m c cL_law 7 s args yL_law.cls S0) (hl0 : l.stackTraces = false) (hz0 : SZ θ S0 s.heap) (hj0 : SJ θ S0 s.heap) (hn : NX S0) {u w : Nat → Nat} {o b L : Nat} {xs : Nat → Int32} (hLX : LX u w o) (hoθ : θ.2.2.2 ≤ o) (hX : va_X b L xs s s.heap) (hbl : b < s.heap.size) (hbA : ¬ AJ θ b) (hL : L ≤ 2560) (hRF : 1000 ≤ R.frames ∧ 1000 ≤ R.locals) {H : Heap} {locs : List Loc} {cells slots : Nat} {ls : Array Slot} {i : Int} (hi : 0 ≤ i ∧ i + 5 ≤ (L : Int)) (hw : LWE θ S0 u w o H) (hS : va_S (AJ θ) s.heap H locs) (hRc : cells + 400 ≤ R.cells ∧ slots + 7000 ≤ R.slots) (hl : lv_has ls 7 [(4, .int (iI i)), (3, .ref o), (2, .ref (w 0)), (1, .ref (u 0)), (0, .ref b)]) (kk : LK p l e R s m args below meth c Q θ S0 u w o b i cells slots 2331) : W p l e R s m args below meth c H locs cells slots Q (F0 m 416 ls []) := by
  obtain ⟨hx, hb, hml, hown, hts⟩ := id fx.1
  have hAB : ∀ x : Nat, AJ θ x → θ.2.2.2 ≤ x := fun _ h => h
  obtain ⟨r, q, dt, sv, th, bc, rf, kn, nv, sv9, hw⟩ := hw
  obtain ⟨hcr, hmr, ho, hfr, hfq⟩ := id hw
  have hzH := hz0.at hAB hS
  have hjH := hj0.at hAB hS
  have hK := sz_K fx.2 hz0
  have hu := hcr.2.1
  obtain ⟨x1, ex1⟩ : ∃ z : Int, z = (xs (i + 1).toNat).toInt := ⟨_, rfl⟩
  have bx1 := x32_b ex1
  obtain ⟨x2, ex2⟩ : ∃ z : Int, z = (xs (i + 2).toNat).toInt := ⟨_, rfl⟩
  have bx2 := x32_b ex2
  by_cases hc1 : 0 ≤ x1 ∧ x1 < 6
  · by_cases hc2 : 0 ≤ x2 ∧ x2 < 6
    · refine lv_aload_n hx hb dL_law_416 rfl (lv_at hl 3 rfl) ?_
      refine lv_aload_n hx hb dL_law_417 rfl (lv_at hl 4 rfl) ?_
      refine lv_iload hx hb dL_law_418 (lv_at hl 0 rfl) ?_
      refine q_con hx hb dL_law_420 ?_
      refine q_add hx hb dL_law_421 ?_
      refine r_xld hx hb hX hbl hbA hS (i := i + 1) (z := x1) (by omega) hL ex1 dL_law_422 ?_
      refine lv_aload_n hx hb dL_law_423 rfl (lv_at hl 4 rfl) ?_
      refine lv_iload hx hb dL_law_424 (lv_at hl 0 rfl) ?_
      refine q_con hx hb dL_law_426 ?_
      refine q_add hx hb dL_law_427 ?_
      refine r_xld hx hb hX hbl hbA hS (i := i + 2) (z := x2) (by omega) hL ex2 dL_law_428 ?_
      refine lv_aload_n hx hb dL_law_429 rfl (lv_at hl 1 rfl) ?_
      refine c_SWr (As := [.ref (u 0), .int (iI x1), .int (iI x2), .ref o]) (rest := []) (r := .int (iI 0)) fx hl (wr_copy θ l hl0 S0 _ u dt (fun j => sv j 0) (fun j => sv j 1) (fun j => sv j 2) bc rf kn hcr hjH hn o nv sv9 ho hLX.1 x1 x2 (by first | assumption | omega | (dsimp only; first | assumption | omega) | exact Hid.mk (by first | assumption | omega) | exact Hid.mk ⟨fun _ => by first | assumption | omega, fun _ => by first | assumption | omega⟩) (by first | assumption | omega | (dsimp only; first | assumption | omega) | exact Hid.mk (by first | assumption | omega) | exact Hid.mk ⟨fun _ => by first | assumption | omega, fun _ => by first | assumption | omega⟩) (by first | assumption | omega | (dsimp only; first | assumption | omega) | exact Hid.mk (by first | assumption | omega) | exact Hid.mk ⟨fun _ => by first | assumption | omega, fun _ => by first | assumption | omega⟩) (by first | assumption | omega | (dsimp only; first | assumption | omega) | exact Hid.mk (by first | assumption | omega) | exact Hid.mk ⟨fun _ => by first | assumption | omega, fun _ => by first | assumption | omega⟩)) dL_law_430 k748 k749 k0 k750 hd_L_copy rfl ⟨by omega, by omega⟩ (Nat.le_of_ble_eq_true rfl) ⟨by (try dsimp only); omega, by (try dsimp only); omega⟩ hS (fun x h => h.elim (fun h => h.elim (fun ⟨j, hj, e⟩ => e ▸ hu.2 j hj) (fun h => Nat.le_trans hzH.2.1 h)) (fun e => e ▸ hoθ)) (fun H1 locs hpH1 hszH1 hkH1 hS => ?_)
      obtain ⟨hcw, ho1⟩ := hpH1
      have hzH1 := hz0.at hAB hS
      have hjH1 := hj0.at hAB hS
      have hm1 := lw_cls hLX hw hzH1 hkH1
      refine lv_istore (lv' := [(5, .int (iI 0)), (4, .int (iI i)), (3, .ref o), (2, .ref (w 0)), (1, .ref (u 0)), (0, .ref b)]) hx hb dL_law_433 hl (by decide) rfl (fun ls hl => ?_)
      refine lv_aload_n hx hb dL_law_435 rfl (lv_at hl 3 rfl) ?_
      refine lv_aload_n hx hb dL_law_436 rfl (lv_at hl 5 rfl) ?_
      refine lv_iload hx hb dL_law_437 (lv_at hl 1 rfl) ?_
      refine q_con hx hb dL_law_439 ?_
      refine q_add hx hb dL_law_440 ?_
      refine r_xld hx hb hX hbl hbA hS (i := i + 1) (z := x1) (by omega) hL ex1 dL_law_441 ?_
      refine lv_aload_n hx hb dL_law_442 rfl (lv_at hl 5 rfl) ?_
      refine lv_iload hx hb dL_law_443 (lv_at hl 1 rfl) ?_
      refine q_con hx hb dL_law_445 ?_
      refine q_add hx hb dL_law_446 ?_
      refine r_xld hx hb hX hbl hbA hS (i := i + 2) (z := x2) (by omega) hL ex2 dL_law_447 ?_
      refine c_Vr (As := [.int (iI x1), .int (iI x2)]) (rest := []) (b := w 0) (C := RX3) (r := some (.int (iI (dt x2.toNat)))) (st1 := [.int (iI (dt x2.toNat))]) fx hl (mok_copy θ l S0 _ w r q dt sv th bc rf kn hm1 x1 x2 (by first | assumption | omega | (dsimp only; first | assumption | omega) | exact Hid.mk (by first | assumption | omega) | exact Hid.mk ⟨fun _ => by first | assumption | omega, fun _ => by first | assumption | omega⟩) (by first | assumption | omega | (dsimp only; first | assumption | omega) | exact Hid.mk (by first | assumption | omega) | exact Hid.mk ⟨fun _ => by first | assumption | omega, fun _ => by first | assumption | omega⟩) (by first | assumption | omega | (dsimp only; first | assumption | omega) | exact Hid.mk (by first | assumption | omega) | exact Hid.mk ⟨fun _ => by first | assumption | omega, fun _ => by first | assumption | omega⟩) (by first | assumption | omega | (dsimp only; first | assumption | omega) | exact Hid.mk (by first | assumption | omega) | exact Hid.mk ⟨fun _ => by first | assumption | omega, fun _ => by first | assumption | omega⟩)) (ob_recv hK hm1.2.2.1.1 rfl) dL_law_448 k1158 k1159 k1160 k6 k1161 hd_X3_copy rfl rfl ⟨by omega, by omega⟩ (Nat.le_of_ble_eq_true rfl) ⟨by (try dsimp only); omega, by (try dsimp only); omega⟩ hS (wa_b hm1.2.1 hzH1.2.1) (fun H2 locs hpH2 hszH2 hkH2 hS => ?_)
      obtain ⟨r1, q1, hm2, nr, nq⟩ := hpH2
      have hzH2 := hz0.at hAB hS
      have hL2 := lw_mod hLX hzH2 hu hcw ho1 hfr hfq hm2 nr nq hkH2
      refine lv_istore (lv' := [(6, .int (iI (dt x2.toNat))), (5, .int (iI 0)), (4, .int (iI i)), (3, .ref o), (2, .ref (w 0)), (1, .ref (u 0)), (0, .ref b)]) hx hb dL_law_451 hl (by decide) rfl (fun ls hl => ?_)
      refine lv_goto (tgt := 2331) hx hb dL_law_453 (by decide) ?_
      exact kk _ _ _ _ _ ⟨_, _, _, _, _, _, _, _, _, _, hL2⟩ hS (by omega) (by omega) (lv_sub hl [2, 3, 4, 5, 6] rfl)
    · refine lv_aload_n hx hb dL_law_416 rfl (lv_at hl 3 rfl) ?_
      refine lv_aload_n hx hb dL_law_417 rfl (lv_at hl 4 rfl) ?_
      refine lv_iload hx hb dL_law_418 (lv_at hl 0 rfl) ?_
      refine q_con hx hb dL_law_420 ?_
      refine q_add hx hb dL_law_421 ?_
      refine r_xld hx hb hX hbl hbA hS (i := i + 1) (z := x1) (by omega) hL ex1 dL_law_422 ?_
      refine lv_aload_n hx hb dL_law_423 rfl (lv_at hl 4 rfl) ?_
      refine lv_iload hx hb dL_law_424 (lv_at hl 0 rfl) ?_
      refine q_con hx hb dL_law_426 ?_
      refine q_add hx hb dL_law_427 ?_
      refine r_xld hx hb hX hbl hbA hS (i := i + 2) (z := x2) (by omega) hL ex2 dL_law_428 ?_
      refine lv_aload_n hx hb dL_law_429 rfl (lv_at hl 1 rfl) ?_
      refine c_SWr (As := [.ref (u 0), .int (iI x1), .int (iI x2), .ref o]) (rest := []) (r := .int (iI 1)) fx hl (wn2_copy θ l hl0 S0 _ u dt (fun j => sv j 0) (fun j => sv j 1) (fun j => sv j 2) bc rf kn hcr hjH hn o nv sv9 ho hLX.1 x1 x2 (by first | assumption | omega | (dsimp only; first | assumption | omega) | exact Hid.mk (by first | assumption | omega) | exact Hid.mk ⟨fun _ => by first | assumption | omega, fun _ => by first | assumption | omega⟩) (by first | assumption | omega | (dsimp only; first | assumption | omega) | exact Hid.mk (by first | assumption | omega) | exact Hid.mk ⟨fun _ => by first | assumption | omega, fun _ => by first | assumption | omega⟩) (by first | assumption | omega | (dsimp only; first | assumption | omega) | exact Hid.mk (by first | assumption | omega) | exact Hid.mk ⟨fun _ => by first | assumption | omega, fun _ => by first | assumption | omega⟩) (by first | assumption | omega | (dsimp only; first | assumption | omega) | exact Hid.mk (by first | assumption | omega) | exact Hid.mk ⟨fun _ => by first | assumption | omega, fun _ => by first | assumption | omega⟩)) dL_law_430 k748 k749 k0 k750 hd_L_copy rfl ⟨by omega, by omega⟩ (Nat.le_of_ble_eq_true rfl) ⟨by (try dsimp only); omega, by (try dsimp only); omega⟩ hS (fun x h => h.elim (fun h => h.elim (fun ⟨j, hj, e⟩ => e ▸ hu.2 j hj) (fun h => Nat.le_trans hzH.2.1 h)) (fun e => e ▸ hoθ)) (fun H3 locs hpH3 hszH3 hkH3 hS => ?_)
      obtain ⟨hcw, ho1⟩ := hpH3
      have hzH1 := hz0.at hAB hS
      have hjH1 := hj0.at hAB hS
      have hm1 := lw_cls hLX hw hzH1 hkH3
      refine lv_istore (lv' := [(5, .int (iI 1)), (4, .int (iI i)), (3, .ref o), (2, .ref (w 0)), (1, .ref (u 0)), (0, .ref b)]) hx hb dL_law_433 hl (by decide) rfl (fun ls hl => ?_)
      refine lv_aload_n hx hb dL_law_435 rfl (lv_at hl 3 rfl) ?_
      refine lv_aload_n hx hb dL_law_436 rfl (lv_at hl 5 rfl) ?_
      refine lv_iload hx hb dL_law_437 (lv_at hl 1 rfl) ?_
      refine q_con hx hb dL_law_439 ?_
      refine q_add hx hb dL_law_440 ?_
      refine r_xld hx hb hX hbl hbA hS (i := i + 1) (z := x1) (by omega) hL ex1 dL_law_441 ?_
      refine lv_aload_n hx hb dL_law_442 rfl (lv_at hl 5 rfl) ?_
      refine lv_iload hx hb dL_law_443 (lv_at hl 1 rfl) ?_
      refine q_con hx hb dL_law_445 ?_
      refine q_add hx hb dL_law_446 ?_
      refine r_xld hx hb hX hbl hbA hS (i := i + 2) (z := x2) (by omega) hL ex2 dL_law_447 ?_
      refine c_Vr (As := [.int (iI x1), .int (iI x2)]) (rest := []) (b := w 0) (C := RX3) (r := some (.int (iI 0))) (st1 := [.int (iI 0)]) fx hl (mno2_copy θ l S0 _ w r q dt sv th bc rf kn hm1 x1 x2 (by first | assumption | omega | (dsimp only; first | assumption | omega) | exact Hid.mk (by first | assumption | omega) | exact Hid.mk ⟨fun _ => by first | assumption | omega, fun _ => by first | assumption | omega⟩) (by first | assumption | omega | (dsimp only; first | assumption | omega) | exact Hid.mk (by first | assumption | omega) | exact Hid.mk ⟨fun _ => by first | assumption | omega, fun _ => by first | assumption | omega⟩) (by first | assumption | omega | (dsimp only; first | assumption | omega) | exact Hid.mk (by first | assumption | omega) | exact Hid.mk ⟨fun _ => by first | assumption | omega, fun _ => by first | assumption | omega⟩) (by first | assumption | omega | (dsimp only; first | assumption | omega) | exact Hid.mk (by first | assumption | omega) | exact Hid.mk ⟨fun _ => by first | assumption | omega, fun _ => by first | assumption | omega⟩)) (ob_recv hK hm1.2.2.1.1 rfl) dL_law_448 k1158 k1159 k1160 k6 k1161 hd_X3_copy rfl rfl ⟨by omega, by omega⟩ (Nat.le_of_ble_eq_true rfl) ⟨by (try dsimp only); omega, by (try dsimp only); omega⟩ hS (wa_b hm1.2.1 hzH1.2.1) (fun H4 locs hpH4 hszH4 hkH4 hS => ?_)
      obtain ⟨r1, q1, hm2, nr, nq⟩ := hpH4
      have hzH2 := hz0.at hAB hS
      have hL2 := lw_mod hLX hzH2 hu hcw ho1 hfr hfq hm2 nr nq hkH4
      refine lv_istore (lv' := [(6, .int (iI 0)), (5, .int (iI 1)), (4, .int (iI i)), (3, .ref o), (2, .ref (w 0)), (1, .ref (u 0)), (0, .ref b)]) hx hb dL_law_451 hl (by decide) rfl (fun ls hl => ?_)
      refine lv_goto (tgt := 2331) hx hb dL_law_453 (by decide) ?_
      exact kk _ _ _ _ _ ⟨_, _, _, _, _, _, _, _, _, _, hL2⟩ hS (by omega) (by omega) (lv_sub hl [2, 3, 4, 5, 6] rfl)
  · refine lv_aload_n hx hb dL_law_416 rfl (lv_at hl 3 rfl) ?_
    refine lv_aload_n hx hb dL_law_417 rfl (lv_at hl 4 rfl) ?_
    refine lv_iload hx hb dL_law_418 (lv_at hl 0 rfl) ?_
    refine q_con hx hb dL_law_420 ?_
    refine q_add hx hb dL_law_421 ?_
    refine r_xld hx hb hX hbl hbA hS (i := i + 1) (z := x1) (by omega) hL ex1 dL_law_422 ?_
    refine lv_aload_n hx hb dL_law_423 rfl (lv_at hl 4 rfl) ?_
    refine lv_iload hx hb dL_law_424 (lv_at hl 0 rfl) ?_
    refine q_con hx hb dL_law_426 ?_
    refine q_add hx hb dL_law_427 ?_
    refine r_xld hx hb hX hbl hbA hS (i := i + 2) (z := x2) (by omega) hL ex2 dL_law_428 ?_
    refine lv_aload_n hx hb dL_law_429 rfl (lv_at hl 1 rfl) ?_
    refine c_SWr (As := [.ref (u 0), .int (iI x1), .int (iI x2), .ref o]) (rest := []) (r := .int (iI 1)) fx hl (wn1_copy θ l hl0 S0 _ u dt (fun j => sv j 0) (fun j => sv j 1) (fun j => sv j 2) bc rf kn hcr hjH hn o nv sv9 ho hLX.1 x1 x2 (by first | assumption | omega | (dsimp only; first | assumption | omega) | exact Hid.mk (by first | assumption | omega) | exact Hid.mk ⟨fun _ => by first | assumption | omega, fun _ => by first | assumption | omega⟩) (by first | assumption | omega | (dsimp only; first | assumption | omega) | exact Hid.mk (by first | assumption | omega) | exact Hid.mk ⟨fun _ => by first | assumption | omega, fun _ => by first | assumption | omega⟩) (by first | assumption | omega | (dsimp only; first | assumption | omega) | exact Hid.mk (by first | assumption | omega) | exact Hid.mk ⟨fun _ => by first | assumption | omega, fun _ => by first | assumption | omega⟩)) dL_law_430 k748 k749 k0 k750 hd_L_copy rfl ⟨by omega, by omega⟩ (Nat.le_of_ble_eq_true rfl) ⟨by (try dsimp only); omega, by (try dsimp only); omega⟩ hS (fun x h => h.elim (fun h => h.elim (fun ⟨j, hj, e⟩ => e ▸ hu.2 j hj) (fun h => Nat.le_trans hzH.2.1 h)) (fun e => e ▸ hoθ)) (fun H5 locs hpH5 hszH5 hkH5 hS => ?_)
    obtain ⟨hcw, ho1⟩ := hpH5
    have hzH1 := hz0.at hAB hS
    have hjH1 := hj0.at hAB hS
    have hm1 := lw_cls hLX hw hzH1 hkH5
    refine lv_istore (lv' := [(5, .int (iI 1)), (4, .int (iI i)), (3, .ref o), (2, .ref (w 0)), (1, .ref (u 0)), (0, .ref b)]) hx hb dL_law_433 hl (by decide) rfl (fun ls hl => ?_)
    refine lv_aload_n hx hb dL_law_435 rfl (lv_at hl 3 rfl) ?_
    refine lv_aload_n hx hb dL_law_436 rfl (lv_at hl 5 rfl) ?_
    refine lv_iload hx hb dL_law_437 (lv_at hl 1 rfl) ?_
    refine q_con hx hb dL_law_439 ?_
    refine q_add hx hb dL_law_440 ?_
    refine r_xld hx hb hX hbl hbA hS (i := i + 1) (z := x1) (by omega) hL ex1 dL_law_441 ?_
    refine lv_aload_n hx hb dL_law_442 rfl (lv_at hl 5 rfl) ?_
    refine lv_iload hx hb dL_law_443 (lv_at hl 1 rfl) ?_
    refine q_con hx hb dL_law_445 ?_
    refine q_add hx hb dL_law_446 ?_
    refine r_xld hx hb hX hbl hbA hS (i := i + 2) (z := x2) (by omega) hL ex2 dL_law_447 ?_
    refine c_Vr (As := [.int (iI x1), .int (iI x2)]) (rest := []) (b := w 0) (C := RX3) (r := some (.int (iI 0))) (st1 := [.int (iI 0)]) fx hl (mno1_copy θ l S0 _ w r q dt sv th bc rf kn hm1 x1 x2 (by first | assumption | omega | (dsimp only; first | assumption | omega) | exact Hid.mk (by first | assumption | omega) | exact Hid.mk ⟨fun _ => by first | assumption | omega, fun _ => by first | assumption | omega⟩) (by first | assumption | omega | (dsimp only; first | assumption | omega) | exact Hid.mk (by first | assumption | omega) | exact Hid.mk ⟨fun _ => by first | assumption | omega, fun _ => by first | assumption | omega⟩) (by first | assumption | omega | (dsimp only; first | assumption | omega) | exact Hid.mk (by first | assumption | omega) | exact Hid.mk ⟨fun _ => by first | assumption | omega, fun _ => by first | assumption | omega⟩)) (ob_recv hK hm1.2.2.1.1 rfl) dL_law_448 k1158 k1159 k1160 k6 k1161 hd_X3_copy rfl rfl ⟨by omega, by omega⟩ (Nat.le_of_ble_eq_true rfl) ⟨by (try dsimp only); omega, by (try dsimp only); omega⟩ hS (wa_b hm1.2.1 hzH1.2.1) (fun H6 locs hpH6 hszH6 hkH6 hS => ?_)
    obtain ⟨r1, q1, hm2, nr, nq⟩ := hpH6
    have hzH2 := hz0.at hAB hS
    have hL2 := lw_mod hLX hzH2 hu hcw ho1 hfr hfq hm2 nr nq hkH6
    refine lv_istore (lv' := [(6, .int (iI 0)), (5, .int (iI 1)), (4, .int (iI i)), (3, .ref o), (2, .ref (w 0)), (1, .ref (u 0)), (0, .ref b)]) hx hb dL_law_451 hl (by decide) rfl (fun ls hl => ?_)
    refine lv_goto (tgt := 2331) hx hb dL_law_453 (by decide) ?_
    exact kk _ _ _ _ _ ⟨_, _, _, _, _, _, _, _, _, _, hL2⟩ hS (by omega) (by omega) (lv_sub hl [2, 3, 4, 5, 6] rfl)

set_option maxHeartbeats 4000000 in
set_option maxRecDepth 100000 in
theorem lc_first {p : Program} {l : Launch} {e : Env} {R : Room} {s : State} {m : MethodId} {args : Array Value} {below : List Frame} {meth : Method} {c : Code} {Q : State → Prop} {θ : TH} {S0 : State} (fx : FX p m c cL_law 7 s args yL_law.cls S0) (hl0 : l.stackTraces = false) (hz0 : SZ θ S0 s.heap) (hj0 : SJ θ S0 s.heap) (hn : NX S0) {u w : Nat → Nat} {o b L : Nat} {xs : Nat → Int32} (hLX : LX u w o) (hoθ : θ.2.2.2 ≤ o) (hX : va_X b L xs s s.heap) (hbl : b < s.heap.size) (hbA : ¬ AJ θ b) (hL : L ≤ 2560) (hRF : 1000 ≤ R.frames ∧ 1000 ≤ R.locals) {H : Heap} {locs : List Loc} {cells slots : Nat} {ls : Array Slot} {i : Int} (hi : 0 ≤ i ∧ i + 5 ≤ (L : Int)) (hw : LWE θ S0 u w o H) (hS : va_S (AJ θ) s.heap H locs) (hRc : cells + 400 ≤ R.cells ∧ slots + 7000 ≤ R.slots) (hl : lv_has ls 7 [(4, .int (iI i)), (3, .ref o), (2, .ref (w 0)), (1, .ref (u 0)), (0, .ref b)]) (kk : LK p l e R s m args below meth c Q θ S0 u w o b i cells slots 2331) : W p l e R s m args below meth c H locs cells slots Q (F0 m 456 ls []) := by
  obtain ⟨hx, hb, hml, hown, hts⟩ := id fx.1
  have hAB : ∀ x : Nat, AJ θ x → θ.2.2.2 ≤ x := fun _ h => h
  obtain ⟨r, q, dt, sv, th, bc, rf, kn, nv, sv9, hw⟩ := hw
  obtain ⟨hcr, hmr, ho, hfr, hfq⟩ := id hw
  have hzH := hz0.at hAB hS
  have hjH := hj0.at hAB hS
  have hK := sz_K fx.2 hz0
  have hu := hcr.2.1
  obtain ⟨x1, ex1⟩ : ∃ z : Int, z = (xs (i + 1).toNat).toInt := ⟨_, rfl⟩
  have bx1 := x32_b ex1
  by_cases hc1 : 0 ≤ x1 ∧ x1 < 6
  · refine lv_aload_n hx hb dL_law_456 rfl (lv_at hl 3 rfl) ?_
    refine lv_aload_n hx hb dL_law_457 rfl (lv_at hl 4 rfl) ?_
    refine lv_iload hx hb dL_law_458 (lv_at hl 0 rfl) ?_
    refine q_con hx hb dL_law_460 ?_
    refine q_add hx hb dL_law_461 ?_
    refine r_xld hx hb hX hbl hbA hS (i := i + 1) (z := x1) (by omega) hL ex1 dL_law_462 ?_
    refine lv_aload_n hx hb dL_law_463 rfl (lv_at hl 1 rfl) ?_
    refine c_SWr (As := [.ref (u 0), .int (iI x1), .ref o]) (rest := []) (r := .int (iI 0)) fx hl (wr_first θ l hl0 S0 _ u dt (fun j => sv j 0) (fun j => sv j 1) (fun j => sv j 2) bc rf kn hcr hjH hn o nv sv9 ho hLX.1 x1 (by first | assumption | omega | (dsimp only; first | assumption | omega) | exact Hid.mk (by first | assumption | omega) | exact Hid.mk ⟨fun _ => by first | assumption | omega, fun _ => by first | assumption | omega⟩) (by first | assumption | omega | (dsimp only; first | assumption | omega) | exact Hid.mk (by first | assumption | omega) | exact Hid.mk ⟨fun _ => by first | assumption | omega, fun _ => by first | assumption | omega⟩)) dL_law_464 k755 k756 k0 k757 hd_L_first rfl ⟨by omega, by omega⟩ (Nat.le_of_ble_eq_true rfl) ⟨by (try dsimp only); omega, by (try dsimp only); omega⟩ hS (fun x h => h.elim (fun h => h.elim (fun ⟨j, hj, e⟩ => e ▸ hu.2 j hj) (fun h => Nat.le_trans hzH.2.1 h)) (fun e => e ▸ hoθ)) (fun H1 locs hpH1 hszH1 hkH1 hS => ?_)
    obtain ⟨hcw, ho1⟩ := hpH1
    have hzH1 := hz0.at hAB hS
    have hjH1 := hj0.at hAB hS
    have hm1 := lw_cls hLX hw hzH1 hkH1
    refine lv_istore (lv' := [(5, .int (iI 0)), (4, .int (iI i)), (3, .ref o), (2, .ref (w 0)), (1, .ref (u 0)), (0, .ref b)]) hx hb dL_law_467 hl (by decide) rfl (fun ls hl => ?_)
    refine lv_aload_n hx hb dL_law_469 rfl (lv_at hl 3 rfl) ?_
    refine lv_aload_n hx hb dL_law_470 rfl (lv_at hl 5 rfl) ?_
    refine lv_iload hx hb dL_law_471 (lv_at hl 1 rfl) ?_
    refine q_con hx hb dL_law_473 ?_
    refine q_add hx hb dL_law_474 ?_
    refine r_xld hx hb hX hbl hbA hS (i := i + 1) (z := x1) (by omega) hL ex1 dL_law_475 ?_
    refine c_Vr (As := [.int (iI x1)]) (rest := []) (b := w 0) (C := RX3) (r := some (.int (iI (dt x1.toNat - fI (mI (dt x1.toNat)))))) (st1 := [.int (iI (dt x1.toNat - fI (mI (dt x1.toNat))))]) fx hl (mok_first θ l S0 _ w r q dt sv th bc rf kn hm1 x1 (by first | assumption | omega | (dsimp only; first | assumption | omega) | exact Hid.mk (by first | assumption | omega) | exact Hid.mk ⟨fun _ => by first | assumption | omega, fun _ => by first | assumption | omega⟩) (by first | assumption | omega | (dsimp only; first | assumption | omega) | exact Hid.mk (by first | assumption | omega) | exact Hid.mk ⟨fun _ => by first | assumption | omega, fun _ => by first | assumption | omega⟩)) (ob_recv hK hm1.2.2.1.1 rfl) dL_law_476 k1165 k1166 k1167 k6 k1168 hd_X3_first rfl rfl ⟨by omega, by omega⟩ (Nat.le_of_ble_eq_true rfl) ⟨by (try dsimp only); omega, by (try dsimp only); omega⟩ hS (wa_b hm1.2.1 hzH1.2.1) (fun H2 locs hpH2 hszH2 hkH2 hS => ?_)
    obtain ⟨r1, q1, hm2, nr, nq⟩ := hpH2
    have hzH2 := hz0.at hAB hS
    have hL2 := lw_mod hLX hzH2 hu hcw ho1 hfr hfq hm2 nr nq hkH2
    refine q_nm (fun z3 ez3 => ?_)
    refine lv_istore (lv' := [(6, .int (iI z3)), (5, .int (iI 0)), (4, .int (iI i)), (3, .ref o), (2, .ref (w 0)), (1, .ref (u 0)), (0, .ref b)]) hx hb dL_law_479 hl (by decide) rfl (fun ls hl => ?_)
    refine lv_goto (tgt := 2331) hx hb dL_law_481 (by decide) ?_
    exact kk _ _ _ _ _ ⟨_, _, _, _, _, _, _, _, _, _, hL2⟩ hS (by omega) (by omega) (lv_sub hl [2, 3, 4, 5, 6] rfl)
  · refine lv_aload_n hx hb dL_law_456 rfl (lv_at hl 3 rfl) ?_
    refine lv_aload_n hx hb dL_law_457 rfl (lv_at hl 4 rfl) ?_
    refine lv_iload hx hb dL_law_458 (lv_at hl 0 rfl) ?_
    refine q_con hx hb dL_law_460 ?_
    refine q_add hx hb dL_law_461 ?_
    refine r_xld hx hb hX hbl hbA hS (i := i + 1) (z := x1) (by omega) hL ex1 dL_law_462 ?_
    refine lv_aload_n hx hb dL_law_463 rfl (lv_at hl 1 rfl) ?_
    refine c_SWr (As := [.ref (u 0), .int (iI x1), .ref o]) (rest := []) (r := .int (iI 1)) fx hl (wn1_first θ l hl0 S0 _ u dt (fun j => sv j 0) (fun j => sv j 1) (fun j => sv j 2) bc rf kn hcr hjH hn o nv sv9 ho hLX.1 x1 (by first | assumption | omega | (dsimp only; first | assumption | omega) | exact Hid.mk (by first | assumption | omega) | exact Hid.mk ⟨fun _ => by first | assumption | omega, fun _ => by first | assumption | omega⟩) (by first | assumption | omega | (dsimp only; first | assumption | omega) | exact Hid.mk (by first | assumption | omega) | exact Hid.mk ⟨fun _ => by first | assumption | omega, fun _ => by first | assumption | omega⟩)) dL_law_464 k755 k756 k0 k757 hd_L_first rfl ⟨by omega, by omega⟩ (Nat.le_of_ble_eq_true rfl) ⟨by (try dsimp only); omega, by (try dsimp only); omega⟩ hS (fun x h => h.elim (fun h => h.elim (fun ⟨j, hj, e⟩ => e ▸ hu.2 j hj) (fun h => Nat.le_trans hzH.2.1 h)) (fun e => e ▸ hoθ)) (fun H4 locs hpH4 hszH4 hkH4 hS => ?_)
    obtain ⟨hcw, ho1⟩ := hpH4
    have hzH1 := hz0.at hAB hS
    have hjH1 := hj0.at hAB hS
    have hm1 := lw_cls hLX hw hzH1 hkH4
    refine lv_istore (lv' := [(5, .int (iI 1)), (4, .int (iI i)), (3, .ref o), (2, .ref (w 0)), (1, .ref (u 0)), (0, .ref b)]) hx hb dL_law_467 hl (by decide) rfl (fun ls hl => ?_)
    refine lv_aload_n hx hb dL_law_469 rfl (lv_at hl 3 rfl) ?_
    refine lv_aload_n hx hb dL_law_470 rfl (lv_at hl 5 rfl) ?_
    refine lv_iload hx hb dL_law_471 (lv_at hl 1 rfl) ?_
    refine q_con hx hb dL_law_473 ?_
    refine q_add hx hb dL_law_474 ?_
    refine r_xld hx hb hX hbl hbA hS (i := i + 1) (z := x1) (by omega) hL ex1 dL_law_475 ?_
    refine c_Vr (As := [.int (iI x1)]) (rest := []) (b := w 0) (C := RX3) (r := some (.int (iI 0))) (st1 := [.int (iI 0)]) fx hl (mno1_first θ l S0 _ w r q dt sv th bc rf kn hm1 x1 (by first | assumption | omega | (dsimp only; first | assumption | omega) | exact Hid.mk (by first | assumption | omega) | exact Hid.mk ⟨fun _ => by first | assumption | omega, fun _ => by first | assumption | omega⟩) (by first | assumption | omega | (dsimp only; first | assumption | omega) | exact Hid.mk (by first | assumption | omega) | exact Hid.mk ⟨fun _ => by first | assumption | omega, fun _ => by first | assumption | omega⟩)) (ob_recv hK hm1.2.2.1.1 rfl) dL_law_476 k1165 k1166 k1167 k6 k1168 hd_X3_first rfl rfl ⟨by omega, by omega⟩ (Nat.le_of_ble_eq_true rfl) ⟨by (try dsimp only); omega, by (try dsimp only); omega⟩ hS (wa_b hm1.2.1 hzH1.2.1) (fun H5 locs hpH5 hszH5 hkH5 hS => ?_)
    obtain ⟨r1, q1, hm2, nr, nq⟩ := hpH5
    have hzH2 := hz0.at hAB hS
    have hL2 := lw_mod hLX hzH2 hu hcw ho1 hfr hfq hm2 nr nq hkH5
    refine lv_istore (lv' := [(6, .int (iI 0)), (5, .int (iI 1)), (4, .int (iI i)), (3, .ref o), (2, .ref (w 0)), (1, .ref (u 0)), (0, .ref b)]) hx hb dL_law_479 hl (by decide) rfl (fun ls hl => ?_)
    refine lv_goto (tgt := 2331) hx hb dL_law_481 (by decide) ?_
    exact kk _ _ _ _ _ ⟨_, _, _, _, _, _, _, _, _, _, hL2⟩ hS (by omega) (by omega) (lv_sub hl [2, 3, 4, 5, 6] rfl)

set_option maxHeartbeats 4000000 in
set_option maxRecDepth 100000 in
theorem lc_last {p : Program} {l : Launch} {e : Env} {R : Room} {s : State} {m : MethodId} {args : Array Value} {below : List Frame} {meth : Method} {c : Code} {Q : State → Prop} {θ : TH} {S0 : State} (fx : FX p m c cL_law 7 s args yL_law.cls S0) (hl0 : l.stackTraces = false) (hz0 : SZ θ S0 s.heap) (hj0 : SJ θ S0 s.heap) (hn : NX S0) {u w : Nat → Nat} {o b L : Nat} {xs : Nat → Int32} (hLX : LX u w o) (hoθ : θ.2.2.2 ≤ o) (hX : va_X b L xs s s.heap) (hbl : b < s.heap.size) (hbA : ¬ AJ θ b) (hL : L ≤ 2560) (hRF : 1000 ≤ R.frames ∧ 1000 ≤ R.locals) {H : Heap} {locs : List Loc} {cells slots : Nat} {ls : Array Slot} {i : Int} (hi : 0 ≤ i ∧ i + 5 ≤ (L : Int)) (hw : LWE θ S0 u w o H) (hS : va_S (AJ θ) s.heap H locs) (hRc : cells + 400 ≤ R.cells ∧ slots + 7000 ≤ R.slots) (hl : lv_has ls 7 [(4, .int (iI i)), (3, .ref o), (2, .ref (w 0)), (1, .ref (u 0)), (0, .ref b)]) (kk : LK p l e R s m args below meth c Q θ S0 u w o b i cells slots 2331) : W p l e R s m args below meth c H locs cells slots Q (F0 m 484 ls []) := by
  obtain ⟨hx, hb, hml, hown, hts⟩ := id fx.1
  have hAB : ∀ x : Nat, AJ θ x → θ.2.2.2 ≤ x := fun _ h => h
  obtain ⟨r, q, dt, sv, th, bc, rf, kn, nv, sv9, hw⟩ := hw
  obtain ⟨hcr, hmr, ho, hfr, hfq⟩ := id hw
  have hzH := hz0.at hAB hS
  have hjH := hj0.at hAB hS
  have hK := sz_K fx.2 hz0
  have hu := hcr.2.1
  obtain ⟨x1, ex1⟩ : ∃ z : Int, z = (xs (i + 1).toNat).toInt := ⟨_, rfl⟩
  have bx1 := x32_b ex1
  by_cases hc1 : 0 ≤ x1 ∧ x1 < 6
  · refine lv_aload_n hx hb dL_law_484 rfl (lv_at hl 3 rfl) ?_
    refine lv_aload_n hx hb dL_law_485 rfl (lv_at hl 4 rfl) ?_
    refine lv_iload hx hb dL_law_486 (lv_at hl 0 rfl) ?_
    refine q_con hx hb dL_law_488 ?_
    refine q_add hx hb dL_law_489 ?_
    refine r_xld hx hb hX hbl hbA hS (i := i + 1) (z := x1) (by omega) hL ex1 dL_law_490 ?_
    refine lv_aload_n hx hb dL_law_491 rfl (lv_at hl 1 rfl) ?_
    refine c_SWr (As := [.ref (u 0), .int (iI x1), .ref o]) (rest := []) (r := .int (iI 0)) fx hl (wr_last θ l hl0 S0 _ u dt (fun j => sv j 0) (fun j => sv j 1) (fun j => sv j 2) bc rf kn hcr hjH hn o nv sv9 ho hLX.1 x1 (by first | assumption | omega | (dsimp only; first | assumption | omega) | exact Hid.mk (by first | assumption | omega) | exact Hid.mk ⟨fun _ => by first | assumption | omega, fun _ => by first | assumption | omega⟩) (by first | assumption | omega | (dsimp only; first | assumption | omega) | exact Hid.mk (by first | assumption | omega) | exact Hid.mk ⟨fun _ => by first | assumption | omega, fun _ => by first | assumption | omega⟩)) dL_law_492 k762 k763 k0 k764 hd_L_last rfl ⟨by omega, by omega⟩ (Nat.le_of_ble_eq_true rfl) ⟨by (try dsimp only); omega, by (try dsimp only); omega⟩ hS (fun x h => h.elim (fun h => h.elim (fun ⟨j, hj, e⟩ => e ▸ hu.2 j hj) (fun h => Nat.le_trans hzH.2.1 h)) (fun e => e ▸ hoθ)) (fun H1 locs hpH1 hszH1 hkH1 hS => ?_)
    obtain ⟨hcw, ho1⟩ := hpH1
    have hzH1 := hz0.at hAB hS
    have hjH1 := hj0.at hAB hS
    have hm1 := lw_cls hLX hw hzH1 hkH1
    refine lv_istore (lv' := [(5, .int (iI 0)), (4, .int (iI i)), (3, .ref o), (2, .ref (w 0)), (1, .ref (u 0)), (0, .ref b)]) hx hb dL_law_495 hl (by decide) rfl (fun ls hl => ?_)
    refine lv_aload_n hx hb dL_law_497 rfl (lv_at hl 3 rfl) ?_
    refine lv_aload_n hx hb dL_law_498 rfl (lv_at hl 5 rfl) ?_
    refine lv_iload hx hb dL_law_499 (lv_at hl 1 rfl) ?_
    refine q_con hx hb dL_law_501 ?_
    refine q_add hx hb dL_law_502 ?_
    refine r_xld hx hb hX hbl hbA hS (i := i + 1) (z := x1) (by omega) hL ex1 dL_law_503 ?_
    refine c_Vr (As := [.int (iI x1)]) (rest := []) (b := w 0) (C := RX3) (r := some (.int (iI (fI (mI (dt x1.toNat) + 1) - 1 - dt x1.toNat)))) (st1 := [.int (iI (fI (mI (dt x1.toNat) + 1) - 1 - dt x1.toNat))]) fx hl (mok_last θ l S0 _ w r q dt sv th bc rf kn hm1 x1 (by first | assumption | omega | (dsimp only; first | assumption | omega) | exact Hid.mk (by first | assumption | omega) | exact Hid.mk ⟨fun _ => by first | assumption | omega, fun _ => by first | assumption | omega⟩) (by first | assumption | omega | (dsimp only; first | assumption | omega) | exact Hid.mk (by first | assumption | omega) | exact Hid.mk ⟨fun _ => by first | assumption | omega, fun _ => by first | assumption | omega⟩)) (ob_recv hK hm1.2.2.1.1 rfl) dL_law_504 k1169 k1170 k1171 k6 k1172 hd_X3_last rfl rfl ⟨by omega, by omega⟩ (Nat.le_of_ble_eq_true rfl) ⟨by (try dsimp only); omega, by (try dsimp only); omega⟩ hS (wa_b hm1.2.1 hzH1.2.1) (fun H2 locs hpH2 hszH2 hkH2 hS => ?_)
    obtain ⟨r1, q1, hm2, nr, nq⟩ := hpH2
    have hzH2 := hz0.at hAB hS
    have hL2 := lw_mod hLX hzH2 hu hcw ho1 hfr hfq hm2 nr nq hkH2
    refine q_nm (fun z3 ez3 => ?_)
    refine lv_istore (lv' := [(6, .int (iI z3)), (5, .int (iI 0)), (4, .int (iI i)), (3, .ref o), (2, .ref (w 0)), (1, .ref (u 0)), (0, .ref b)]) hx hb dL_law_507 hl (by decide) rfl (fun ls hl => ?_)
    refine lv_goto (tgt := 2331) hx hb dL_law_509 (by decide) ?_
    exact kk _ _ _ _ _ ⟨_, _, _, _, _, _, _, _, _, _, hL2⟩ hS (by omega) (by omega) (lv_sub hl [2, 3, 4, 5, 6] rfl)
  · refine lv_aload_n hx hb dL_law_484 rfl (lv_at hl 3 rfl) ?_
    refine lv_aload_n hx hb dL_law_485 rfl (lv_at hl 4 rfl) ?_
    refine lv_iload hx hb dL_law_486 (lv_at hl 0 rfl) ?_
    refine q_con hx hb dL_law_488 ?_
    refine q_add hx hb dL_law_489 ?_
    refine r_xld hx hb hX hbl hbA hS (i := i + 1) (z := x1) (by omega) hL ex1 dL_law_490 ?_
    refine lv_aload_n hx hb dL_law_491 rfl (lv_at hl 1 rfl) ?_
    refine c_SWr (As := [.ref (u 0), .int (iI x1), .ref o]) (rest := []) (r := .int (iI 1)) fx hl (wn1_last θ l hl0 S0 _ u dt (fun j => sv j 0) (fun j => sv j 1) (fun j => sv j 2) bc rf kn hcr hjH hn o nv sv9 ho hLX.1 x1 (by first | assumption | omega | (dsimp only; first | assumption | omega) | exact Hid.mk (by first | assumption | omega) | exact Hid.mk ⟨fun _ => by first | assumption | omega, fun _ => by first | assumption | omega⟩) (by first | assumption | omega | (dsimp only; first | assumption | omega) | exact Hid.mk (by first | assumption | omega) | exact Hid.mk ⟨fun _ => by first | assumption | omega, fun _ => by first | assumption | omega⟩)) dL_law_492 k762 k763 k0 k764 hd_L_last rfl ⟨by omega, by omega⟩ (Nat.le_of_ble_eq_true rfl) ⟨by (try dsimp only); omega, by (try dsimp only); omega⟩ hS (fun x h => h.elim (fun h => h.elim (fun ⟨j, hj, e⟩ => e ▸ hu.2 j hj) (fun h => Nat.le_trans hzH.2.1 h)) (fun e => e ▸ hoθ)) (fun H4 locs hpH4 hszH4 hkH4 hS => ?_)
    obtain ⟨hcw, ho1⟩ := hpH4
    have hzH1 := hz0.at hAB hS
    have hjH1 := hj0.at hAB hS
    have hm1 := lw_cls hLX hw hzH1 hkH4
    refine lv_istore (lv' := [(5, .int (iI 1)), (4, .int (iI i)), (3, .ref o), (2, .ref (w 0)), (1, .ref (u 0)), (0, .ref b)]) hx hb dL_law_495 hl (by decide) rfl (fun ls hl => ?_)
    refine lv_aload_n hx hb dL_law_497 rfl (lv_at hl 3 rfl) ?_
    refine lv_aload_n hx hb dL_law_498 rfl (lv_at hl 5 rfl) ?_
    refine lv_iload hx hb dL_law_499 (lv_at hl 1 rfl) ?_
    refine q_con hx hb dL_law_501 ?_
    refine q_add hx hb dL_law_502 ?_
    refine r_xld hx hb hX hbl hbA hS (i := i + 1) (z := x1) (by omega) hL ex1 dL_law_503 ?_
    refine c_Vr (As := [.int (iI x1)]) (rest := []) (b := w 0) (C := RX3) (r := some (.int (iI 0))) (st1 := [.int (iI 0)]) fx hl (mno1_last θ l S0 _ w r q dt sv th bc rf kn hm1 x1 (by first | assumption | omega | (dsimp only; first | assumption | omega) | exact Hid.mk (by first | assumption | omega) | exact Hid.mk ⟨fun _ => by first | assumption | omega, fun _ => by first | assumption | omega⟩) (by first | assumption | omega | (dsimp only; first | assumption | omega) | exact Hid.mk (by first | assumption | omega) | exact Hid.mk ⟨fun _ => by first | assumption | omega, fun _ => by first | assumption | omega⟩)) (ob_recv hK hm1.2.2.1.1 rfl) dL_law_504 k1169 k1170 k1171 k6 k1172 hd_X3_last rfl rfl ⟨by omega, by omega⟩ (Nat.le_of_ble_eq_true rfl) ⟨by (try dsimp only); omega, by (try dsimp only); omega⟩ hS (wa_b hm1.2.1 hzH1.2.1) (fun H5 locs hpH5 hszH5 hkH5 hS => ?_)
    obtain ⟨r1, q1, hm2, nr, nq⟩ := hpH5
    have hzH2 := hz0.at hAB hS
    have hL2 := lw_mod hLX hzH2 hu hcw ho1 hfr hfq hm2 nr nq hkH5
    refine lv_istore (lv' := [(6, .int (iI 0)), (5, .int (iI 1)), (4, .int (iI i)), (3, .ref o), (2, .ref (w 0)), (1, .ref (u 0)), (0, .ref b)]) hx hb dL_law_507 hl (by decide) rfl (fun ls hl => ?_)
    refine lv_goto (tgt := 2331) hx hb dL_law_509 (by decide) ?_
    exact kk _ _ _ _ _ ⟨_, _, _, _, _, _, _, _, _, _, hL2⟩ hS (by omega) (by omega) (lv_sub hl [2, 3, 4, 5, 6] rfl)

set_option maxHeartbeats 4000000 in
set_option maxRecDepth 100000 in
theorem lc_withDay {p : Program} {l : Launch} {e : Env} {R : Room} {s : State} {m : MethodId} {args : Array Value} {below : List Frame} {meth : Method} {c : Code} {Q : State → Prop} {θ : TH} {S0 : State} (fx : FX p m c cL_law 7 s args yL_law.cls S0) (hl0 : l.stackTraces = false) (hz0 : SZ θ S0 s.heap) (hj0 : SJ θ S0 s.heap) (hn : NX S0) {u w : Nat → Nat} {o b L : Nat} {xs : Nat → Int32} (hLX : LX u w o) (hoθ : θ.2.2.2 ≤ o) (hX : va_X b L xs s s.heap) (hbl : b < s.heap.size) (hbA : ¬ AJ θ b) (hL : L ≤ 2560) (hRF : 1000 ≤ R.frames ∧ 1000 ≤ R.locals) {H : Heap} {locs : List Loc} {cells slots : Nat} {ls : Array Slot} {i : Int} (hi : 0 ≤ i ∧ i + 5 ≤ (L : Int)) (hw : LWE θ S0 u w o H) (hS : va_S (AJ θ) s.heap H locs) (hRc : cells + 400 ≤ R.cells ∧ slots + 7000 ≤ R.slots) (hl : lv_has ls 7 [(4, .int (iI i)), (3, .ref o), (2, .ref (w 0)), (1, .ref (u 0)), (0, .ref b)]) (kk : LK p l e R s m args below meth c Q θ S0 u w o b i cells slots 2331) : W p l e R s m args below meth c H locs cells slots Q (F0 m 512 ls []) := by
  obtain ⟨hx, hb, hml, hown, hts⟩ := id fx.1
  have hAB : ∀ x : Nat, AJ θ x → θ.2.2.2 ≤ x := fun _ h => h
  obtain ⟨r, q, dt, sv, th, bc, rf, kn, nv, sv9, hw⟩ := hw
  obtain ⟨hcr, hmr, ho, hfr, hfq⟩ := id hw
  have hzH := hz0.at hAB hS
  have hjH := hj0.at hAB hS
  have hK := sz_K fx.2 hz0
  have hu := hcr.2.1
  obtain ⟨x1, ex1⟩ : ∃ z : Int, z = (xs (i + 1).toNat).toInt := ⟨_, rfl⟩
  have bx1 := x32_b ex1
  obtain ⟨x2, ex2⟩ : ∃ z : Int, z = (xs (i + 2).toNat).toInt := ⟨_, rfl⟩
  have bx2 := x32_b ex2
  by_cases hc1 : 0 ≤ x1 ∧ x1 < 6
  · by_cases hc2 : 1 ≤ x2 ∧ x2 ≤ 31
    · by_cases hc3 : x2 ≤ fI (mI (dt x1.toNat) + 1) - fI (mI (dt x1.toNat))
      · refine lv_aload_n hx hb dL_law_512 rfl (lv_at hl 3 rfl) ?_
        refine lv_aload_n hx hb dL_law_513 rfl (lv_at hl 4 rfl) ?_
        refine lv_iload hx hb dL_law_514 (lv_at hl 0 rfl) ?_
        refine q_con hx hb dL_law_516 ?_
        refine q_add hx hb dL_law_517 ?_
        refine r_xld hx hb hX hbl hbA hS (i := i + 1) (z := x1) (by omega) hL ex1 dL_law_518 ?_
        refine lv_aload_n hx hb dL_law_519 rfl (lv_at hl 4 rfl) ?_
        refine lv_iload hx hb dL_law_520 (lv_at hl 0 rfl) ?_
        refine q_con hx hb dL_law_522 ?_
        refine q_add hx hb dL_law_523 ?_
        refine r_xld hx hb hX hbl hbA hS (i := i + 2) (z := x2) (by omega) hL ex2 dL_law_524 ?_
        refine lv_aload_n hx hb dL_law_525 rfl (lv_at hl 1 rfl) ?_
        refine c_SWr (As := [.ref (u 0), .int (iI x1), .int (iI x2), .ref o]) (rest := []) (r := .int (iI 0)) fx hl (wr_withDay θ l hl0 S0 _ u dt (fun j => sv j 0) (fun j => sv j 1) (fun j => sv j 2) bc rf kn hcr hjH hn o nv sv9 ho hLX.1 x1 x2 (by first | assumption | omega | (dsimp only; first | assumption | omega) | exact Hid.mk (by first | assumption | omega) | exact Hid.mk ⟨fun _ => by first | assumption | omega, fun _ => by first | assumption | omega⟩) (by first | assumption | omega | (dsimp only; first | assumption | omega) | exact Hid.mk (by first | assumption | omega) | exact Hid.mk ⟨fun _ => by first | assumption | omega, fun _ => by first | assumption | omega⟩) (by first | assumption | omega | (dsimp only; first | assumption | omega) | exact Hid.mk (by first | assumption | omega) | exact Hid.mk ⟨fun _ => by first | assumption | omega, fun _ => by first | assumption | omega⟩) (by first | assumption | omega | (dsimp only; first | assumption | omega) | exact Hid.mk (by first | assumption | omega) | exact Hid.mk ⟨fun _ => by first | assumption | omega, fun _ => by first | assumption | omega⟩) (by first | assumption | omega | (dsimp only; first | assumption | omega) | exact Hid.mk (by first | assumption | omega) | exact Hid.mk ⟨fun _ => by first | assumption | omega, fun _ => by first | assumption | omega⟩)) dL_law_526 k769 k770 k0 k771 hd_L_withDay rfl ⟨by omega, by omega⟩ (Nat.le_of_ble_eq_true rfl) ⟨by (try dsimp only); omega, by (try dsimp only); omega⟩ hS (fun x h => h.elim (fun h => h.elim (fun ⟨j, hj, e⟩ => e ▸ hu.2 j hj) (fun h => Nat.le_trans hzH.2.1 h)) (fun e => e ▸ hoθ)) (fun H1 locs hpH1 hszH1 hkH1 hS => ?_)
        obtain ⟨hcw, ho1⟩ := hpH1
        have hzH1 := hz0.at hAB hS
        have hjH1 := hj0.at hAB hS
        have hm1 := lw_cls hLX hw hzH1 hkH1
        refine lv_istore (lv' := [(5, .int (iI 0)), (4, .int (iI i)), (3, .ref o), (2, .ref (w 0)), (1, .ref (u 0)), (0, .ref b)]) hx hb dL_law_529 hl (by decide) rfl (fun ls hl => ?_)
        refine lv_aload_n hx hb dL_law_531 rfl (lv_at hl 3 rfl) ?_
        refine lv_aload_n hx hb dL_law_532 rfl (lv_at hl 5 rfl) ?_
        refine lv_iload hx hb dL_law_533 (lv_at hl 1 rfl) ?_
        refine q_con hx hb dL_law_535 ?_
        refine q_add hx hb dL_law_536 ?_
        refine r_xld hx hb hX hbl hbA hS (i := i + 1) (z := x1) (by omega) hL ex1 dL_law_537 ?_
        refine lv_aload_n hx hb dL_law_538 rfl (lv_at hl 5 rfl) ?_
        refine lv_iload hx hb dL_law_539 (lv_at hl 1 rfl) ?_
        refine q_con hx hb dL_law_541 ?_
        refine q_add hx hb dL_law_542 ?_
        refine r_xld hx hb hX hbl hbA hS (i := i + 2) (z := x2) (by omega) hL ex2 dL_law_543 ?_
        refine c_Vr (As := [.int (iI x1), .int (iI x2)]) (rest := []) (b := w 0) (C := RX3) (r := some (.int (iI (inI (mI (dt x1.toNat)) x2)))) (st1 := [.int (iI (inI (mI (dt x1.toNat)) x2))]) fx hl (mok_withDay θ l S0 _ w r q dt sv th bc rf kn hm1 x1 x2 (by first | assumption | omega | (dsimp only; first | assumption | omega) | exact Hid.mk (by first | assumption | omega) | exact Hid.mk ⟨fun _ => by first | assumption | omega, fun _ => by first | assumption | omega⟩) (by first | assumption | omega | (dsimp only; first | assumption | omega) | exact Hid.mk (by first | assumption | omega) | exact Hid.mk ⟨fun _ => by first | assumption | omega, fun _ => by first | assumption | omega⟩) (by first | assumption | omega | (dsimp only; first | assumption | omega) | exact Hid.mk (by first | assumption | omega) | exact Hid.mk ⟨fun _ => by first | assumption | omega, fun _ => by first | assumption | omega⟩) (by first | assumption | omega | (dsimp only; first | assumption | omega) | exact Hid.mk (by first | assumption | omega) | exact Hid.mk ⟨fun _ => by first | assumption | omega, fun _ => by first | assumption | omega⟩) (by first | assumption | omega | (dsimp only; first | assumption | omega) | exact Hid.mk (by first | assumption | omega) | exact Hid.mk ⟨fun _ => by first | assumption | omega, fun _ => by first | assumption | omega⟩)) (ob_recv hK hm1.2.2.1.1 rfl) dL_law_544 k1173 k1174 k1175 k6 k1176 hd_X3_withDay rfl rfl ⟨by omega, by omega⟩ (Nat.le_of_ble_eq_true rfl) ⟨by (try dsimp only); omega, by (try dsimp only); omega⟩ hS (wa_b hm1.2.1 hzH1.2.1) (fun H2 locs hpH2 hszH2 hkH2 hS => ?_)
        obtain ⟨r1, q1, hm2, nr, nq⟩ := hpH2
        have hzH2 := hz0.at hAB hS
        have hL2 := lw_mod hLX hzH2 hu hcw ho1 hfr hfq hm2 nr nq hkH2
        refine lv_istore (lv' := [(6, .int (iI (inI (mI (dt x1.toNat)) x2))), (5, .int (iI 0)), (4, .int (iI i)), (3, .ref o), (2, .ref (w 0)), (1, .ref (u 0)), (0, .ref b)]) hx hb dL_law_547 hl (by decide) rfl (fun ls hl => ?_)
        refine lv_goto (tgt := 2331) hx hb dL_law_549 (by decide) ?_
        exact kk _ _ _ _ _ ⟨_, _, _, _, _, _, _, _, _, _, hL2⟩ hS (by omega) (by omega) (lv_sub hl [2, 3, 4, 5, 6] rfl)
      · refine lv_aload_n hx hb dL_law_512 rfl (lv_at hl 3 rfl) ?_
        refine lv_aload_n hx hb dL_law_513 rfl (lv_at hl 4 rfl) ?_
        refine lv_iload hx hb dL_law_514 (lv_at hl 0 rfl) ?_
        refine q_con hx hb dL_law_516 ?_
        refine q_add hx hb dL_law_517 ?_
        refine r_xld hx hb hX hbl hbA hS (i := i + 1) (z := x1) (by omega) hL ex1 dL_law_518 ?_
        refine lv_aload_n hx hb dL_law_519 rfl (lv_at hl 4 rfl) ?_
        refine lv_iload hx hb dL_law_520 (lv_at hl 0 rfl) ?_
        refine q_con hx hb dL_law_522 ?_
        refine q_add hx hb dL_law_523 ?_
        refine r_xld hx hb hX hbl hbA hS (i := i + 2) (z := x2) (by omega) hL ex2 dL_law_524 ?_
        refine lv_aload_n hx hb dL_law_525 rfl (lv_at hl 1 rfl) ?_
        refine c_SWr (As := [.ref (u 0), .int (iI x1), .int (iI x2), .ref o]) (rest := []) (r := .int (iI 3)) fx hl (wn3_withDay θ l hl0 S0 _ u dt (fun j => sv j 0) (fun j => sv j 1) (fun j => sv j 2) bc rf kn hcr hjH hn o nv sv9 ho hLX.1 x1 x2 (by first | assumption | omega | (dsimp only; first | assumption | omega) | exact Hid.mk (by first | assumption | omega) | exact Hid.mk ⟨fun _ => by first | assumption | omega, fun _ => by first | assumption | omega⟩) (by first | assumption | omega | (dsimp only; first | assumption | omega) | exact Hid.mk (by first | assumption | omega) | exact Hid.mk ⟨fun _ => by first | assumption | omega, fun _ => by first | assumption | omega⟩) (by first | assumption | omega | (dsimp only; first | assumption | omega) | exact Hid.mk (by first | assumption | omega) | exact Hid.mk ⟨fun _ => by first | assumption | omega, fun _ => by first | assumption | omega⟩) (by first | assumption | omega | (dsimp only; first | assumption | omega) | exact Hid.mk (by first | assumption | omega) | exact Hid.mk ⟨fun _ => by first | assumption | omega, fun _ => by first | assumption | omega⟩) (by first | assumption | omega | (dsimp only; first | assumption | omega) | exact Hid.mk (by first | assumption | omega) | exact Hid.mk ⟨fun _ => by first | assumption | omega, fun _ => by first | assumption | omega⟩)) dL_law_526 k769 k770 k0 k771 hd_L_withDay rfl ⟨by omega, by omega⟩ (Nat.le_of_ble_eq_true rfl) ⟨by (try dsimp only); omega, by (try dsimp only); omega⟩ hS (fun x h => h.elim (fun h => h.elim (fun ⟨j, hj, e⟩ => e ▸ hu.2 j hj) (fun h => Nat.le_trans hzH.2.1 h)) (fun e => e ▸ hoθ)) (fun H3 locs hpH3 hszH3 hkH3 hS => ?_)
        obtain ⟨hcw, ho1⟩ := hpH3
        have hzH1 := hz0.at hAB hS
        have hjH1 := hj0.at hAB hS
        have hm1 := lw_cls hLX hw hzH1 hkH3
        refine lv_istore (lv' := [(5, .int (iI 3)), (4, .int (iI i)), (3, .ref o), (2, .ref (w 0)), (1, .ref (u 0)), (0, .ref b)]) hx hb dL_law_529 hl (by decide) rfl (fun ls hl => ?_)
        refine lv_aload_n hx hb dL_law_531 rfl (lv_at hl 3 rfl) ?_
        refine lv_aload_n hx hb dL_law_532 rfl (lv_at hl 5 rfl) ?_
        refine lv_iload hx hb dL_law_533 (lv_at hl 1 rfl) ?_
        refine q_con hx hb dL_law_535 ?_
        refine q_add hx hb dL_law_536 ?_
        refine r_xld hx hb hX hbl hbA hS (i := i + 1) (z := x1) (by omega) hL ex1 dL_law_537 ?_
        refine lv_aload_n hx hb dL_law_538 rfl (lv_at hl 5 rfl) ?_
        refine lv_iload hx hb dL_law_539 (lv_at hl 1 rfl) ?_
        refine q_con hx hb dL_law_541 ?_
        refine q_add hx hb dL_law_542 ?_
        refine r_xld hx hb hX hbl hbA hS (i := i + 2) (z := x2) (by omega) hL ex2 dL_law_543 ?_
        refine c_Vr (As := [.int (iI x1), .int (iI x2)]) (rest := []) (b := w 0) (C := RX3) (r := some (.int (iI 0))) (st1 := [.int (iI 0)]) fx hl (mno3_withDay θ l S0 _ w r q dt sv th bc rf kn hm1 x1 x2 (by first | assumption | omega | (dsimp only; first | assumption | omega) | exact Hid.mk (by first | assumption | omega) | exact Hid.mk ⟨fun _ => by first | assumption | omega, fun _ => by first | assumption | omega⟩) (by first | assumption | omega | (dsimp only; first | assumption | omega) | exact Hid.mk (by first | assumption | omega) | exact Hid.mk ⟨fun _ => by first | assumption | omega, fun _ => by first | assumption | omega⟩) (by first | assumption | omega | (dsimp only; first | assumption | omega) | exact Hid.mk (by first | assumption | omega) | exact Hid.mk ⟨fun _ => by first | assumption | omega, fun _ => by first | assumption | omega⟩) (by first | assumption | omega | (dsimp only; first | assumption | omega) | exact Hid.mk (by first | assumption | omega) | exact Hid.mk ⟨fun _ => by first | assumption | omega, fun _ => by first | assumption | omega⟩) (by first | assumption | omega | (dsimp only; first | assumption | omega) | exact Hid.mk (by first | assumption | omega) | exact Hid.mk ⟨fun _ => by first | assumption | omega, fun _ => by first | assumption | omega⟩)) (ob_recv hK hm1.2.2.1.1 rfl) dL_law_544 k1173 k1174 k1175 k6 k1176 hd_X3_withDay rfl rfl ⟨by omega, by omega⟩ (Nat.le_of_ble_eq_true rfl) ⟨by (try dsimp only); omega, by (try dsimp only); omega⟩ hS (wa_b hm1.2.1 hzH1.2.1) (fun H4 locs hpH4 hszH4 hkH4 hS => ?_)
        obtain ⟨r1, q1, hm2, nr, nq⟩ := hpH4
        have hzH2 := hz0.at hAB hS
        have hL2 := lw_mod hLX hzH2 hu hcw ho1 hfr hfq hm2 nr nq hkH4
        refine lv_istore (lv' := [(6, .int (iI 0)), (5, .int (iI 3)), (4, .int (iI i)), (3, .ref o), (2, .ref (w 0)), (1, .ref (u 0)), (0, .ref b)]) hx hb dL_law_547 hl (by decide) rfl (fun ls hl => ?_)
        refine lv_goto (tgt := 2331) hx hb dL_law_549 (by decide) ?_
        exact kk _ _ _ _ _ ⟨_, _, _, _, _, _, _, _, _, _, hL2⟩ hS (by omega) (by omega) (lv_sub hl [2, 3, 4, 5, 6] rfl)
    · refine lv_aload_n hx hb dL_law_512 rfl (lv_at hl 3 rfl) ?_
      refine lv_aload_n hx hb dL_law_513 rfl (lv_at hl 4 rfl) ?_
      refine lv_iload hx hb dL_law_514 (lv_at hl 0 rfl) ?_
      refine q_con hx hb dL_law_516 ?_
      refine q_add hx hb dL_law_517 ?_
      refine r_xld hx hb hX hbl hbA hS (i := i + 1) (z := x1) (by omega) hL ex1 dL_law_518 ?_
      refine lv_aload_n hx hb dL_law_519 rfl (lv_at hl 4 rfl) ?_
      refine lv_iload hx hb dL_law_520 (lv_at hl 0 rfl) ?_
      refine q_con hx hb dL_law_522 ?_
      refine q_add hx hb dL_law_523 ?_
      refine r_xld hx hb hX hbl hbA hS (i := i + 2) (z := x2) (by omega) hL ex2 dL_law_524 ?_
      refine lv_aload_n hx hb dL_law_525 rfl (lv_at hl 1 rfl) ?_
      refine c_SWr (As := [.ref (u 0), .int (iI x1), .int (iI x2), .ref o]) (rest := []) (r := .int (iI 2)) fx hl (wn2_withDay θ l hl0 S0 _ u dt (fun j => sv j 0) (fun j => sv j 1) (fun j => sv j 2) bc rf kn hcr hjH hn o nv sv9 ho hLX.1 x1 x2 (by first | assumption | omega | (dsimp only; first | assumption | omega) | exact Hid.mk (by first | assumption | omega) | exact Hid.mk ⟨fun _ => by first | assumption | omega, fun _ => by first | assumption | omega⟩) (by first | assumption | omega | (dsimp only; first | assumption | omega) | exact Hid.mk (by first | assumption | omega) | exact Hid.mk ⟨fun _ => by first | assumption | omega, fun _ => by first | assumption | omega⟩) (by first | assumption | omega | (dsimp only; first | assumption | omega) | exact Hid.mk (by first | assumption | omega) | exact Hid.mk ⟨fun _ => by first | assumption | omega, fun _ => by first | assumption | omega⟩) (by first | assumption | omega | (dsimp only; first | assumption | omega) | exact Hid.mk (by first | assumption | omega) | exact Hid.mk ⟨fun _ => by first | assumption | omega, fun _ => by first | assumption | omega⟩)) dL_law_526 k769 k770 k0 k771 hd_L_withDay rfl ⟨by omega, by omega⟩ (Nat.le_of_ble_eq_true rfl) ⟨by (try dsimp only); omega, by (try dsimp only); omega⟩ hS (fun x h => h.elim (fun h => h.elim (fun ⟨j, hj, e⟩ => e ▸ hu.2 j hj) (fun h => Nat.le_trans hzH.2.1 h)) (fun e => e ▸ hoθ)) (fun H5 locs hpH5 hszH5 hkH5 hS => ?_)
      obtain ⟨hcw, ho1⟩ := hpH5
      have hzH1 := hz0.at hAB hS
      have hjH1 := hj0.at hAB hS
      have hm1 := lw_cls hLX hw hzH1 hkH5
      refine lv_istore (lv' := [(5, .int (iI 2)), (4, .int (iI i)), (3, .ref o), (2, .ref (w 0)), (1, .ref (u 0)), (0, .ref b)]) hx hb dL_law_529 hl (by decide) rfl (fun ls hl => ?_)
      refine lv_aload_n hx hb dL_law_531 rfl (lv_at hl 3 rfl) ?_
      refine lv_aload_n hx hb dL_law_532 rfl (lv_at hl 5 rfl) ?_
      refine lv_iload hx hb dL_law_533 (lv_at hl 1 rfl) ?_
      refine q_con hx hb dL_law_535 ?_
      refine q_add hx hb dL_law_536 ?_
      refine r_xld hx hb hX hbl hbA hS (i := i + 1) (z := x1) (by omega) hL ex1 dL_law_537 ?_
      refine lv_aload_n hx hb dL_law_538 rfl (lv_at hl 5 rfl) ?_
      refine lv_iload hx hb dL_law_539 (lv_at hl 1 rfl) ?_
      refine q_con hx hb dL_law_541 ?_
      refine q_add hx hb dL_law_542 ?_
      refine r_xld hx hb hX hbl hbA hS (i := i + 2) (z := x2) (by omega) hL ex2 dL_law_543 ?_
      refine c_Vr (As := [.int (iI x1), .int (iI x2)]) (rest := []) (b := w 0) (C := RX3) (r := some (.int (iI 0))) (st1 := [.int (iI 0)]) fx hl (mno2_withDay θ l S0 _ w r q dt sv th bc rf kn hm1 x1 x2 (by first | assumption | omega | (dsimp only; first | assumption | omega) | exact Hid.mk (by first | assumption | omega) | exact Hid.mk ⟨fun _ => by first | assumption | omega, fun _ => by first | assumption | omega⟩) (by first | assumption | omega | (dsimp only; first | assumption | omega) | exact Hid.mk (by first | assumption | omega) | exact Hid.mk ⟨fun _ => by first | assumption | omega, fun _ => by first | assumption | omega⟩) (by first | assumption | omega | (dsimp only; first | assumption | omega) | exact Hid.mk (by first | assumption | omega) | exact Hid.mk ⟨fun _ => by first | assumption | omega, fun _ => by first | assumption | omega⟩) (by first | assumption | omega | (dsimp only; first | assumption | omega) | exact Hid.mk (by first | assumption | omega) | exact Hid.mk ⟨fun _ => by first | assumption | omega, fun _ => by first | assumption | omega⟩)) (ob_recv hK hm1.2.2.1.1 rfl) dL_law_544 k1173 k1174 k1175 k6 k1176 hd_X3_withDay rfl rfl ⟨by omega, by omega⟩ (Nat.le_of_ble_eq_true rfl) ⟨by (try dsimp only); omega, by (try dsimp only); omega⟩ hS (wa_b hm1.2.1 hzH1.2.1) (fun H6 locs hpH6 hszH6 hkH6 hS => ?_)
      obtain ⟨r1, q1, hm2, nr, nq⟩ := hpH6
      have hzH2 := hz0.at hAB hS
      have hL2 := lw_mod hLX hzH2 hu hcw ho1 hfr hfq hm2 nr nq hkH6
      refine lv_istore (lv' := [(6, .int (iI 0)), (5, .int (iI 2)), (4, .int (iI i)), (3, .ref o), (2, .ref (w 0)), (1, .ref (u 0)), (0, .ref b)]) hx hb dL_law_547 hl (by decide) rfl (fun ls hl => ?_)
      refine lv_goto (tgt := 2331) hx hb dL_law_549 (by decide) ?_
      exact kk _ _ _ _ _ ⟨_, _, _, _, _, _, _, _, _, _, hL2⟩ hS (by omega) (by omega) (lv_sub hl [2, 3, 4, 5, 6] rfl)
  · refine lv_aload_n hx hb dL_law_512 rfl (lv_at hl 3 rfl) ?_
    refine lv_aload_n hx hb dL_law_513 rfl (lv_at hl 4 rfl) ?_
    refine lv_iload hx hb dL_law_514 (lv_at hl 0 rfl) ?_
    refine q_con hx hb dL_law_516 ?_
    refine q_add hx hb dL_law_517 ?_
    refine r_xld hx hb hX hbl hbA hS (i := i + 1) (z := x1) (by omega) hL ex1 dL_law_518 ?_
    refine lv_aload_n hx hb dL_law_519 rfl (lv_at hl 4 rfl) ?_
    refine lv_iload hx hb dL_law_520 (lv_at hl 0 rfl) ?_
    refine q_con hx hb dL_law_522 ?_
    refine q_add hx hb dL_law_523 ?_
    refine r_xld hx hb hX hbl hbA hS (i := i + 2) (z := x2) (by omega) hL ex2 dL_law_524 ?_
    refine lv_aload_n hx hb dL_law_525 rfl (lv_at hl 1 rfl) ?_
    refine c_SWr (As := [.ref (u 0), .int (iI x1), .int (iI x2), .ref o]) (rest := []) (r := .int (iI 1)) fx hl (wn1_withDay θ l hl0 S0 _ u dt (fun j => sv j 0) (fun j => sv j 1) (fun j => sv j 2) bc rf kn hcr hjH hn o nv sv9 ho hLX.1 x1 x2 (by first | assumption | omega | (dsimp only; first | assumption | omega) | exact Hid.mk (by first | assumption | omega) | exact Hid.mk ⟨fun _ => by first | assumption | omega, fun _ => by first | assumption | omega⟩) (by first | assumption | omega | (dsimp only; first | assumption | omega) | exact Hid.mk (by first | assumption | omega) | exact Hid.mk ⟨fun _ => by first | assumption | omega, fun _ => by first | assumption | omega⟩) (by first | assumption | omega | (dsimp only; first | assumption | omega) | exact Hid.mk (by first | assumption | omega) | exact Hid.mk ⟨fun _ => by first | assumption | omega, fun _ => by first | assumption | omega⟩)) dL_law_526 k769 k770 k0 k771 hd_L_withDay rfl ⟨by omega, by omega⟩ (Nat.le_of_ble_eq_true rfl) ⟨by (try dsimp only); omega, by (try dsimp only); omega⟩ hS (fun x h => h.elim (fun h => h.elim (fun ⟨j, hj, e⟩ => e ▸ hu.2 j hj) (fun h => Nat.le_trans hzH.2.1 h)) (fun e => e ▸ hoθ)) (fun H7 locs hpH7 hszH7 hkH7 hS => ?_)
    obtain ⟨hcw, ho1⟩ := hpH7
    have hzH1 := hz0.at hAB hS
    have hjH1 := hj0.at hAB hS
    have hm1 := lw_cls hLX hw hzH1 hkH7
    refine lv_istore (lv' := [(5, .int (iI 1)), (4, .int (iI i)), (3, .ref o), (2, .ref (w 0)), (1, .ref (u 0)), (0, .ref b)]) hx hb dL_law_529 hl (by decide) rfl (fun ls hl => ?_)
    refine lv_aload_n hx hb dL_law_531 rfl (lv_at hl 3 rfl) ?_
    refine lv_aload_n hx hb dL_law_532 rfl (lv_at hl 5 rfl) ?_
    refine lv_iload hx hb dL_law_533 (lv_at hl 1 rfl) ?_
    refine q_con hx hb dL_law_535 ?_
    refine q_add hx hb dL_law_536 ?_
    refine r_xld hx hb hX hbl hbA hS (i := i + 1) (z := x1) (by omega) hL ex1 dL_law_537 ?_
    refine lv_aload_n hx hb dL_law_538 rfl (lv_at hl 5 rfl) ?_
    refine lv_iload hx hb dL_law_539 (lv_at hl 1 rfl) ?_
    refine q_con hx hb dL_law_541 ?_
    refine q_add hx hb dL_law_542 ?_
    refine r_xld hx hb hX hbl hbA hS (i := i + 2) (z := x2) (by omega) hL ex2 dL_law_543 ?_
    refine c_Vr (As := [.int (iI x1), .int (iI x2)]) (rest := []) (b := w 0) (C := RX3) (r := some (.int (iI 0))) (st1 := [.int (iI 0)]) fx hl (mno1_withDay θ l S0 _ w r q dt sv th bc rf kn hm1 x1 x2 (by first | assumption | omega | (dsimp only; first | assumption | omega) | exact Hid.mk (by first | assumption | omega) | exact Hid.mk ⟨fun _ => by first | assumption | omega, fun _ => by first | assumption | omega⟩) (by first | assumption | omega | (dsimp only; first | assumption | omega) | exact Hid.mk (by first | assumption | omega) | exact Hid.mk ⟨fun _ => by first | assumption | omega, fun _ => by first | assumption | omega⟩) (by first | assumption | omega | (dsimp only; first | assumption | omega) | exact Hid.mk (by first | assumption | omega) | exact Hid.mk ⟨fun _ => by first | assumption | omega, fun _ => by first | assumption | omega⟩)) (ob_recv hK hm1.2.2.1.1 rfl) dL_law_544 k1173 k1174 k1175 k6 k1176 hd_X3_withDay rfl rfl ⟨by omega, by omega⟩ (Nat.le_of_ble_eq_true rfl) ⟨by (try dsimp only); omega, by (try dsimp only); omega⟩ hS (wa_b hm1.2.1 hzH1.2.1) (fun H8 locs hpH8 hszH8 hkH8 hS => ?_)
    obtain ⟨r1, q1, hm2, nr, nq⟩ := hpH8
    have hzH2 := hz0.at hAB hS
    have hL2 := lw_mod hLX hzH2 hu hcw ho1 hfr hfq hm2 nr nq hkH8
    refine lv_istore (lv' := [(6, .int (iI 0)), (5, .int (iI 1)), (4, .int (iI i)), (3, .ref o), (2, .ref (w 0)), (1, .ref (u 0)), (0, .ref b)]) hx hb dL_law_547 hl (by decide) rfl (fun ls hl => ?_)
    refine lv_goto (tgt := 2331) hx hb dL_law_549 (by decide) ?_
    exact kk _ _ _ _ _ ⟨_, _, _, _, _, _, _, _, _, _, hL2⟩ hS (by omega) (by omega) (lv_sub hl [2, 3, 4, 5, 6] rfl)

set_option maxHeartbeats 4000000 in
set_option maxRecDepth 100000 in
theorem lc_shift {p : Program} {l : Launch} {e : Env} {R : Room} {s : State} {m : MethodId} {args : Array Value} {below : List Frame} {meth : Method} {c : Code} {Q : State → Prop} {θ : TH} {S0 : State} (fx : FX p m c cL_law 7 s args yL_law.cls S0) (hl0 : l.stackTraces = false) (hz0 : SZ θ S0 s.heap) (hj0 : SJ θ S0 s.heap) (hn : NX S0) {u w : Nat → Nat} {o b L : Nat} {xs : Nat → Int32} (hLX : LX u w o) (hoθ : θ.2.2.2 ≤ o) (hX : va_X b L xs s s.heap) (hbl : b < s.heap.size) (hbA : ¬ AJ θ b) (hL : L ≤ 2560) (hRF : 1000 ≤ R.frames ∧ 1000 ≤ R.locals) {H : Heap} {locs : List Loc} {cells slots : Nat} {ls : Array Slot} {i : Int} (hi : 0 ≤ i ∧ i + 5 ≤ (L : Int)) (hw : LWE θ S0 u w o H) (hS : va_S (AJ θ) s.heap H locs) (hRc : cells + 400 ≤ R.cells ∧ slots + 7000 ≤ R.slots) (hl : lv_has ls 7 [(4, .int (iI i)), (3, .ref o), (2, .ref (w 0)), (1, .ref (u 0)), (0, .ref b)]) (kk : LK p l e R s m args below meth c Q θ S0 u w o b i cells slots 2331) : W p l e R s m args below meth c H locs cells slots Q (F0 m 552 ls []) := by
  obtain ⟨hx, hb, hml, hown, hts⟩ := id fx.1
  have hAB : ∀ x : Nat, AJ θ x → θ.2.2.2 ≤ x := fun _ h => h
  obtain ⟨r, q, dt, sv, th, bc, rf, kn, nv, sv9, hw⟩ := hw
  obtain ⟨hcr, hmr, ho, hfr, hfq⟩ := id hw
  have hzH := hz0.at hAB hS
  have hjH := hj0.at hAB hS
  have hK := sz_K fx.2 hz0
  have hu := hcr.2.1
  obtain ⟨x1, ex1⟩ : ∃ z : Int, z = (xs (i + 1).toNat).toInt := ⟨_, rfl⟩
  have bx1 := x32_b ex1
  obtain ⟨x2, ex2⟩ : ∃ z : Int, z = (xs (i + 2).toNat).toInt := ⟨_, rfl⟩
  have bx2 := x32_b ex2
  by_cases hc1 : 0 ≤ x1 ∧ x1 < 6
  · by_cases hc2 : -240000 ≤ x2 ∧ x2 ≤ 240000
    · by_cases hc3 : -4371587 ≤ shI (dt x1.toNat) x2 ∧ shI (dt x1.toNat) x2 ≤ 2932896
      · refine lv_aload_n hx hb dL_law_552 rfl (lv_at hl 3 rfl) ?_
        refine lv_aload_n hx hb dL_law_553 rfl (lv_at hl 4 rfl) ?_
        refine lv_iload hx hb dL_law_554 (lv_at hl 0 rfl) ?_
        refine q_con hx hb dL_law_556 ?_
        refine q_add hx hb dL_law_557 ?_
        refine r_xld hx hb hX hbl hbA hS (i := i + 1) (z := x1) (by omega) hL ex1 dL_law_558 ?_
        refine lv_aload_n hx hb dL_law_559 rfl (lv_at hl 4 rfl) ?_
        refine lv_iload hx hb dL_law_560 (lv_at hl 0 rfl) ?_
        refine q_con hx hb dL_law_562 ?_
        refine q_add hx hb dL_law_563 ?_
        refine r_xld hx hb hX hbl hbA hS (i := i + 2) (z := x2) (by omega) hL ex2 dL_law_564 ?_
        refine lv_aload_n hx hb dL_law_565 rfl (lv_at hl 1 rfl) ?_
        refine c_SWr (As := [.ref (u 0), .int (iI x1), .int (iI x2), .ref o]) (rest := []) (r := .int (iI 0)) fx hl (wr_shift θ l hl0 S0 _ u dt (fun j => sv j 0) (fun j => sv j 1) (fun j => sv j 2) bc rf kn hcr hjH hn o nv sv9 ho hLX.1 x1 x2 (by first | assumption | omega | (dsimp only; first | assumption | omega) | exact Hid.mk (by first | assumption | omega) | exact Hid.mk ⟨fun _ => by first | assumption | omega, fun _ => by first | assumption | omega⟩) (by first | assumption | omega | (dsimp only; first | assumption | omega) | exact Hid.mk (by first | assumption | omega) | exact Hid.mk ⟨fun _ => by first | assumption | omega, fun _ => by first | assumption | omega⟩) (by first | assumption | omega | (dsimp only; first | assumption | omega) | exact Hid.mk (by first | assumption | omega) | exact Hid.mk ⟨fun _ => by first | assumption | omega, fun _ => by first | assumption | omega⟩) (by first | assumption | omega | (dsimp only; first | assumption | omega) | exact Hid.mk (by first | assumption | omega) | exact Hid.mk ⟨fun _ => by first | assumption | omega, fun _ => by first | assumption | omega⟩) (by first | assumption | omega | (dsimp only; first | assumption | omega) | exact Hid.mk (by first | assumption | omega) | exact Hid.mk ⟨fun _ => by first | assumption | omega, fun _ => by first | assumption | omega⟩)) dL_law_566 k776 k777 k0 k778 hd_L_shift rfl ⟨by omega, by omega⟩ (Nat.le_of_ble_eq_true rfl) ⟨by (try dsimp only); omega, by (try dsimp only); omega⟩ hS (fun x h => h.elim (fun h => h.elim (fun ⟨j, hj, e⟩ => e ▸ hu.2 j hj) (fun h => Nat.le_trans hzH.2.1 h)) (fun e => e ▸ hoθ)) (fun H1 locs hpH1 hszH1 hkH1 hS => ?_)
        obtain ⟨hcw, ho1⟩ := hpH1
        have hzH1 := hz0.at hAB hS
        have hjH1 := hj0.at hAB hS
        have hm1 := lw_cls hLX hw hzH1 hkH1
        refine lv_istore (lv' := [(5, .int (iI 0)), (4, .int (iI i)), (3, .ref o), (2, .ref (w 0)), (1, .ref (u 0)), (0, .ref b)]) hx hb dL_law_569 hl (by decide) rfl (fun ls hl => ?_)
        refine lv_aload_n hx hb dL_law_571 rfl (lv_at hl 3 rfl) ?_
        refine lv_aload_n hx hb dL_law_572 rfl (lv_at hl 5 rfl) ?_
        refine lv_iload hx hb dL_law_573 (lv_at hl 1 rfl) ?_
        refine q_con hx hb dL_law_575 ?_
        refine q_add hx hb dL_law_576 ?_
        refine r_xld hx hb hX hbl hbA hS (i := i + 1) (z := x1) (by omega) hL ex1 dL_law_577 ?_
        refine lv_aload_n hx hb dL_law_578 rfl (lv_at hl 5 rfl) ?_
        refine lv_iload hx hb dL_law_579 (lv_at hl 1 rfl) ?_
        refine q_con hx hb dL_law_581 ?_
        refine q_add hx hb dL_law_582 ?_
        refine r_xld hx hb hX hbl hbA hS (i := i + 2) (z := x2) (by omega) hL ex2 dL_law_583 ?_
        refine c_Vr (As := [.int (iI x1), .int (iI x2)]) (rest := []) (b := w 0) (C := RX3) (r := some (.int (iI (dI (shI (dt x1.toNat) x2))))) (st1 := [.int (iI (dI (shI (dt x1.toNat) x2)))]) fx hl (mok_shift θ l S0 _ w r q dt sv th bc rf kn hm1 x1 x2 (by first | assumption | omega | (dsimp only; first | assumption | omega) | exact Hid.mk (by first | assumption | omega) | exact Hid.mk ⟨fun _ => by first | assumption | omega, fun _ => by first | assumption | omega⟩) (by first | assumption | omega | (dsimp only; first | assumption | omega) | exact Hid.mk (by first | assumption | omega) | exact Hid.mk ⟨fun _ => by first | assumption | omega, fun _ => by first | assumption | omega⟩) (by first | assumption | omega | (dsimp only; first | assumption | omega) | exact Hid.mk (by first | assumption | omega) | exact Hid.mk ⟨fun _ => by first | assumption | omega, fun _ => by first | assumption | omega⟩) (by first | assumption | omega | (dsimp only; first | assumption | omega) | exact Hid.mk (by first | assumption | omega) | exact Hid.mk ⟨fun _ => by first | assumption | omega, fun _ => by first | assumption | omega⟩) (by first | assumption | omega | (dsimp only; first | assumption | omega) | exact Hid.mk (by first | assumption | omega) | exact Hid.mk ⟨fun _ => by first | assumption | omega, fun _ => by first | assumption | omega⟩)) (ob_recv hK hm1.2.2.1.1 rfl) dL_law_584 k1177 k1178 k1179 k6 k1180 hd_X3_shift rfl rfl ⟨by omega, by omega⟩ (Nat.le_of_ble_eq_true rfl) ⟨by (try dsimp only); omega, by (try dsimp only); omega⟩ hS (wa_b hm1.2.1 hzH1.2.1) (fun H2 locs hpH2 hszH2 hkH2 hS => ?_)
        obtain ⟨r1, q1, hm2, nr, nq⟩ := hpH2
        have hzH2 := hz0.at hAB hS
        have hL2 := lw_mod hLX hzH2 hu hcw ho1 hfr hfq hm2 nr nq hkH2
        refine lv_istore (lv' := [(6, .int (iI (dI (shI (dt x1.toNat) x2)))), (5, .int (iI 0)), (4, .int (iI i)), (3, .ref o), (2, .ref (w 0)), (1, .ref (u 0)), (0, .ref b)]) hx hb dL_law_587 hl (by decide) rfl (fun ls hl => ?_)
        refine lv_goto (tgt := 2331) hx hb dL_law_589 (by decide) ?_
        exact kk _ _ _ _ _ ⟨_, _, _, _, _, _, _, _, _, _, hL2⟩ hS (by omega) (by omega) (lv_sub hl [2, 3, 4, 5, 6] rfl)
      · refine lv_aload_n hx hb dL_law_552 rfl (lv_at hl 3 rfl) ?_
        refine lv_aload_n hx hb dL_law_553 rfl (lv_at hl 4 rfl) ?_
        refine lv_iload hx hb dL_law_554 (lv_at hl 0 rfl) ?_
        refine q_con hx hb dL_law_556 ?_
        refine q_add hx hb dL_law_557 ?_
        refine r_xld hx hb hX hbl hbA hS (i := i + 1) (z := x1) (by omega) hL ex1 dL_law_558 ?_
        refine lv_aload_n hx hb dL_law_559 rfl (lv_at hl 4 rfl) ?_
        refine lv_iload hx hb dL_law_560 (lv_at hl 0 rfl) ?_
        refine q_con hx hb dL_law_562 ?_
        refine q_add hx hb dL_law_563 ?_
        refine r_xld hx hb hX hbl hbA hS (i := i + 2) (z := x2) (by omega) hL ex2 dL_law_564 ?_
        refine lv_aload_n hx hb dL_law_565 rfl (lv_at hl 1 rfl) ?_
        refine c_SWr (As := [.ref (u 0), .int (iI x1), .int (iI x2), .ref o]) (rest := []) (r := .int (iI 3)) fx hl (wn3_shift θ l hl0 S0 _ u dt (fun j => sv j 0) (fun j => sv j 1) (fun j => sv j 2) bc rf kn hcr hjH hn o nv sv9 ho hLX.1 x1 x2 (by first | assumption | omega | (dsimp only; first | assumption | omega) | exact Hid.mk (by first | assumption | omega) | exact Hid.mk ⟨fun _ => by first | assumption | omega, fun _ => by first | assumption | omega⟩) (by first | assumption | omega | (dsimp only; first | assumption | omega) | exact Hid.mk (by first | assumption | omega) | exact Hid.mk ⟨fun _ => by first | assumption | omega, fun _ => by first | assumption | omega⟩) (by first | assumption | omega | (dsimp only; first | assumption | omega) | exact Hid.mk (by first | assumption | omega) | exact Hid.mk ⟨fun _ => by first | assumption | omega, fun _ => by first | assumption | omega⟩) (by first | assumption | omega | (dsimp only; first | assumption | omega) | exact Hid.mk (by first | assumption | omega) | exact Hid.mk ⟨fun _ => by first | assumption | omega, fun _ => by first | assumption | omega⟩) (by first | assumption | omega | (dsimp only; first | assumption | omega) | exact Hid.mk (by first | assumption | omega) | exact Hid.mk ⟨fun _ => by first | assumption | omega, fun _ => by first | assumption | omega⟩)) dL_law_566 k776 k777 k0 k778 hd_L_shift rfl ⟨by omega, by omega⟩ (Nat.le_of_ble_eq_true rfl) ⟨by (try dsimp only); omega, by (try dsimp only); omega⟩ hS (fun x h => h.elim (fun h => h.elim (fun ⟨j, hj, e⟩ => e ▸ hu.2 j hj) (fun h => Nat.le_trans hzH.2.1 h)) (fun e => e ▸ hoθ)) (fun H3 locs hpH3 hszH3 hkH3 hS => ?_)
        obtain ⟨hcw, ho1⟩ := hpH3
        have hzH1 := hz0.at hAB hS
        have hjH1 := hj0.at hAB hS
        have hm1 := lw_cls hLX hw hzH1 hkH3
        refine lv_istore (lv' := [(5, .int (iI 3)), (4, .int (iI i)), (3, .ref o), (2, .ref (w 0)), (1, .ref (u 0)), (0, .ref b)]) hx hb dL_law_569 hl (by decide) rfl (fun ls hl => ?_)
        refine lv_aload_n hx hb dL_law_571 rfl (lv_at hl 3 rfl) ?_
        refine lv_aload_n hx hb dL_law_572 rfl (lv_at hl 5 rfl) ?_
        refine lv_iload hx hb dL_law_573 (lv_at hl 1 rfl) ?_
        refine q_con hx hb dL_law_575 ?_
        refine q_add hx hb dL_law_576 ?_
        refine r_xld hx hb hX hbl hbA hS (i := i + 1) (z := x1) (by omega) hL ex1 dL_law_577 ?_
        refine lv_aload_n hx hb dL_law_578 rfl (lv_at hl 5 rfl) ?_
        refine lv_iload hx hb dL_law_579 (lv_at hl 1 rfl) ?_
        refine q_con hx hb dL_law_581 ?_
        refine q_add hx hb dL_law_582 ?_
        refine r_xld hx hb hX hbl hbA hS (i := i + 2) (z := x2) (by omega) hL ex2 dL_law_583 ?_
        refine c_Vr (As := [.int (iI x1), .int (iI x2)]) (rest := []) (b := w 0) (C := RX3) (r := some (.int (iI 0))) (st1 := [.int (iI 0)]) fx hl (mno3_shift θ l S0 _ w r q dt sv th bc rf kn hm1 x1 x2 (by first | assumption | omega | (dsimp only; first | assumption | omega) | exact Hid.mk (by first | assumption | omega) | exact Hid.mk ⟨fun _ => by first | assumption | omega, fun _ => by first | assumption | omega⟩) (by first | assumption | omega | (dsimp only; first | assumption | omega) | exact Hid.mk (by first | assumption | omega) | exact Hid.mk ⟨fun _ => by first | assumption | omega, fun _ => by first | assumption | omega⟩) (by first | assumption | omega | (dsimp only; first | assumption | omega) | exact Hid.mk (by first | assumption | omega) | exact Hid.mk ⟨fun _ => by first | assumption | omega, fun _ => by first | assumption | omega⟩) (by first | assumption | omega | (dsimp only; first | assumption | omega) | exact Hid.mk (by first | assumption | omega) | exact Hid.mk ⟨fun _ => by first | assumption | omega, fun _ => by first | assumption | omega⟩) (by first | assumption | omega | (dsimp only; first | assumption | omega) | exact Hid.mk (by first | assumption | omega) | exact Hid.mk ⟨fun _ => by first | assumption | omega, fun _ => by first | assumption | omega⟩)) (ob_recv hK hm1.2.2.1.1 rfl) dL_law_584 k1177 k1178 k1179 k6 k1180 hd_X3_shift rfl rfl ⟨by omega, by omega⟩ (Nat.le_of_ble_eq_true rfl) ⟨by (try dsimp only); omega, by (try dsimp only); omega⟩ hS (wa_b hm1.2.1 hzH1.2.1) (fun H4 locs hpH4 hszH4 hkH4 hS => ?_)
        obtain ⟨r1, q1, hm2, nr, nq⟩ := hpH4
        have hzH2 := hz0.at hAB hS
        have hL2 := lw_mod hLX hzH2 hu hcw ho1 hfr hfq hm2 nr nq hkH4
        refine lv_istore (lv' := [(6, .int (iI 0)), (5, .int (iI 3)), (4, .int (iI i)), (3, .ref o), (2, .ref (w 0)), (1, .ref (u 0)), (0, .ref b)]) hx hb dL_law_587 hl (by decide) rfl (fun ls hl => ?_)
        refine lv_goto (tgt := 2331) hx hb dL_law_589 (by decide) ?_
        exact kk _ _ _ _ _ ⟨_, _, _, _, _, _, _, _, _, _, hL2⟩ hS (by omega) (by omega) (lv_sub hl [2, 3, 4, 5, 6] rfl)
    · refine lv_aload_n hx hb dL_law_552 rfl (lv_at hl 3 rfl) ?_
      refine lv_aload_n hx hb dL_law_553 rfl (lv_at hl 4 rfl) ?_
      refine lv_iload hx hb dL_law_554 (lv_at hl 0 rfl) ?_
      refine q_con hx hb dL_law_556 ?_
      refine q_add hx hb dL_law_557 ?_
      refine r_xld hx hb hX hbl hbA hS (i := i + 1) (z := x1) (by omega) hL ex1 dL_law_558 ?_
      refine lv_aload_n hx hb dL_law_559 rfl (lv_at hl 4 rfl) ?_
      refine lv_iload hx hb dL_law_560 (lv_at hl 0 rfl) ?_
      refine q_con hx hb dL_law_562 ?_
      refine q_add hx hb dL_law_563 ?_
      refine r_xld hx hb hX hbl hbA hS (i := i + 2) (z := x2) (by omega) hL ex2 dL_law_564 ?_
      refine lv_aload_n hx hb dL_law_565 rfl (lv_at hl 1 rfl) ?_
      refine c_SWr (As := [.ref (u 0), .int (iI x1), .int (iI x2), .ref o]) (rest := []) (r := .int (iI 2)) fx hl (wn2_shift θ l hl0 S0 _ u dt (fun j => sv j 0) (fun j => sv j 1) (fun j => sv j 2) bc rf kn hcr hjH hn o nv sv9 ho hLX.1 x1 x2 (by first | assumption | omega | (dsimp only; first | assumption | omega) | exact Hid.mk (by first | assumption | omega) | exact Hid.mk ⟨fun _ => by first | assumption | omega, fun _ => by first | assumption | omega⟩) (by first | assumption | omega | (dsimp only; first | assumption | omega) | exact Hid.mk (by first | assumption | omega) | exact Hid.mk ⟨fun _ => by first | assumption | omega, fun _ => by first | assumption | omega⟩) (by first | assumption | omega | (dsimp only; first | assumption | omega) | exact Hid.mk (by first | assumption | omega) | exact Hid.mk ⟨fun _ => by first | assumption | omega, fun _ => by first | assumption | omega⟩) (by first | assumption | omega | (dsimp only; first | assumption | omega) | exact Hid.mk (by first | assumption | omega) | exact Hid.mk ⟨fun _ => by first | assumption | omega, fun _ => by first | assumption | omega⟩)) dL_law_566 k776 k777 k0 k778 hd_L_shift rfl ⟨by omega, by omega⟩ (Nat.le_of_ble_eq_true rfl) ⟨by (try dsimp only); omega, by (try dsimp only); omega⟩ hS (fun x h => h.elim (fun h => h.elim (fun ⟨j, hj, e⟩ => e ▸ hu.2 j hj) (fun h => Nat.le_trans hzH.2.1 h)) (fun e => e ▸ hoθ)) (fun H5 locs hpH5 hszH5 hkH5 hS => ?_)
      obtain ⟨hcw, ho1⟩ := hpH5
      have hzH1 := hz0.at hAB hS
      have hjH1 := hj0.at hAB hS
      have hm1 := lw_cls hLX hw hzH1 hkH5
      refine lv_istore (lv' := [(5, .int (iI 2)), (4, .int (iI i)), (3, .ref o), (2, .ref (w 0)), (1, .ref (u 0)), (0, .ref b)]) hx hb dL_law_569 hl (by decide) rfl (fun ls hl => ?_)
      refine lv_aload_n hx hb dL_law_571 rfl (lv_at hl 3 rfl) ?_
      refine lv_aload_n hx hb dL_law_572 rfl (lv_at hl 5 rfl) ?_
      refine lv_iload hx hb dL_law_573 (lv_at hl 1 rfl) ?_
      refine q_con hx hb dL_law_575 ?_
      refine q_add hx hb dL_law_576 ?_
      refine r_xld hx hb hX hbl hbA hS (i := i + 1) (z := x1) (by omega) hL ex1 dL_law_577 ?_
      refine lv_aload_n hx hb dL_law_578 rfl (lv_at hl 5 rfl) ?_
      refine lv_iload hx hb dL_law_579 (lv_at hl 1 rfl) ?_
      refine q_con hx hb dL_law_581 ?_
      refine q_add hx hb dL_law_582 ?_
      refine r_xld hx hb hX hbl hbA hS (i := i + 2) (z := x2) (by omega) hL ex2 dL_law_583 ?_
      refine c_Vr (As := [.int (iI x1), .int (iI x2)]) (rest := []) (b := w 0) (C := RX3) (r := some (.int (iI 0))) (st1 := [.int (iI 0)]) fx hl (mno2_shift θ l S0 _ w r q dt sv th bc rf kn hm1 x1 x2 (by first | assumption | omega | (dsimp only; first | assumption | omega) | exact Hid.mk (by first | assumption | omega) | exact Hid.mk ⟨fun _ => by first | assumption | omega, fun _ => by first | assumption | omega⟩) (by first | assumption | omega | (dsimp only; first | assumption | omega) | exact Hid.mk (by first | assumption | omega) | exact Hid.mk ⟨fun _ => by first | assumption | omega, fun _ => by first | assumption | omega⟩) (by first | assumption | omega | (dsimp only; first | assumption | omega) | exact Hid.mk (by first | assumption | omega) | exact Hid.mk ⟨fun _ => by first | assumption | omega, fun _ => by first | assumption | omega⟩) (by first | assumption | omega | (dsimp only; first | assumption | omega) | exact Hid.mk (by first | assumption | omega) | exact Hid.mk ⟨fun _ => by first | assumption | omega, fun _ => by first | assumption | omega⟩)) (ob_recv hK hm1.2.2.1.1 rfl) dL_law_584 k1177 k1178 k1179 k6 k1180 hd_X3_shift rfl rfl ⟨by omega, by omega⟩ (Nat.le_of_ble_eq_true rfl) ⟨by (try dsimp only); omega, by (try dsimp only); omega⟩ hS (wa_b hm1.2.1 hzH1.2.1) (fun H6 locs hpH6 hszH6 hkH6 hS => ?_)
      obtain ⟨r1, q1, hm2, nr, nq⟩ := hpH6
      have hzH2 := hz0.at hAB hS
      have hL2 := lw_mod hLX hzH2 hu hcw ho1 hfr hfq hm2 nr nq hkH6
      refine lv_istore (lv' := [(6, .int (iI 0)), (5, .int (iI 2)), (4, .int (iI i)), (3, .ref o), (2, .ref (w 0)), (1, .ref (u 0)), (0, .ref b)]) hx hb dL_law_587 hl (by decide) rfl (fun ls hl => ?_)
      refine lv_goto (tgt := 2331) hx hb dL_law_589 (by decide) ?_
      exact kk _ _ _ _ _ ⟨_, _, _, _, _, _, _, _, _, _, hL2⟩ hS (by omega) (by omega) (lv_sub hl [2, 3, 4, 5, 6] rfl)
  · refine lv_aload_n hx hb dL_law_552 rfl (lv_at hl 3 rfl) ?_
    refine lv_aload_n hx hb dL_law_553 rfl (lv_at hl 4 rfl) ?_
    refine lv_iload hx hb dL_law_554 (lv_at hl 0 rfl) ?_
    refine q_con hx hb dL_law_556 ?_
    refine q_add hx hb dL_law_557 ?_
    refine r_xld hx hb hX hbl hbA hS (i := i + 1) (z := x1) (by omega) hL ex1 dL_law_558 ?_
    refine lv_aload_n hx hb dL_law_559 rfl (lv_at hl 4 rfl) ?_
    refine lv_iload hx hb dL_law_560 (lv_at hl 0 rfl) ?_
    refine q_con hx hb dL_law_562 ?_
    refine q_add hx hb dL_law_563 ?_
    refine r_xld hx hb hX hbl hbA hS (i := i + 2) (z := x2) (by omega) hL ex2 dL_law_564 ?_
    refine lv_aload_n hx hb dL_law_565 rfl (lv_at hl 1 rfl) ?_
    refine c_SWr (As := [.ref (u 0), .int (iI x1), .int (iI x2), .ref o]) (rest := []) (r := .int (iI 1)) fx hl (wn1_shift θ l hl0 S0 _ u dt (fun j => sv j 0) (fun j => sv j 1) (fun j => sv j 2) bc rf kn hcr hjH hn o nv sv9 ho hLX.1 x1 x2 (by first | assumption | omega | (dsimp only; first | assumption | omega) | exact Hid.mk (by first | assumption | omega) | exact Hid.mk ⟨fun _ => by first | assumption | omega, fun _ => by first | assumption | omega⟩) (by first | assumption | omega | (dsimp only; first | assumption | omega) | exact Hid.mk (by first | assumption | omega) | exact Hid.mk ⟨fun _ => by first | assumption | omega, fun _ => by first | assumption | omega⟩) (by first | assumption | omega | (dsimp only; first | assumption | omega) | exact Hid.mk (by first | assumption | omega) | exact Hid.mk ⟨fun _ => by first | assumption | omega, fun _ => by first | assumption | omega⟩)) dL_law_566 k776 k777 k0 k778 hd_L_shift rfl ⟨by omega, by omega⟩ (Nat.le_of_ble_eq_true rfl) ⟨by (try dsimp only); omega, by (try dsimp only); omega⟩ hS (fun x h => h.elim (fun h => h.elim (fun ⟨j, hj, e⟩ => e ▸ hu.2 j hj) (fun h => Nat.le_trans hzH.2.1 h)) (fun e => e ▸ hoθ)) (fun H7 locs hpH7 hszH7 hkH7 hS => ?_)
    obtain ⟨hcw, ho1⟩ := hpH7
    have hzH1 := hz0.at hAB hS
    have hjH1 := hj0.at hAB hS
    have hm1 := lw_cls hLX hw hzH1 hkH7
    refine lv_istore (lv' := [(5, .int (iI 1)), (4, .int (iI i)), (3, .ref o), (2, .ref (w 0)), (1, .ref (u 0)), (0, .ref b)]) hx hb dL_law_569 hl (by decide) rfl (fun ls hl => ?_)
    refine lv_aload_n hx hb dL_law_571 rfl (lv_at hl 3 rfl) ?_
    refine lv_aload_n hx hb dL_law_572 rfl (lv_at hl 5 rfl) ?_
    refine lv_iload hx hb dL_law_573 (lv_at hl 1 rfl) ?_
    refine q_con hx hb dL_law_575 ?_
    refine q_add hx hb dL_law_576 ?_
    refine r_xld hx hb hX hbl hbA hS (i := i + 1) (z := x1) (by omega) hL ex1 dL_law_577 ?_
    refine lv_aload_n hx hb dL_law_578 rfl (lv_at hl 5 rfl) ?_
    refine lv_iload hx hb dL_law_579 (lv_at hl 1 rfl) ?_
    refine q_con hx hb dL_law_581 ?_
    refine q_add hx hb dL_law_582 ?_
    refine r_xld hx hb hX hbl hbA hS (i := i + 2) (z := x2) (by omega) hL ex2 dL_law_583 ?_
    refine c_Vr (As := [.int (iI x1), .int (iI x2)]) (rest := []) (b := w 0) (C := RX3) (r := some (.int (iI 0))) (st1 := [.int (iI 0)]) fx hl (mno1_shift θ l S0 _ w r q dt sv th bc rf kn hm1 x1 x2 (by first | assumption | omega | (dsimp only; first | assumption | omega) | exact Hid.mk (by first | assumption | omega) | exact Hid.mk ⟨fun _ => by first | assumption | omega, fun _ => by first | assumption | omega⟩) (by first | assumption | omega | (dsimp only; first | assumption | omega) | exact Hid.mk (by first | assumption | omega) | exact Hid.mk ⟨fun _ => by first | assumption | omega, fun _ => by first | assumption | omega⟩) (by first | assumption | omega | (dsimp only; first | assumption | omega) | exact Hid.mk (by first | assumption | omega) | exact Hid.mk ⟨fun _ => by first | assumption | omega, fun _ => by first | assumption | omega⟩)) (ob_recv hK hm1.2.2.1.1 rfl) dL_law_584 k1177 k1178 k1179 k6 k1180 hd_X3_shift rfl rfl ⟨by omega, by omega⟩ (Nat.le_of_ble_eq_true rfl) ⟨by (try dsimp only); omega, by (try dsimp only); omega⟩ hS (wa_b hm1.2.1 hzH1.2.1) (fun H8 locs hpH8 hszH8 hkH8 hS => ?_)
    obtain ⟨r1, q1, hm2, nr, nq⟩ := hpH8
    have hzH2 := hz0.at hAB hS
    have hL2 := lw_mod hLX hzH2 hu hcw ho1 hfr hfq hm2 nr nq hkH8
    refine lv_istore (lv' := [(6, .int (iI 0)), (5, .int (iI 1)), (4, .int (iI i)), (3, .ref o), (2, .ref (w 0)), (1, .ref (u 0)), (0, .ref b)]) hx hb dL_law_587 hl (by decide) rfl (fun ls hl => ?_)
    refine lv_goto (tgt := 2331) hx hb dL_law_589 (by decide) ?_
    exact kk _ _ _ _ _ ⟨_, _, _, _, _, _, _, _, _, _, hL2⟩ hS (by omega) (by omega) (lv_sub hl [2, 3, 4, 5, 6] rfl)

set_option maxHeartbeats 4000000 in
set_option maxRecDepth 100000 in
theorem lc_shiftYears {p : Program} {l : Launch} {e : Env} {R : Room} {s : State} {m : MethodId} {args : Array Value} {below : List Frame} {meth : Method} {c : Code} {Q : State → Prop} {θ : TH} {S0 : State} (fx : FX p m c cL_law 7 s args yL_law.cls S0) (hl0 : l.stackTraces = false) (hz0 : SZ θ S0 s.heap) (hj0 : SJ θ S0 s.heap) (hn : NX S0) {u w : Nat → Nat} {o b L : Nat} {xs : Nat → Int32} (hLX : LX u w o) (hoθ : θ.2.2.2 ≤ o) (hX : va_X b L xs s s.heap) (hbl : b < s.heap.size) (hbA : ¬ AJ θ b) (hL : L ≤ 2560) (hRF : 1000 ≤ R.frames ∧ 1000 ≤ R.locals) {H : Heap} {locs : List Loc} {cells slots : Nat} {ls : Array Slot} {i : Int} (hi : 0 ≤ i ∧ i + 5 ≤ (L : Int)) (hw : LWE θ S0 u w o H) (hS : va_S (AJ θ) s.heap H locs) (hRc : cells + 400 ≤ R.cells ∧ slots + 7000 ≤ R.slots) (hl : lv_has ls 7 [(4, .int (iI i)), (3, .ref o), (2, .ref (w 0)), (1, .ref (u 0)), (0, .ref b)]) (kk : LK p l e R s m args below meth c Q θ S0 u w o b i cells slots 2331) : W p l e R s m args below meth c H locs cells slots Q (F0 m 592 ls []) := by
  obtain ⟨hx, hb, hml, hown, hts⟩ := id fx.1
  have hAB : ∀ x : Nat, AJ θ x → θ.2.2.2 ≤ x := fun _ h => h
  obtain ⟨r, q, dt, sv, th, bc, rf, kn, nv, sv9, hw⟩ := hw
  obtain ⟨hcr, hmr, ho, hfr, hfq⟩ := id hw
  have hzH := hz0.at hAB hS
  have hjH := hj0.at hAB hS
  have hK := sz_K fx.2 hz0
  have hu := hcr.2.1
  obtain ⟨x1, ex1⟩ : ∃ z : Int, z = (xs (i + 1).toNat).toInt := ⟨_, rfl⟩
  have bx1 := x32_b ex1
  obtain ⟨x2, ex2⟩ : ∃ z : Int, z = (xs (i + 2).toNat).toInt := ⟨_, rfl⟩
  have bx2 := x32_b ex2
  by_cases hc1 : 0 ≤ x1 ∧ x1 < 6
  · by_cases hc2 : -20000 ≤ x2 ∧ x2 ≤ 20000
    · by_cases hc3 : -4371587 ≤ shI (dt x1.toNat) (12 * x2) ∧ shI (dt x1.toNat) (12 * x2) ≤ 2932896
      · refine lv_aload_n hx hb dL_law_592 rfl (lv_at hl 3 rfl) ?_
        refine lv_aload_n hx hb dL_law_593 rfl (lv_at hl 4 rfl) ?_
        refine lv_iload hx hb dL_law_594 (lv_at hl 0 rfl) ?_
        refine q_con hx hb dL_law_596 ?_
        refine q_add hx hb dL_law_597 ?_
        refine r_xld hx hb hX hbl hbA hS (i := i + 1) (z := x1) (by omega) hL ex1 dL_law_598 ?_
        refine lv_aload_n hx hb dL_law_599 rfl (lv_at hl 4 rfl) ?_
        refine lv_iload hx hb dL_law_600 (lv_at hl 0 rfl) ?_
        refine q_con hx hb dL_law_602 ?_
        refine q_add hx hb dL_law_603 ?_
        refine r_xld hx hb hX hbl hbA hS (i := i + 2) (z := x2) (by omega) hL ex2 dL_law_604 ?_
        refine lv_aload_n hx hb dL_law_605 rfl (lv_at hl 1 rfl) ?_
        refine c_SWr (As := [.ref (u 0), .int (iI x1), .int (iI x2), .ref o]) (rest := []) (r := .int (iI 0)) fx hl (wr_shiftYears θ l hl0 S0 _ u dt (fun j => sv j 0) (fun j => sv j 1) (fun j => sv j 2) bc rf kn hcr hjH hn o nv sv9 ho hLX.1 x1 x2 (by first | assumption | omega | (dsimp only; first | assumption | omega) | exact Hid.mk (by first | assumption | omega) | exact Hid.mk ⟨fun _ => by first | assumption | omega, fun _ => by first | assumption | omega⟩) (by first | assumption | omega | (dsimp only; first | assumption | omega) | exact Hid.mk (by first | assumption | omega) | exact Hid.mk ⟨fun _ => by first | assumption | omega, fun _ => by first | assumption | omega⟩) (by first | assumption | omega | (dsimp only; first | assumption | omega) | exact Hid.mk (by first | assumption | omega) | exact Hid.mk ⟨fun _ => by first | assumption | omega, fun _ => by first | assumption | omega⟩) (by first | assumption | omega | (dsimp only; first | assumption | omega) | exact Hid.mk (by first | assumption | omega) | exact Hid.mk ⟨fun _ => by first | assumption | omega, fun _ => by first | assumption | omega⟩) (by first | assumption | omega | (dsimp only; first | assumption | omega) | exact Hid.mk (by first | assumption | omega) | exact Hid.mk ⟨fun _ => by first | assumption | omega, fun _ => by first | assumption | omega⟩)) dL_law_606 k788 k789 k0 k790 hd_L_shiftYears rfl ⟨by omega, by omega⟩ (Nat.le_of_ble_eq_true rfl) ⟨by (try dsimp only); omega, by (try dsimp only); omega⟩ hS (fun x h => h.elim (fun h => h.elim (fun ⟨j, hj, e⟩ => e ▸ hu.2 j hj) (fun h => Nat.le_trans hzH.2.1 h)) (fun e => e ▸ hoθ)) (fun H1 locs hpH1 hszH1 hkH1 hS => ?_)
        obtain ⟨hcw, ho1⟩ := hpH1
        have hzH1 := hz0.at hAB hS
        have hjH1 := hj0.at hAB hS
        have hm1 := lw_cls hLX hw hzH1 hkH1
        refine lv_istore (lv' := [(5, .int (iI 0)), (4, .int (iI i)), (3, .ref o), (2, .ref (w 0)), (1, .ref (u 0)), (0, .ref b)]) hx hb dL_law_609 hl (by decide) rfl (fun ls hl => ?_)
        refine lv_aload_n hx hb dL_law_611 rfl (lv_at hl 3 rfl) ?_
        refine lv_aload_n hx hb dL_law_612 rfl (lv_at hl 5 rfl) ?_
        refine lv_iload hx hb dL_law_613 (lv_at hl 1 rfl) ?_
        refine q_con hx hb dL_law_615 ?_
        refine q_add hx hb dL_law_616 ?_
        refine r_xld hx hb hX hbl hbA hS (i := i + 1) (z := x1) (by omega) hL ex1 dL_law_617 ?_
        refine lv_aload_n hx hb dL_law_618 rfl (lv_at hl 5 rfl) ?_
        refine lv_iload hx hb dL_law_619 (lv_at hl 1 rfl) ?_
        refine q_con hx hb dL_law_621 ?_
        refine q_add hx hb dL_law_622 ?_
        refine r_xld hx hb hX hbl hbA hS (i := i + 2) (z := x2) (by omega) hL ex2 dL_law_623 ?_
        refine c_Vr (As := [.int (iI x1), .int (iI x2)]) (rest := []) (b := w 0) (C := RX3) (r := some (.int (iI (dI (shI (dt x1.toNat) (12 * x2)))))) (st1 := [.int (iI (dI (shI (dt x1.toNat) (12 * x2))))]) fx hl (mok_shiftYears θ l S0 _ w r q dt sv th bc rf kn hm1 x1 x2 (by first | assumption | omega | (dsimp only; first | assumption | omega) | exact Hid.mk (by first | assumption | omega) | exact Hid.mk ⟨fun _ => by first | assumption | omega, fun _ => by first | assumption | omega⟩) (by first | assumption | omega | (dsimp only; first | assumption | omega) | exact Hid.mk (by first | assumption | omega) | exact Hid.mk ⟨fun _ => by first | assumption | omega, fun _ => by first | assumption | omega⟩) (by first | assumption | omega | (dsimp only; first | assumption | omega) | exact Hid.mk (by first | assumption | omega) | exact Hid.mk ⟨fun _ => by first | assumption | omega, fun _ => by first | assumption | omega⟩) (by first | assumption | omega | (dsimp only; first | assumption | omega) | exact Hid.mk (by first | assumption | omega) | exact Hid.mk ⟨fun _ => by first | assumption | omega, fun _ => by first | assumption | omega⟩) (by first | assumption | omega | (dsimp only; first | assumption | omega) | exact Hid.mk (by first | assumption | omega) | exact Hid.mk ⟨fun _ => by first | assumption | omega, fun _ => by first | assumption | omega⟩)) (ob_recv hK hm1.2.2.1.1 rfl) dL_law_624 k1186 k1187 k1188 k6 k1189 hd_X3_shiftYears rfl rfl ⟨by omega, by omega⟩ (Nat.le_of_ble_eq_true rfl) ⟨by (try dsimp only); omega, by (try dsimp only); omega⟩ hS (wa_b hm1.2.1 hzH1.2.1) (fun H2 locs hpH2 hszH2 hkH2 hS => ?_)
        obtain ⟨r1, q1, hm2, nr, nq⟩ := hpH2
        have hzH2 := hz0.at hAB hS
        have hL2 := lw_mod hLX hzH2 hu hcw ho1 hfr hfq hm2 nr nq hkH2
        refine lv_istore (lv' := [(6, .int (iI (dI (shI (dt x1.toNat) (12 * x2))))), (5, .int (iI 0)), (4, .int (iI i)), (3, .ref o), (2, .ref (w 0)), (1, .ref (u 0)), (0, .ref b)]) hx hb dL_law_627 hl (by decide) rfl (fun ls hl => ?_)
        refine lv_goto (tgt := 2331) hx hb dL_law_629 (by decide) ?_
        exact kk _ _ _ _ _ ⟨_, _, _, _, _, _, _, _, _, _, hL2⟩ hS (by omega) (by omega) (lv_sub hl [2, 3, 4, 5, 6] rfl)
      · refine lv_aload_n hx hb dL_law_592 rfl (lv_at hl 3 rfl) ?_
        refine lv_aload_n hx hb dL_law_593 rfl (lv_at hl 4 rfl) ?_
        refine lv_iload hx hb dL_law_594 (lv_at hl 0 rfl) ?_
        refine q_con hx hb dL_law_596 ?_
        refine q_add hx hb dL_law_597 ?_
        refine r_xld hx hb hX hbl hbA hS (i := i + 1) (z := x1) (by omega) hL ex1 dL_law_598 ?_
        refine lv_aload_n hx hb dL_law_599 rfl (lv_at hl 4 rfl) ?_
        refine lv_iload hx hb dL_law_600 (lv_at hl 0 rfl) ?_
        refine q_con hx hb dL_law_602 ?_
        refine q_add hx hb dL_law_603 ?_
        refine r_xld hx hb hX hbl hbA hS (i := i + 2) (z := x2) (by omega) hL ex2 dL_law_604 ?_
        refine lv_aload_n hx hb dL_law_605 rfl (lv_at hl 1 rfl) ?_
        refine c_SWr (As := [.ref (u 0), .int (iI x1), .int (iI x2), .ref o]) (rest := []) (r := .int (iI 3)) fx hl (wn3_shiftYears θ l hl0 S0 _ u dt (fun j => sv j 0) (fun j => sv j 1) (fun j => sv j 2) bc rf kn hcr hjH hn o nv sv9 ho hLX.1 x1 x2 (by first | assumption | omega | (dsimp only; first | assumption | omega) | exact Hid.mk (by first | assumption | omega) | exact Hid.mk ⟨fun _ => by first | assumption | omega, fun _ => by first | assumption | omega⟩) (by first | assumption | omega | (dsimp only; first | assumption | omega) | exact Hid.mk (by first | assumption | omega) | exact Hid.mk ⟨fun _ => by first | assumption | omega, fun _ => by first | assumption | omega⟩) (by first | assumption | omega | (dsimp only; first | assumption | omega) | exact Hid.mk (by first | assumption | omega) | exact Hid.mk ⟨fun _ => by first | assumption | omega, fun _ => by first | assumption | omega⟩) (by first | assumption | omega | (dsimp only; first | assumption | omega) | exact Hid.mk (by first | assumption | omega) | exact Hid.mk ⟨fun _ => by first | assumption | omega, fun _ => by first | assumption | omega⟩) (by first | assumption | omega | (dsimp only; first | assumption | omega) | exact Hid.mk (by first | assumption | omega) | exact Hid.mk ⟨fun _ => by first | assumption | omega, fun _ => by first | assumption | omega⟩)) dL_law_606 k788 k789 k0 k790 hd_L_shiftYears rfl ⟨by omega, by omega⟩ (Nat.le_of_ble_eq_true rfl) ⟨by (try dsimp only); omega, by (try dsimp only); omega⟩ hS (fun x h => h.elim (fun h => h.elim (fun ⟨j, hj, e⟩ => e ▸ hu.2 j hj) (fun h => Nat.le_trans hzH.2.1 h)) (fun e => e ▸ hoθ)) (fun H3 locs hpH3 hszH3 hkH3 hS => ?_)
        obtain ⟨hcw, ho1⟩ := hpH3
        have hzH1 := hz0.at hAB hS
        have hjH1 := hj0.at hAB hS
        have hm1 := lw_cls hLX hw hzH1 hkH3
        refine lv_istore (lv' := [(5, .int (iI 3)), (4, .int (iI i)), (3, .ref o), (2, .ref (w 0)), (1, .ref (u 0)), (0, .ref b)]) hx hb dL_law_609 hl (by decide) rfl (fun ls hl => ?_)
        refine lv_aload_n hx hb dL_law_611 rfl (lv_at hl 3 rfl) ?_
        refine lv_aload_n hx hb dL_law_612 rfl (lv_at hl 5 rfl) ?_
        refine lv_iload hx hb dL_law_613 (lv_at hl 1 rfl) ?_
        refine q_con hx hb dL_law_615 ?_
        refine q_add hx hb dL_law_616 ?_
        refine r_xld hx hb hX hbl hbA hS (i := i + 1) (z := x1) (by omega) hL ex1 dL_law_617 ?_
        refine lv_aload_n hx hb dL_law_618 rfl (lv_at hl 5 rfl) ?_
        refine lv_iload hx hb dL_law_619 (lv_at hl 1 rfl) ?_
        refine q_con hx hb dL_law_621 ?_
        refine q_add hx hb dL_law_622 ?_
        refine r_xld hx hb hX hbl hbA hS (i := i + 2) (z := x2) (by omega) hL ex2 dL_law_623 ?_
        refine c_Vr (As := [.int (iI x1), .int (iI x2)]) (rest := []) (b := w 0) (C := RX3) (r := some (.int (iI 0))) (st1 := [.int (iI 0)]) fx hl (mno3_shiftYears θ l S0 _ w r q dt sv th bc rf kn hm1 x1 x2 (by first | assumption | omega | (dsimp only; first | assumption | omega) | exact Hid.mk (by first | assumption | omega) | exact Hid.mk ⟨fun _ => by first | assumption | omega, fun _ => by first | assumption | omega⟩) (by first | assumption | omega | (dsimp only; first | assumption | omega) | exact Hid.mk (by first | assumption | omega) | exact Hid.mk ⟨fun _ => by first | assumption | omega, fun _ => by first | assumption | omega⟩) (by first | assumption | omega | (dsimp only; first | assumption | omega) | exact Hid.mk (by first | assumption | omega) | exact Hid.mk ⟨fun _ => by first | assumption | omega, fun _ => by first | assumption | omega⟩) (by first | assumption | omega | (dsimp only; first | assumption | omega) | exact Hid.mk (by first | assumption | omega) | exact Hid.mk ⟨fun _ => by first | assumption | omega, fun _ => by first | assumption | omega⟩) (by first | assumption | omega | (dsimp only; first | assumption | omega) | exact Hid.mk (by first | assumption | omega) | exact Hid.mk ⟨fun _ => by first | assumption | omega, fun _ => by first | assumption | omega⟩)) (ob_recv hK hm1.2.2.1.1 rfl) dL_law_624 k1186 k1187 k1188 k6 k1189 hd_X3_shiftYears rfl rfl ⟨by omega, by omega⟩ (Nat.le_of_ble_eq_true rfl) ⟨by (try dsimp only); omega, by (try dsimp only); omega⟩ hS (wa_b hm1.2.1 hzH1.2.1) (fun H4 locs hpH4 hszH4 hkH4 hS => ?_)
        obtain ⟨r1, q1, hm2, nr, nq⟩ := hpH4
        have hzH2 := hz0.at hAB hS
        have hL2 := lw_mod hLX hzH2 hu hcw ho1 hfr hfq hm2 nr nq hkH4
        refine lv_istore (lv' := [(6, .int (iI 0)), (5, .int (iI 3)), (4, .int (iI i)), (3, .ref o), (2, .ref (w 0)), (1, .ref (u 0)), (0, .ref b)]) hx hb dL_law_627 hl (by decide) rfl (fun ls hl => ?_)
        refine lv_goto (tgt := 2331) hx hb dL_law_629 (by decide) ?_
        exact kk _ _ _ _ _ ⟨_, _, _, _, _, _, _, _, _, _, hL2⟩ hS (by omega) (by omega) (lv_sub hl [2, 3, 4, 5, 6] rfl)
    · refine lv_aload_n hx hb dL_law_592 rfl (lv_at hl 3 rfl) ?_
      refine lv_aload_n hx hb dL_law_593 rfl (lv_at hl 4 rfl) ?_
      refine lv_iload hx hb dL_law_594 (lv_at hl 0 rfl) ?_
      refine q_con hx hb dL_law_596 ?_
      refine q_add hx hb dL_law_597 ?_
      refine r_xld hx hb hX hbl hbA hS (i := i + 1) (z := x1) (by omega) hL ex1 dL_law_598 ?_
      refine lv_aload_n hx hb dL_law_599 rfl (lv_at hl 4 rfl) ?_
      refine lv_iload hx hb dL_law_600 (lv_at hl 0 rfl) ?_
      refine q_con hx hb dL_law_602 ?_
      refine q_add hx hb dL_law_603 ?_
      refine r_xld hx hb hX hbl hbA hS (i := i + 2) (z := x2) (by omega) hL ex2 dL_law_604 ?_
      refine lv_aload_n hx hb dL_law_605 rfl (lv_at hl 1 rfl) ?_
      refine c_SWr (As := [.ref (u 0), .int (iI x1), .int (iI x2), .ref o]) (rest := []) (r := .int (iI 2)) fx hl (wn2_shiftYears θ l hl0 S0 _ u dt (fun j => sv j 0) (fun j => sv j 1) (fun j => sv j 2) bc rf kn hcr hjH hn o nv sv9 ho hLX.1 x1 x2 (by first | assumption | omega | (dsimp only; first | assumption | omega) | exact Hid.mk (by first | assumption | omega) | exact Hid.mk ⟨fun _ => by first | assumption | omega, fun _ => by first | assumption | omega⟩) (by first | assumption | omega | (dsimp only; first | assumption | omega) | exact Hid.mk (by first | assumption | omega) | exact Hid.mk ⟨fun _ => by first | assumption | omega, fun _ => by first | assumption | omega⟩) (by first | assumption | omega | (dsimp only; first | assumption | omega) | exact Hid.mk (by first | assumption | omega) | exact Hid.mk ⟨fun _ => by first | assumption | omega, fun _ => by first | assumption | omega⟩) (by first | assumption | omega | (dsimp only; first | assumption | omega) | exact Hid.mk (by first | assumption | omega) | exact Hid.mk ⟨fun _ => by first | assumption | omega, fun _ => by first | assumption | omega⟩)) dL_law_606 k788 k789 k0 k790 hd_L_shiftYears rfl ⟨by omega, by omega⟩ (Nat.le_of_ble_eq_true rfl) ⟨by (try dsimp only); omega, by (try dsimp only); omega⟩ hS (fun x h => h.elim (fun h => h.elim (fun ⟨j, hj, e⟩ => e ▸ hu.2 j hj) (fun h => Nat.le_trans hzH.2.1 h)) (fun e => e ▸ hoθ)) (fun H5 locs hpH5 hszH5 hkH5 hS => ?_)
      obtain ⟨hcw, ho1⟩ := hpH5
      have hzH1 := hz0.at hAB hS
      have hjH1 := hj0.at hAB hS
      have hm1 := lw_cls hLX hw hzH1 hkH5
      refine lv_istore (lv' := [(5, .int (iI 2)), (4, .int (iI i)), (3, .ref o), (2, .ref (w 0)), (1, .ref (u 0)), (0, .ref b)]) hx hb dL_law_609 hl (by decide) rfl (fun ls hl => ?_)
      refine lv_aload_n hx hb dL_law_611 rfl (lv_at hl 3 rfl) ?_
      refine lv_aload_n hx hb dL_law_612 rfl (lv_at hl 5 rfl) ?_
      refine lv_iload hx hb dL_law_613 (lv_at hl 1 rfl) ?_
      refine q_con hx hb dL_law_615 ?_
      refine q_add hx hb dL_law_616 ?_
      refine r_xld hx hb hX hbl hbA hS (i := i + 1) (z := x1) (by omega) hL ex1 dL_law_617 ?_
      refine lv_aload_n hx hb dL_law_618 rfl (lv_at hl 5 rfl) ?_
      refine lv_iload hx hb dL_law_619 (lv_at hl 1 rfl) ?_
      refine q_con hx hb dL_law_621 ?_
      refine q_add hx hb dL_law_622 ?_
      refine r_xld hx hb hX hbl hbA hS (i := i + 2) (z := x2) (by omega) hL ex2 dL_law_623 ?_
      refine c_Vr (As := [.int (iI x1), .int (iI x2)]) (rest := []) (b := w 0) (C := RX3) (r := some (.int (iI 0))) (st1 := [.int (iI 0)]) fx hl (mno2_shiftYears θ l S0 _ w r q dt sv th bc rf kn hm1 x1 x2 (by first | assumption | omega | (dsimp only; first | assumption | omega) | exact Hid.mk (by first | assumption | omega) | exact Hid.mk ⟨fun _ => by first | assumption | omega, fun _ => by first | assumption | omega⟩) (by first | assumption | omega | (dsimp only; first | assumption | omega) | exact Hid.mk (by first | assumption | omega) | exact Hid.mk ⟨fun _ => by first | assumption | omega, fun _ => by first | assumption | omega⟩) (by first | assumption | omega | (dsimp only; first | assumption | omega) | exact Hid.mk (by first | assumption | omega) | exact Hid.mk ⟨fun _ => by first | assumption | omega, fun _ => by first | assumption | omega⟩) (by first | assumption | omega | (dsimp only; first | assumption | omega) | exact Hid.mk (by first | assumption | omega) | exact Hid.mk ⟨fun _ => by first | assumption | omega, fun _ => by first | assumption | omega⟩)) (ob_recv hK hm1.2.2.1.1 rfl) dL_law_624 k1186 k1187 k1188 k6 k1189 hd_X3_shiftYears rfl rfl ⟨by omega, by omega⟩ (Nat.le_of_ble_eq_true rfl) ⟨by (try dsimp only); omega, by (try dsimp only); omega⟩ hS (wa_b hm1.2.1 hzH1.2.1) (fun H6 locs hpH6 hszH6 hkH6 hS => ?_)
      obtain ⟨r1, q1, hm2, nr, nq⟩ := hpH6
      have hzH2 := hz0.at hAB hS
      have hL2 := lw_mod hLX hzH2 hu hcw ho1 hfr hfq hm2 nr nq hkH6
      refine lv_istore (lv' := [(6, .int (iI 0)), (5, .int (iI 2)), (4, .int (iI i)), (3, .ref o), (2, .ref (w 0)), (1, .ref (u 0)), (0, .ref b)]) hx hb dL_law_627 hl (by decide) rfl (fun ls hl => ?_)
      refine lv_goto (tgt := 2331) hx hb dL_law_629 (by decide) ?_
      exact kk _ _ _ _ _ ⟨_, _, _, _, _, _, _, _, _, _, hL2⟩ hS (by omega) (by omega) (lv_sub hl [2, 3, 4, 5, 6] rfl)
  · refine lv_aload_n hx hb dL_law_592 rfl (lv_at hl 3 rfl) ?_
    refine lv_aload_n hx hb dL_law_593 rfl (lv_at hl 4 rfl) ?_
    refine lv_iload hx hb dL_law_594 (lv_at hl 0 rfl) ?_
    refine q_con hx hb dL_law_596 ?_
    refine q_add hx hb dL_law_597 ?_
    refine r_xld hx hb hX hbl hbA hS (i := i + 1) (z := x1) (by omega) hL ex1 dL_law_598 ?_
    refine lv_aload_n hx hb dL_law_599 rfl (lv_at hl 4 rfl) ?_
    refine lv_iload hx hb dL_law_600 (lv_at hl 0 rfl) ?_
    refine q_con hx hb dL_law_602 ?_
    refine q_add hx hb dL_law_603 ?_
    refine r_xld hx hb hX hbl hbA hS (i := i + 2) (z := x2) (by omega) hL ex2 dL_law_604 ?_
    refine lv_aload_n hx hb dL_law_605 rfl (lv_at hl 1 rfl) ?_
    refine c_SWr (As := [.ref (u 0), .int (iI x1), .int (iI x2), .ref o]) (rest := []) (r := .int (iI 1)) fx hl (wn1_shiftYears θ l hl0 S0 _ u dt (fun j => sv j 0) (fun j => sv j 1) (fun j => sv j 2) bc rf kn hcr hjH hn o nv sv9 ho hLX.1 x1 x2 (by first | assumption | omega | (dsimp only; first | assumption | omega) | exact Hid.mk (by first | assumption | omega) | exact Hid.mk ⟨fun _ => by first | assumption | omega, fun _ => by first | assumption | omega⟩) (by first | assumption | omega | (dsimp only; first | assumption | omega) | exact Hid.mk (by first | assumption | omega) | exact Hid.mk ⟨fun _ => by first | assumption | omega, fun _ => by first | assumption | omega⟩) (by first | assumption | omega | (dsimp only; first | assumption | omega) | exact Hid.mk (by first | assumption | omega) | exact Hid.mk ⟨fun _ => by first | assumption | omega, fun _ => by first | assumption | omega⟩)) dL_law_606 k788 k789 k0 k790 hd_L_shiftYears rfl ⟨by omega, by omega⟩ (Nat.le_of_ble_eq_true rfl) ⟨by (try dsimp only); omega, by (try dsimp only); omega⟩ hS (fun x h => h.elim (fun h => h.elim (fun ⟨j, hj, e⟩ => e ▸ hu.2 j hj) (fun h => Nat.le_trans hzH.2.1 h)) (fun e => e ▸ hoθ)) (fun H7 locs hpH7 hszH7 hkH7 hS => ?_)
    obtain ⟨hcw, ho1⟩ := hpH7
    have hzH1 := hz0.at hAB hS
    have hjH1 := hj0.at hAB hS
    have hm1 := lw_cls hLX hw hzH1 hkH7
    refine lv_istore (lv' := [(5, .int (iI 1)), (4, .int (iI i)), (3, .ref o), (2, .ref (w 0)), (1, .ref (u 0)), (0, .ref b)]) hx hb dL_law_609 hl (by decide) rfl (fun ls hl => ?_)
    refine lv_aload_n hx hb dL_law_611 rfl (lv_at hl 3 rfl) ?_
    refine lv_aload_n hx hb dL_law_612 rfl (lv_at hl 5 rfl) ?_
    refine lv_iload hx hb dL_law_613 (lv_at hl 1 rfl) ?_
    refine q_con hx hb dL_law_615 ?_
    refine q_add hx hb dL_law_616 ?_
    refine r_xld hx hb hX hbl hbA hS (i := i + 1) (z := x1) (by omega) hL ex1 dL_law_617 ?_
    refine lv_aload_n hx hb dL_law_618 rfl (lv_at hl 5 rfl) ?_
    refine lv_iload hx hb dL_law_619 (lv_at hl 1 rfl) ?_
    refine q_con hx hb dL_law_621 ?_
    refine q_add hx hb dL_law_622 ?_
    refine r_xld hx hb hX hbl hbA hS (i := i + 2) (z := x2) (by omega) hL ex2 dL_law_623 ?_
    refine c_Vr (As := [.int (iI x1), .int (iI x2)]) (rest := []) (b := w 0) (C := RX3) (r := some (.int (iI 0))) (st1 := [.int (iI 0)]) fx hl (mno1_shiftYears θ l S0 _ w r q dt sv th bc rf kn hm1 x1 x2 (by first | assumption | omega | (dsimp only; first | assumption | omega) | exact Hid.mk (by first | assumption | omega) | exact Hid.mk ⟨fun _ => by first | assumption | omega, fun _ => by first | assumption | omega⟩) (by first | assumption | omega | (dsimp only; first | assumption | omega) | exact Hid.mk (by first | assumption | omega) | exact Hid.mk ⟨fun _ => by first | assumption | omega, fun _ => by first | assumption | omega⟩) (by first | assumption | omega | (dsimp only; first | assumption | omega) | exact Hid.mk (by first | assumption | omega) | exact Hid.mk ⟨fun _ => by first | assumption | omega, fun _ => by first | assumption | omega⟩)) (ob_recv hK hm1.2.2.1.1 rfl) dL_law_624 k1186 k1187 k1188 k6 k1189 hd_X3_shiftYears rfl rfl ⟨by omega, by omega⟩ (Nat.le_of_ble_eq_true rfl) ⟨by (try dsimp only); omega, by (try dsimp only); omega⟩ hS (wa_b hm1.2.1 hzH1.2.1) (fun H8 locs hpH8 hszH8 hkH8 hS => ?_)
    obtain ⟨r1, q1, hm2, nr, nq⟩ := hpH8
    have hzH2 := hz0.at hAB hS
    have hL2 := lw_mod hLX hzH2 hu hcw ho1 hfr hfq hm2 nr nq hkH8
    refine lv_istore (lv' := [(6, .int (iI 0)), (5, .int (iI 1)), (4, .int (iI i)), (3, .ref o), (2, .ref (w 0)), (1, .ref (u 0)), (0, .ref b)]) hx hb dL_law_627 hl (by decide) rfl (fun ls hl => ?_)
    refine lv_goto (tgt := 2331) hx hb dL_law_629 (by decide) ?_
    exact kk _ _ _ _ _ ⟨_, _, _, _, _, _, _, _, _, _, hL2⟩ hS (by omega) (by omega) (lv_sub hl [2, 3, 4, 5, 6] rfl)

set_option maxHeartbeats 4000000 in
set_option maxRecDepth 100000 in
theorem lc_days {p : Program} {l : Launch} {e : Env} {R : Room} {s : State} {m : MethodId} {args : Array Value} {below : List Frame} {meth : Method} {c : Code} {Q : State → Prop} {θ : TH} {S0 : State} (fx : FX p m c cL_law 7 s args yL_law.cls S0) (hl0 : l.stackTraces = false) (hz0 : SZ θ S0 s.heap) (hj0 : SJ θ S0 s.heap) (hn : NX S0) {u w : Nat → Nat} {o b L : Nat} {xs : Nat → Int32} (hLX : LX u w o) (hoθ : θ.2.2.2 ≤ o) (hX : va_X b L xs s s.heap) (hbl : b < s.heap.size) (hbA : ¬ AJ θ b) (hL : L ≤ 2560) (hRF : 1000 ≤ R.frames ∧ 1000 ≤ R.locals) {H : Heap} {locs : List Loc} {cells slots : Nat} {ls : Array Slot} {i : Int} (hi : 0 ≤ i ∧ i + 5 ≤ (L : Int)) (hw : LWE θ S0 u w o H) (hS : va_S (AJ θ) s.heap H locs) (hRc : cells + 400 ≤ R.cells ∧ slots + 7000 ≤ R.slots) (hl : lv_has ls 7 [(4, .int (iI i)), (3, .ref o), (2, .ref (w 0)), (1, .ref (u 0)), (0, .ref b)]) (kk : LK p l e R s m args below meth c Q θ S0 u w o b i cells slots 2331) : W p l e R s m args below meth c H locs cells slots Q (F0 m 632 ls []) := by
  obtain ⟨hx, hb, hml, hown, hts⟩ := id fx.1
  have hAB : ∀ x : Nat, AJ θ x → θ.2.2.2 ≤ x := fun _ h => h
  obtain ⟨r, q, dt, sv, th, bc, rf, kn, nv, sv9, hw⟩ := hw
  obtain ⟨hcr, hmr, ho, hfr, hfq⟩ := id hw
  have hzH := hz0.at hAB hS
  have hjH := hj0.at hAB hS
  have hK := sz_K fx.2 hz0
  have hu := hcr.2.1
  obtain ⟨x1, ex1⟩ : ∃ z : Int, z = (xs (i + 1).toNat).toInt := ⟨_, rfl⟩
  have bx1 := x32_b ex1
  obtain ⟨x2, ex2⟩ : ∃ z : Int, z = (xs (i + 2).toNat).toInt := ⟨_, rfl⟩
  have bx2 := x32_b ex2
  by_cases hc1 : 0 ≤ x1 ∧ x1 < 6
  · by_cases hc2 : -8000000 ≤ x2 ∧ x2 ≤ 8000000
    · by_cases hc3 : -4371587 ≤ (dt x1.toNat + x2) ∧ (dt x1.toNat + x2) ≤ 2932896
      · refine lv_aload_n hx hb dL_law_632 rfl (lv_at hl 3 rfl) ?_
        refine lv_aload_n hx hb dL_law_633 rfl (lv_at hl 4 rfl) ?_
        refine lv_iload hx hb dL_law_634 (lv_at hl 0 rfl) ?_
        refine q_con hx hb dL_law_636 ?_
        refine q_add hx hb dL_law_637 ?_
        refine r_xld hx hb hX hbl hbA hS (i := i + 1) (z := x1) (by omega) hL ex1 dL_law_638 ?_
        refine lv_aload_n hx hb dL_law_639 rfl (lv_at hl 4 rfl) ?_
        refine lv_iload hx hb dL_law_640 (lv_at hl 0 rfl) ?_
        refine q_con hx hb dL_law_642 ?_
        refine q_add hx hb dL_law_643 ?_
        refine r_xld hx hb hX hbl hbA hS (i := i + 2) (z := x2) (by omega) hL ex2 dL_law_644 ?_
        refine lv_aload_n hx hb dL_law_645 rfl (lv_at hl 1 rfl) ?_
        refine c_SWr (As := [.ref (u 0), .int (iI x1), .int (iI x2), .ref o]) (rest := []) (r := .int (iI 0)) fx hl (wr_days θ l hl0 S0 _ u dt (fun j => sv j 0) (fun j => sv j 1) (fun j => sv j 2) bc rf kn hcr hjH hn o nv sv9 ho hLX.1 x1 x2 (by first | assumption | omega | (dsimp only; first | assumption | omega) | exact Hid.mk (by first | assumption | omega) | exact Hid.mk ⟨fun _ => by first | assumption | omega, fun _ => by first | assumption | omega⟩) (by first | assumption | omega | (dsimp only; first | assumption | omega) | exact Hid.mk (by first | assumption | omega) | exact Hid.mk ⟨fun _ => by first | assumption | omega, fun _ => by first | assumption | omega⟩) (by first | assumption | omega | (dsimp only; first | assumption | omega) | exact Hid.mk (by first | assumption | omega) | exact Hid.mk ⟨fun _ => by first | assumption | omega, fun _ => by first | assumption | omega⟩) (by first | assumption | omega | (dsimp only; first | assumption | omega) | exact Hid.mk (by first | assumption | omega) | exact Hid.mk ⟨fun _ => by first | assumption | omega, fun _ => by first | assumption | omega⟩) (by first | assumption | omega | (dsimp only; first | assumption | omega) | exact Hid.mk (by first | assumption | omega) | exact Hid.mk ⟨fun _ => by first | assumption | omega, fun _ => by first | assumption | omega⟩)) dL_law_646 k795 k796 k0 k797 hd_L_days rfl ⟨by omega, by omega⟩ (Nat.le_of_ble_eq_true rfl) ⟨by (try dsimp only); omega, by (try dsimp only); omega⟩ hS (fun x h => h.elim (fun h => h.elim (fun ⟨j, hj, e⟩ => e ▸ hu.2 j hj) (fun h => Nat.le_trans hzH.2.1 h)) (fun e => e ▸ hoθ)) (fun H1 locs hpH1 hszH1 hkH1 hS => ?_)
        obtain ⟨hcw, ho1⟩ := hpH1
        have hzH1 := hz0.at hAB hS
        have hjH1 := hj0.at hAB hS
        have hm1 := lw_cls hLX hw hzH1 hkH1
        refine lv_istore (lv' := [(5, .int (iI 0)), (4, .int (iI i)), (3, .ref o), (2, .ref (w 0)), (1, .ref (u 0)), (0, .ref b)]) hx hb dL_law_649 hl (by decide) rfl (fun ls hl => ?_)
        refine lv_aload_n hx hb dL_law_651 rfl (lv_at hl 3 rfl) ?_
        refine lv_aload_n hx hb dL_law_652 rfl (lv_at hl 5 rfl) ?_
        refine lv_iload hx hb dL_law_653 (lv_at hl 1 rfl) ?_
        refine q_con hx hb dL_law_655 ?_
        refine q_add hx hb dL_law_656 ?_
        refine r_xld hx hb hX hbl hbA hS (i := i + 1) (z := x1) (by omega) hL ex1 dL_law_657 ?_
        refine lv_aload_n hx hb dL_law_658 rfl (lv_at hl 5 rfl) ?_
        refine lv_iload hx hb dL_law_659 (lv_at hl 1 rfl) ?_
        refine q_con hx hb dL_law_661 ?_
        refine q_add hx hb dL_law_662 ?_
        refine r_xld hx hb hX hbl hbA hS (i := i + 2) (z := x2) (by omega) hL ex2 dL_law_663 ?_
        refine c_Vr (As := [.int (iI x1), .int (iI x2)]) (rest := []) (b := w 0) (C := RX3) (r := some (.int (iI (dt x1.toNat + x2)))) (st1 := [.int (iI (dt x1.toNat + x2))]) fx hl (mok_days θ l S0 _ w r q dt sv th bc rf kn hm1 x1 x2 (by first | assumption | omega | (dsimp only; first | assumption | omega) | exact Hid.mk (by first | assumption | omega) | exact Hid.mk ⟨fun _ => by first | assumption | omega, fun _ => by first | assumption | omega⟩) (by first | assumption | omega | (dsimp only; first | assumption | omega) | exact Hid.mk (by first | assumption | omega) | exact Hid.mk ⟨fun _ => by first | assumption | omega, fun _ => by first | assumption | omega⟩) (by first | assumption | omega | (dsimp only; first | assumption | omega) | exact Hid.mk (by first | assumption | omega) | exact Hid.mk ⟨fun _ => by first | assumption | omega, fun _ => by first | assumption | omega⟩) (by first | assumption | omega | (dsimp only; first | assumption | omega) | exact Hid.mk (by first | assumption | omega) | exact Hid.mk ⟨fun _ => by first | assumption | omega, fun _ => by first | assumption | omega⟩) (by first | assumption | omega | (dsimp only; first | assumption | omega) | exact Hid.mk (by first | assumption | omega) | exact Hid.mk ⟨fun _ => by first | assumption | omega, fun _ => by first | assumption | omega⟩)) (ob_recv hK hm1.2.2.1.1 rfl) dL_law_664 k1190 k1191 k1192 k6 k1193 hd_X3_days rfl rfl ⟨by omega, by omega⟩ (Nat.le_of_ble_eq_true rfl) ⟨by (try dsimp only); omega, by (try dsimp only); omega⟩ hS (wa_b hm1.2.1 hzH1.2.1) (fun H2 locs hpH2 hszH2 hkH2 hS => ?_)
        obtain ⟨r1, q1, hm2, nr, nq⟩ := hpH2
        have hzH2 := hz0.at hAB hS
        have hL2 := lw_mod hLX hzH2 hu hcw ho1 hfr hfq hm2 nr nq hkH2
        refine q_nm (fun z3 ez3 => ?_)
        refine lv_istore (lv' := [(6, .int (iI z3)), (5, .int (iI 0)), (4, .int (iI i)), (3, .ref o), (2, .ref (w 0)), (1, .ref (u 0)), (0, .ref b)]) hx hb dL_law_667 hl (by decide) rfl (fun ls hl => ?_)
        refine lv_goto (tgt := 2331) hx hb dL_law_669 (by decide) ?_
        exact kk _ _ _ _ _ ⟨_, _, _, _, _, _, _, _, _, _, hL2⟩ hS (by omega) (by omega) (lv_sub hl [2, 3, 4, 5, 6] rfl)
      · refine lv_aload_n hx hb dL_law_632 rfl (lv_at hl 3 rfl) ?_
        refine lv_aload_n hx hb dL_law_633 rfl (lv_at hl 4 rfl) ?_
        refine lv_iload hx hb dL_law_634 (lv_at hl 0 rfl) ?_
        refine q_con hx hb dL_law_636 ?_
        refine q_add hx hb dL_law_637 ?_
        refine r_xld hx hb hX hbl hbA hS (i := i + 1) (z := x1) (by omega) hL ex1 dL_law_638 ?_
        refine lv_aload_n hx hb dL_law_639 rfl (lv_at hl 4 rfl) ?_
        refine lv_iload hx hb dL_law_640 (lv_at hl 0 rfl) ?_
        refine q_con hx hb dL_law_642 ?_
        refine q_add hx hb dL_law_643 ?_
        refine r_xld hx hb hX hbl hbA hS (i := i + 2) (z := x2) (by omega) hL ex2 dL_law_644 ?_
        refine lv_aload_n hx hb dL_law_645 rfl (lv_at hl 1 rfl) ?_
        refine c_SWr (As := [.ref (u 0), .int (iI x1), .int (iI x2), .ref o]) (rest := []) (r := .int (iI 3)) fx hl (wn3_days θ l hl0 S0 _ u dt (fun j => sv j 0) (fun j => sv j 1) (fun j => sv j 2) bc rf kn hcr hjH hn o nv sv9 ho hLX.1 x1 x2 (by first | assumption | omega | (dsimp only; first | assumption | omega) | exact Hid.mk (by first | assumption | omega) | exact Hid.mk ⟨fun _ => by first | assumption | omega, fun _ => by first | assumption | omega⟩) (by first | assumption | omega | (dsimp only; first | assumption | omega) | exact Hid.mk (by first | assumption | omega) | exact Hid.mk ⟨fun _ => by first | assumption | omega, fun _ => by first | assumption | omega⟩) (by first | assumption | omega | (dsimp only; first | assumption | omega) | exact Hid.mk (by first | assumption | omega) | exact Hid.mk ⟨fun _ => by first | assumption | omega, fun _ => by first | assumption | omega⟩) (by first | assumption | omega | (dsimp only; first | assumption | omega) | exact Hid.mk (by first | assumption | omega) | exact Hid.mk ⟨fun _ => by first | assumption | omega, fun _ => by first | assumption | omega⟩) (by first | assumption | omega | (dsimp only; first | assumption | omega) | exact Hid.mk (by first | assumption | omega) | exact Hid.mk ⟨fun _ => by first | assumption | omega, fun _ => by first | assumption | omega⟩)) dL_law_646 k795 k796 k0 k797 hd_L_days rfl ⟨by omega, by omega⟩ (Nat.le_of_ble_eq_true rfl) ⟨by (try dsimp only); omega, by (try dsimp only); omega⟩ hS (fun x h => h.elim (fun h => h.elim (fun ⟨j, hj, e⟩ => e ▸ hu.2 j hj) (fun h => Nat.le_trans hzH.2.1 h)) (fun e => e ▸ hoθ)) (fun H4 locs hpH4 hszH4 hkH4 hS => ?_)
        obtain ⟨hcw, ho1⟩ := hpH4
        have hzH1 := hz0.at hAB hS
        have hjH1 := hj0.at hAB hS
        have hm1 := lw_cls hLX hw hzH1 hkH4
        refine lv_istore (lv' := [(5, .int (iI 3)), (4, .int (iI i)), (3, .ref o), (2, .ref (w 0)), (1, .ref (u 0)), (0, .ref b)]) hx hb dL_law_649 hl (by decide) rfl (fun ls hl => ?_)
        refine lv_aload_n hx hb dL_law_651 rfl (lv_at hl 3 rfl) ?_
        refine lv_aload_n hx hb dL_law_652 rfl (lv_at hl 5 rfl) ?_
        refine lv_iload hx hb dL_law_653 (lv_at hl 1 rfl) ?_
        refine q_con hx hb dL_law_655 ?_
        refine q_add hx hb dL_law_656 ?_
        refine r_xld hx hb hX hbl hbA hS (i := i + 1) (z := x1) (by omega) hL ex1 dL_law_657 ?_
        refine lv_aload_n hx hb dL_law_658 rfl (lv_at hl 5 rfl) ?_
        refine lv_iload hx hb dL_law_659 (lv_at hl 1 rfl) ?_
        refine q_con hx hb dL_law_661 ?_
        refine q_add hx hb dL_law_662 ?_
        refine r_xld hx hb hX hbl hbA hS (i := i + 2) (z := x2) (by omega) hL ex2 dL_law_663 ?_
        refine c_Vr (As := [.int (iI x1), .int (iI x2)]) (rest := []) (b := w 0) (C := RX3) (r := some (.int (iI 0))) (st1 := [.int (iI 0)]) fx hl (mno3_days θ l S0 _ w r q dt sv th bc rf kn hm1 x1 x2 (by first | assumption | omega | (dsimp only; first | assumption | omega) | exact Hid.mk (by first | assumption | omega) | exact Hid.mk ⟨fun _ => by first | assumption | omega, fun _ => by first | assumption | omega⟩) (by first | assumption | omega | (dsimp only; first | assumption | omega) | exact Hid.mk (by first | assumption | omega) | exact Hid.mk ⟨fun _ => by first | assumption | omega, fun _ => by first | assumption | omega⟩) (by first | assumption | omega | (dsimp only; first | assumption | omega) | exact Hid.mk (by first | assumption | omega) | exact Hid.mk ⟨fun _ => by first | assumption | omega, fun _ => by first | assumption | omega⟩) (by first | assumption | omega | (dsimp only; first | assumption | omega) | exact Hid.mk (by first | assumption | omega) | exact Hid.mk ⟨fun _ => by first | assumption | omega, fun _ => by first | assumption | omega⟩) (by first | assumption | omega | (dsimp only; first | assumption | omega) | exact Hid.mk (by first | assumption | omega) | exact Hid.mk ⟨fun _ => by first | assumption | omega, fun _ => by first | assumption | omega⟩)) (ob_recv hK hm1.2.2.1.1 rfl) dL_law_664 k1190 k1191 k1192 k6 k1193 hd_X3_days rfl rfl ⟨by omega, by omega⟩ (Nat.le_of_ble_eq_true rfl) ⟨by (try dsimp only); omega, by (try dsimp only); omega⟩ hS (wa_b hm1.2.1 hzH1.2.1) (fun H5 locs hpH5 hszH5 hkH5 hS => ?_)
        obtain ⟨r1, q1, hm2, nr, nq⟩ := hpH5
        have hzH2 := hz0.at hAB hS
        have hL2 := lw_mod hLX hzH2 hu hcw ho1 hfr hfq hm2 nr nq hkH5
        refine lv_istore (lv' := [(6, .int (iI 0)), (5, .int (iI 3)), (4, .int (iI i)), (3, .ref o), (2, .ref (w 0)), (1, .ref (u 0)), (0, .ref b)]) hx hb dL_law_667 hl (by decide) rfl (fun ls hl => ?_)
        refine lv_goto (tgt := 2331) hx hb dL_law_669 (by decide) ?_
        exact kk _ _ _ _ _ ⟨_, _, _, _, _, _, _, _, _, _, hL2⟩ hS (by omega) (by omega) (lv_sub hl [2, 3, 4, 5, 6] rfl)
    · refine lv_aload_n hx hb dL_law_632 rfl (lv_at hl 3 rfl) ?_
      refine lv_aload_n hx hb dL_law_633 rfl (lv_at hl 4 rfl) ?_
      refine lv_iload hx hb dL_law_634 (lv_at hl 0 rfl) ?_
      refine q_con hx hb dL_law_636 ?_
      refine q_add hx hb dL_law_637 ?_
      refine r_xld hx hb hX hbl hbA hS (i := i + 1) (z := x1) (by omega) hL ex1 dL_law_638 ?_
      refine lv_aload_n hx hb dL_law_639 rfl (lv_at hl 4 rfl) ?_
      refine lv_iload hx hb dL_law_640 (lv_at hl 0 rfl) ?_
      refine q_con hx hb dL_law_642 ?_
      refine q_add hx hb dL_law_643 ?_
      refine r_xld hx hb hX hbl hbA hS (i := i + 2) (z := x2) (by omega) hL ex2 dL_law_644 ?_
      refine lv_aload_n hx hb dL_law_645 rfl (lv_at hl 1 rfl) ?_
      refine c_SWr (As := [.ref (u 0), .int (iI x1), .int (iI x2), .ref o]) (rest := []) (r := .int (iI 2)) fx hl (wn2_days θ l hl0 S0 _ u dt (fun j => sv j 0) (fun j => sv j 1) (fun j => sv j 2) bc rf kn hcr hjH hn o nv sv9 ho hLX.1 x1 x2 (by first | assumption | omega | (dsimp only; first | assumption | omega) | exact Hid.mk (by first | assumption | omega) | exact Hid.mk ⟨fun _ => by first | assumption | omega, fun _ => by first | assumption | omega⟩) (by first | assumption | omega | (dsimp only; first | assumption | omega) | exact Hid.mk (by first | assumption | omega) | exact Hid.mk ⟨fun _ => by first | assumption | omega, fun _ => by first | assumption | omega⟩) (by first | assumption | omega | (dsimp only; first | assumption | omega) | exact Hid.mk (by first | assumption | omega) | exact Hid.mk ⟨fun _ => by first | assumption | omega, fun _ => by first | assumption | omega⟩) (by first | assumption | omega | (dsimp only; first | assumption | omega) | exact Hid.mk (by first | assumption | omega) | exact Hid.mk ⟨fun _ => by first | assumption | omega, fun _ => by first | assumption | omega⟩)) dL_law_646 k795 k796 k0 k797 hd_L_days rfl ⟨by omega, by omega⟩ (Nat.le_of_ble_eq_true rfl) ⟨by (try dsimp only); omega, by (try dsimp only); omega⟩ hS (fun x h => h.elim (fun h => h.elim (fun ⟨j, hj, e⟩ => e ▸ hu.2 j hj) (fun h => Nat.le_trans hzH.2.1 h)) (fun e => e ▸ hoθ)) (fun H6 locs hpH6 hszH6 hkH6 hS => ?_)
      obtain ⟨hcw, ho1⟩ := hpH6
      have hzH1 := hz0.at hAB hS
      have hjH1 := hj0.at hAB hS
      have hm1 := lw_cls hLX hw hzH1 hkH6
      refine lv_istore (lv' := [(5, .int (iI 2)), (4, .int (iI i)), (3, .ref o), (2, .ref (w 0)), (1, .ref (u 0)), (0, .ref b)]) hx hb dL_law_649 hl (by decide) rfl (fun ls hl => ?_)
      refine lv_aload_n hx hb dL_law_651 rfl (lv_at hl 3 rfl) ?_
      refine lv_aload_n hx hb dL_law_652 rfl (lv_at hl 5 rfl) ?_
      refine lv_iload hx hb dL_law_653 (lv_at hl 1 rfl) ?_
      refine q_con hx hb dL_law_655 ?_
      refine q_add hx hb dL_law_656 ?_
      refine r_xld hx hb hX hbl hbA hS (i := i + 1) (z := x1) (by omega) hL ex1 dL_law_657 ?_
      refine lv_aload_n hx hb dL_law_658 rfl (lv_at hl 5 rfl) ?_
      refine lv_iload hx hb dL_law_659 (lv_at hl 1 rfl) ?_
      refine q_con hx hb dL_law_661 ?_
      refine q_add hx hb dL_law_662 ?_
      refine r_xld hx hb hX hbl hbA hS (i := i + 2) (z := x2) (by omega) hL ex2 dL_law_663 ?_
      refine c_Vr (As := [.int (iI x1), .int (iI x2)]) (rest := []) (b := w 0) (C := RX3) (r := some (.int (iI 0))) (st1 := [.int (iI 0)]) fx hl (mno2_days θ l S0 _ w r q dt sv th bc rf kn hm1 x1 x2 (by first | assumption | omega | (dsimp only; first | assumption | omega) | exact Hid.mk (by first | assumption | omega) | exact Hid.mk ⟨fun _ => by first | assumption | omega, fun _ => by first | assumption | omega⟩) (by first | assumption | omega | (dsimp only; first | assumption | omega) | exact Hid.mk (by first | assumption | omega) | exact Hid.mk ⟨fun _ => by first | assumption | omega, fun _ => by first | assumption | omega⟩) (by first | assumption | omega | (dsimp only; first | assumption | omega) | exact Hid.mk (by first | assumption | omega) | exact Hid.mk ⟨fun _ => by first | assumption | omega, fun _ => by first | assumption | omega⟩) (by first | assumption | omega | (dsimp only; first | assumption | omega) | exact Hid.mk (by first | assumption | omega) | exact Hid.mk ⟨fun _ => by first | assumption | omega, fun _ => by first | assumption | omega⟩)) (ob_recv hK hm1.2.2.1.1 rfl) dL_law_664 k1190 k1191 k1192 k6 k1193 hd_X3_days rfl rfl ⟨by omega, by omega⟩ (Nat.le_of_ble_eq_true rfl) ⟨by (try dsimp only); omega, by (try dsimp only); omega⟩ hS (wa_b hm1.2.1 hzH1.2.1) (fun H7 locs hpH7 hszH7 hkH7 hS => ?_)
      obtain ⟨r1, q1, hm2, nr, nq⟩ := hpH7
      have hzH2 := hz0.at hAB hS
      have hL2 := lw_mod hLX hzH2 hu hcw ho1 hfr hfq hm2 nr nq hkH7
      refine lv_istore (lv' := [(6, .int (iI 0)), (5, .int (iI 2)), (4, .int (iI i)), (3, .ref o), (2, .ref (w 0)), (1, .ref (u 0)), (0, .ref b)]) hx hb dL_law_667 hl (by decide) rfl (fun ls hl => ?_)
      refine lv_goto (tgt := 2331) hx hb dL_law_669 (by decide) ?_
      exact kk _ _ _ _ _ ⟨_, _, _, _, _, _, _, _, _, _, hL2⟩ hS (by omega) (by omega) (lv_sub hl [2, 3, 4, 5, 6] rfl)
  · refine lv_aload_n hx hb dL_law_632 rfl (lv_at hl 3 rfl) ?_
    refine lv_aload_n hx hb dL_law_633 rfl (lv_at hl 4 rfl) ?_
    refine lv_iload hx hb dL_law_634 (lv_at hl 0 rfl) ?_
    refine q_con hx hb dL_law_636 ?_
    refine q_add hx hb dL_law_637 ?_
    refine r_xld hx hb hX hbl hbA hS (i := i + 1) (z := x1) (by omega) hL ex1 dL_law_638 ?_
    refine lv_aload_n hx hb dL_law_639 rfl (lv_at hl 4 rfl) ?_
    refine lv_iload hx hb dL_law_640 (lv_at hl 0 rfl) ?_
    refine q_con hx hb dL_law_642 ?_
    refine q_add hx hb dL_law_643 ?_
    refine r_xld hx hb hX hbl hbA hS (i := i + 2) (z := x2) (by omega) hL ex2 dL_law_644 ?_
    refine lv_aload_n hx hb dL_law_645 rfl (lv_at hl 1 rfl) ?_
    refine c_SWr (As := [.ref (u 0), .int (iI x1), .int (iI x2), .ref o]) (rest := []) (r := .int (iI 1)) fx hl (wn1_days θ l hl0 S0 _ u dt (fun j => sv j 0) (fun j => sv j 1) (fun j => sv j 2) bc rf kn hcr hjH hn o nv sv9 ho hLX.1 x1 x2 (by first | assumption | omega | (dsimp only; first | assumption | omega) | exact Hid.mk (by first | assumption | omega) | exact Hid.mk ⟨fun _ => by first | assumption | omega, fun _ => by first | assumption | omega⟩) (by first | assumption | omega | (dsimp only; first | assumption | omega) | exact Hid.mk (by first | assumption | omega) | exact Hid.mk ⟨fun _ => by first | assumption | omega, fun _ => by first | assumption | omega⟩) (by first | assumption | omega | (dsimp only; first | assumption | omega) | exact Hid.mk (by first | assumption | omega) | exact Hid.mk ⟨fun _ => by first | assumption | omega, fun _ => by first | assumption | omega⟩)) dL_law_646 k795 k796 k0 k797 hd_L_days rfl ⟨by omega, by omega⟩ (Nat.le_of_ble_eq_true rfl) ⟨by (try dsimp only); omega, by (try dsimp only); omega⟩ hS (fun x h => h.elim (fun h => h.elim (fun ⟨j, hj, e⟩ => e ▸ hu.2 j hj) (fun h => Nat.le_trans hzH.2.1 h)) (fun e => e ▸ hoθ)) (fun H8 locs hpH8 hszH8 hkH8 hS => ?_)
    obtain ⟨hcw, ho1⟩ := hpH8
    have hzH1 := hz0.at hAB hS
    have hjH1 := hj0.at hAB hS
    have hm1 := lw_cls hLX hw hzH1 hkH8
    refine lv_istore (lv' := [(5, .int (iI 1)), (4, .int (iI i)), (3, .ref o), (2, .ref (w 0)), (1, .ref (u 0)), (0, .ref b)]) hx hb dL_law_649 hl (by decide) rfl (fun ls hl => ?_)
    refine lv_aload_n hx hb dL_law_651 rfl (lv_at hl 3 rfl) ?_
    refine lv_aload_n hx hb dL_law_652 rfl (lv_at hl 5 rfl) ?_
    refine lv_iload hx hb dL_law_653 (lv_at hl 1 rfl) ?_
    refine q_con hx hb dL_law_655 ?_
    refine q_add hx hb dL_law_656 ?_
    refine r_xld hx hb hX hbl hbA hS (i := i + 1) (z := x1) (by omega) hL ex1 dL_law_657 ?_
    refine lv_aload_n hx hb dL_law_658 rfl (lv_at hl 5 rfl) ?_
    refine lv_iload hx hb dL_law_659 (lv_at hl 1 rfl) ?_
    refine q_con hx hb dL_law_661 ?_
    refine q_add hx hb dL_law_662 ?_
    refine r_xld hx hb hX hbl hbA hS (i := i + 2) (z := x2) (by omega) hL ex2 dL_law_663 ?_
    refine c_Vr (As := [.int (iI x1), .int (iI x2)]) (rest := []) (b := w 0) (C := RX3) (r := some (.int (iI 0))) (st1 := [.int (iI 0)]) fx hl (mno1_days θ l S0 _ w r q dt sv th bc rf kn hm1 x1 x2 (by first | assumption | omega | (dsimp only; first | assumption | omega) | exact Hid.mk (by first | assumption | omega) | exact Hid.mk ⟨fun _ => by first | assumption | omega, fun _ => by first | assumption | omega⟩) (by first | assumption | omega | (dsimp only; first | assumption | omega) | exact Hid.mk (by first | assumption | omega) | exact Hid.mk ⟨fun _ => by first | assumption | omega, fun _ => by first | assumption | omega⟩) (by first | assumption | omega | (dsimp only; first | assumption | omega) | exact Hid.mk (by first | assumption | omega) | exact Hid.mk ⟨fun _ => by first | assumption | omega, fun _ => by first | assumption | omega⟩)) (ob_recv hK hm1.2.2.1.1 rfl) dL_law_664 k1190 k1191 k1192 k6 k1193 hd_X3_days rfl rfl ⟨by omega, by omega⟩ (Nat.le_of_ble_eq_true rfl) ⟨by (try dsimp only); omega, by (try dsimp only); omega⟩ hS (wa_b hm1.2.1 hzH1.2.1) (fun H9 locs hpH9 hszH9 hkH9 hS => ?_)
    obtain ⟨r1, q1, hm2, nr, nq⟩ := hpH9
    have hzH2 := hz0.at hAB hS
    have hL2 := lw_mod hLX hzH2 hu hcw ho1 hfr hfq hm2 nr nq hkH9
    refine lv_istore (lv' := [(6, .int (iI 0)), (5, .int (iI 1)), (4, .int (iI i)), (3, .ref o), (2, .ref (w 0)), (1, .ref (u 0)), (0, .ref b)]) hx hb dL_law_667 hl (by decide) rfl (fun ls hl => ?_)
    refine lv_goto (tgt := 2331) hx hb dL_law_669 (by decide) ?_
    exact kk _ _ _ _ _ ⟨_, _, _, _, _, _, _, _, _, _, hL2⟩ hS (by omega) (by omega) (lv_sub hl [2, 3, 4, 5, 6] rfl)

set_option maxHeartbeats 4000000 in
set_option maxRecDepth 100000 in
theorem lc_cycles {p : Program} {l : Launch} {e : Env} {R : Room} {s : State} {m : MethodId} {args : Array Value} {below : List Frame} {meth : Method} {c : Code} {Q : State → Prop} {θ : TH} {S0 : State} (fx : FX p m c cL_law 7 s args yL_law.cls S0) (hl0 : l.stackTraces = false) (hz0 : SZ θ S0 s.heap) (hj0 : SJ θ S0 s.heap) (hn : NX S0) {u w : Nat → Nat} {o b L : Nat} {xs : Nat → Int32} (hLX : LX u w o) (hoθ : θ.2.2.2 ≤ o) (hX : va_X b L xs s s.heap) (hbl : b < s.heap.size) (hbA : ¬ AJ θ b) (hL : L ≤ 2560) (hRF : 1000 ≤ R.frames ∧ 1000 ≤ R.locals) {H : Heap} {locs : List Loc} {cells slots : Nat} {ls : Array Slot} {i : Int} (hi : 0 ≤ i ∧ i + 5 ≤ (L : Int)) (hw : LWE θ S0 u w o H) (hS : va_S (AJ θ) s.heap H locs) (hRc : cells + 400 ≤ R.cells ∧ slots + 7000 ≤ R.slots) (hl : lv_has ls 7 [(4, .int (iI i)), (3, .ref o), (2, .ref (w 0)), (1, .ref (u 0)), (0, .ref b)]) (kk : LK p l e R s m args below meth c Q θ S0 u w o b i cells slots 2331) : W p l e R s m args below meth c H locs cells slots Q (F0 m 672 ls []) := by
  obtain ⟨hx, hb, hml, hown, hts⟩ := id fx.1
  have hAB : ∀ x : Nat, AJ θ x → θ.2.2.2 ≤ x := fun _ h => h
  obtain ⟨r, q, dt, sv, th, bc, rf, kn, nv, sv9, hw⟩ := hw
  obtain ⟨hcr, hmr, ho, hfr, hfq⟩ := id hw
  have hzH := hz0.at hAB hS
  have hjH := hj0.at hAB hS
  have hK := sz_K fx.2 hz0
  have hu := hcr.2.1
  obtain ⟨x1, ex1⟩ : ∃ z : Int, z = (xs (i + 1).toNat).toInt := ⟨_, rfl⟩
  have bx1 := x32_b ex1
  obtain ⟨x2, ex2⟩ : ∃ z : Int, z = (xs (i + 2).toNat).toInt := ⟨_, rfl⟩
  have bx2 := x32_b ex2
  by_cases hc1 : 0 ≤ x1 ∧ x1 < 6
  · by_cases hc2 : -60 ≤ x2 ∧ x2 ≤ 60
    · by_cases hc3 : -4371587 ≤ shI (dt x1.toNat) (4800 * x2) ∧ shI (dt x1.toNat) (4800 * x2) ≤ 2932896
      · refine lv_aload_n hx hb dL_law_672 rfl (lv_at hl 3 rfl) ?_
        refine lv_aload_n hx hb dL_law_673 rfl (lv_at hl 4 rfl) ?_
        refine lv_iload hx hb dL_law_674 (lv_at hl 0 rfl) ?_
        refine q_con hx hb dL_law_676 ?_
        refine q_add hx hb dL_law_677 ?_
        refine r_xld hx hb hX hbl hbA hS (i := i + 1) (z := x1) (by omega) hL ex1 dL_law_678 ?_
        refine lv_aload_n hx hb dL_law_679 rfl (lv_at hl 4 rfl) ?_
        refine lv_iload hx hb dL_law_680 (lv_at hl 0 rfl) ?_
        refine q_con hx hb dL_law_682 ?_
        refine q_add hx hb dL_law_683 ?_
        refine r_xld hx hb hX hbl hbA hS (i := i + 2) (z := x2) (by omega) hL ex2 dL_law_684 ?_
        refine lv_aload_n hx hb dL_law_685 rfl (lv_at hl 1 rfl) ?_
        refine c_SWr (As := [.ref (u 0), .int (iI x1), .int (iI x2), .ref o]) (rest := []) (r := .int (iI 0)) fx hl (wr_cycles θ l hl0 S0 _ u dt (fun j => sv j 0) (fun j => sv j 1) (fun j => sv j 2) bc rf kn hcr hjH hn o nv sv9 ho hLX.1 x1 x2 (by first | assumption | omega | (dsimp only; first | assumption | omega) | exact Hid.mk (by first | assumption | omega) | exact Hid.mk ⟨fun _ => by first | assumption | omega, fun _ => by first | assumption | omega⟩) (by first | assumption | omega | (dsimp only; first | assumption | omega) | exact Hid.mk (by first | assumption | omega) | exact Hid.mk ⟨fun _ => by first | assumption | omega, fun _ => by first | assumption | omega⟩) (by first | assumption | omega | (dsimp only; first | assumption | omega) | exact Hid.mk (by first | assumption | omega) | exact Hid.mk ⟨fun _ => by first | assumption | omega, fun _ => by first | assumption | omega⟩) (by first | assumption | omega | (dsimp only; first | assumption | omega) | exact Hid.mk (by first | assumption | omega) | exact Hid.mk ⟨fun _ => by first | assumption | omega, fun _ => by first | assumption | omega⟩) (by first | assumption | omega | (dsimp only; first | assumption | omega) | exact Hid.mk (by first | assumption | omega) | exact Hid.mk ⟨fun _ => by first | assumption | omega, fun _ => by first | assumption | omega⟩)) dL_law_686 k804 k805 k0 k806 hd_L_cycles rfl ⟨by omega, by omega⟩ (Nat.le_of_ble_eq_true rfl) ⟨by (try dsimp only); omega, by (try dsimp only); omega⟩ hS (fun x h => h.elim (fun h => h.elim (fun ⟨j, hj, e⟩ => e ▸ hu.2 j hj) (fun h => Nat.le_trans hzH.2.1 h)) (fun e => e ▸ hoθ)) (fun H1 locs hpH1 hszH1 hkH1 hS => ?_)
        obtain ⟨hcw, ho1⟩ := hpH1
        have hzH1 := hz0.at hAB hS
        have hjH1 := hj0.at hAB hS
        have hm1 := lw_cls hLX hw hzH1 hkH1
        refine lv_istore (lv' := [(5, .int (iI 0)), (4, .int (iI i)), (3, .ref o), (2, .ref (w 0)), (1, .ref (u 0)), (0, .ref b)]) hx hb dL_law_689 hl (by decide) rfl (fun ls hl => ?_)
        refine lv_aload_n hx hb dL_law_691 rfl (lv_at hl 3 rfl) ?_
        refine lv_aload_n hx hb dL_law_692 rfl (lv_at hl 5 rfl) ?_
        refine lv_iload hx hb dL_law_693 (lv_at hl 1 rfl) ?_
        refine q_con hx hb dL_law_695 ?_
        refine q_add hx hb dL_law_696 ?_
        refine r_xld hx hb hX hbl hbA hS (i := i + 1) (z := x1) (by omega) hL ex1 dL_law_697 ?_
        refine lv_aload_n hx hb dL_law_698 rfl (lv_at hl 5 rfl) ?_
        refine lv_iload hx hb dL_law_699 (lv_at hl 1 rfl) ?_
        refine q_con hx hb dL_law_701 ?_
        refine q_add hx hb dL_law_702 ?_
        refine r_xld hx hb hX hbl hbA hS (i := i + 2) (z := x2) (by omega) hL ex2 dL_law_703 ?_
        refine c_Vr (As := [.int (iI x1), .int (iI x2)]) (rest := []) (b := w 0) (C := RX3) (r := some (.int (iI (shI (dt x1.toNat) (4800 * x2))))) (st1 := [.int (iI (shI (dt x1.toNat) (4800 * x2)))]) fx hl (mok_cycles θ l S0 _ w r q dt sv th bc rf kn hm1 x1 x2 (by first | assumption | omega | (dsimp only; first | assumption | omega) | exact Hid.mk (by first | assumption | omega) | exact Hid.mk ⟨fun _ => by first | assumption | omega, fun _ => by first | assumption | omega⟩) (by first | assumption | omega | (dsimp only; first | assumption | omega) | exact Hid.mk (by first | assumption | omega) | exact Hid.mk ⟨fun _ => by first | assumption | omega, fun _ => by first | assumption | omega⟩) (by first | assumption | omega | (dsimp only; first | assumption | omega) | exact Hid.mk (by first | assumption | omega) | exact Hid.mk ⟨fun _ => by first | assumption | omega, fun _ => by first | assumption | omega⟩) (by first | assumption | omega | (dsimp only; first | assumption | omega) | exact Hid.mk (by first | assumption | omega) | exact Hid.mk ⟨fun _ => by first | assumption | omega, fun _ => by first | assumption | omega⟩) (by first | assumption | omega | (dsimp only; first | assumption | omega) | exact Hid.mk (by first | assumption | omega) | exact Hid.mk ⟨fun _ => by first | assumption | omega, fun _ => by first | assumption | omega⟩)) (ob_recv hK hm1.2.2.1.1 rfl) dL_law_704 k1199 k1200 k1201 k6 k1202 hd_X3_cycles rfl rfl ⟨by omega, by omega⟩ (Nat.le_of_ble_eq_true rfl) ⟨by (try dsimp only); omega, by (try dsimp only); omega⟩ hS (wa_b hm1.2.1 hzH1.2.1) (fun H2 locs hpH2 hszH2 hkH2 hS => ?_)
        obtain ⟨r1, q1, hm2, nr, nq⟩ := hpH2
        have hzH2 := hz0.at hAB hS
        have hL2 := lw_mod hLX hzH2 hu hcw ho1 hfr hfq hm2 nr nq hkH2
        refine lv_istore (lv' := [(6, .int (iI (shI (dt x1.toNat) (4800 * x2)))), (5, .int (iI 0)), (4, .int (iI i)), (3, .ref o), (2, .ref (w 0)), (1, .ref (u 0)), (0, .ref b)]) hx hb dL_law_707 hl (by decide) rfl (fun ls hl => ?_)
        refine lv_goto (tgt := 2331) hx hb dL_law_709 (by decide) ?_
        exact kk _ _ _ _ _ ⟨_, _, _, _, _, _, _, _, _, _, hL2⟩ hS (by omega) (by omega) (lv_sub hl [2, 3, 4, 5, 6] rfl)
      · refine lv_aload_n hx hb dL_law_672 rfl (lv_at hl 3 rfl) ?_
        refine lv_aload_n hx hb dL_law_673 rfl (lv_at hl 4 rfl) ?_
        refine lv_iload hx hb dL_law_674 (lv_at hl 0 rfl) ?_
        refine q_con hx hb dL_law_676 ?_
        refine q_add hx hb dL_law_677 ?_
        refine r_xld hx hb hX hbl hbA hS (i := i + 1) (z := x1) (by omega) hL ex1 dL_law_678 ?_
        refine lv_aload_n hx hb dL_law_679 rfl (lv_at hl 4 rfl) ?_
        refine lv_iload hx hb dL_law_680 (lv_at hl 0 rfl) ?_
        refine q_con hx hb dL_law_682 ?_
        refine q_add hx hb dL_law_683 ?_
        refine r_xld hx hb hX hbl hbA hS (i := i + 2) (z := x2) (by omega) hL ex2 dL_law_684 ?_
        refine lv_aload_n hx hb dL_law_685 rfl (lv_at hl 1 rfl) ?_
        refine c_SWr (As := [.ref (u 0), .int (iI x1), .int (iI x2), .ref o]) (rest := []) (r := .int (iI 3)) fx hl (wn3_cycles θ l hl0 S0 _ u dt (fun j => sv j 0) (fun j => sv j 1) (fun j => sv j 2) bc rf kn hcr hjH hn o nv sv9 ho hLX.1 x1 x2 (by first | assumption | omega | (dsimp only; first | assumption | omega) | exact Hid.mk (by first | assumption | omega) | exact Hid.mk ⟨fun _ => by first | assumption | omega, fun _ => by first | assumption | omega⟩) (by first | assumption | omega | (dsimp only; first | assumption | omega) | exact Hid.mk (by first | assumption | omega) | exact Hid.mk ⟨fun _ => by first | assumption | omega, fun _ => by first | assumption | omega⟩) (by first | assumption | omega | (dsimp only; first | assumption | omega) | exact Hid.mk (by first | assumption | omega) | exact Hid.mk ⟨fun _ => by first | assumption | omega, fun _ => by first | assumption | omega⟩) (by first | assumption | omega | (dsimp only; first | assumption | omega) | exact Hid.mk (by first | assumption | omega) | exact Hid.mk ⟨fun _ => by first | assumption | omega, fun _ => by first | assumption | omega⟩) (by first | assumption | omega | (dsimp only; first | assumption | omega) | exact Hid.mk (by first | assumption | omega) | exact Hid.mk ⟨fun _ => by first | assumption | omega, fun _ => by first | assumption | omega⟩)) dL_law_686 k804 k805 k0 k806 hd_L_cycles rfl ⟨by omega, by omega⟩ (Nat.le_of_ble_eq_true rfl) ⟨by (try dsimp only); omega, by (try dsimp only); omega⟩ hS (fun x h => h.elim (fun h => h.elim (fun ⟨j, hj, e⟩ => e ▸ hu.2 j hj) (fun h => Nat.le_trans hzH.2.1 h)) (fun e => e ▸ hoθ)) (fun H3 locs hpH3 hszH3 hkH3 hS => ?_)
        obtain ⟨hcw, ho1⟩ := hpH3
        have hzH1 := hz0.at hAB hS
        have hjH1 := hj0.at hAB hS
        have hm1 := lw_cls hLX hw hzH1 hkH3
        refine lv_istore (lv' := [(5, .int (iI 3)), (4, .int (iI i)), (3, .ref o), (2, .ref (w 0)), (1, .ref (u 0)), (0, .ref b)]) hx hb dL_law_689 hl (by decide) rfl (fun ls hl => ?_)
        refine lv_aload_n hx hb dL_law_691 rfl (lv_at hl 3 rfl) ?_
        refine lv_aload_n hx hb dL_law_692 rfl (lv_at hl 5 rfl) ?_
        refine lv_iload hx hb dL_law_693 (lv_at hl 1 rfl) ?_
        refine q_con hx hb dL_law_695 ?_
        refine q_add hx hb dL_law_696 ?_
        refine r_xld hx hb hX hbl hbA hS (i := i + 1) (z := x1) (by omega) hL ex1 dL_law_697 ?_
        refine lv_aload_n hx hb dL_law_698 rfl (lv_at hl 5 rfl) ?_
        refine lv_iload hx hb dL_law_699 (lv_at hl 1 rfl) ?_
        refine q_con hx hb dL_law_701 ?_
        refine q_add hx hb dL_law_702 ?_
        refine r_xld hx hb hX hbl hbA hS (i := i + 2) (z := x2) (by omega) hL ex2 dL_law_703 ?_
        refine c_Vr (As := [.int (iI x1), .int (iI x2)]) (rest := []) (b := w 0) (C := RX3) (r := some (.int (iI 0))) (st1 := [.int (iI 0)]) fx hl (mno3_cycles θ l S0 _ w r q dt sv th bc rf kn hm1 x1 x2 (by first | assumption | omega | (dsimp only; first | assumption | omega) | exact Hid.mk (by first | assumption | omega) | exact Hid.mk ⟨fun _ => by first | assumption | omega, fun _ => by first | assumption | omega⟩) (by first | assumption | omega | (dsimp only; first | assumption | omega) | exact Hid.mk (by first | assumption | omega) | exact Hid.mk ⟨fun _ => by first | assumption | omega, fun _ => by first | assumption | omega⟩) (by first | assumption | omega | (dsimp only; first | assumption | omega) | exact Hid.mk (by first | assumption | omega) | exact Hid.mk ⟨fun _ => by first | assumption | omega, fun _ => by first | assumption | omega⟩) (by first | assumption | omega | (dsimp only; first | assumption | omega) | exact Hid.mk (by first | assumption | omega) | exact Hid.mk ⟨fun _ => by first | assumption | omega, fun _ => by first | assumption | omega⟩) (by first | assumption | omega | (dsimp only; first | assumption | omega) | exact Hid.mk (by first | assumption | omega) | exact Hid.mk ⟨fun _ => by first | assumption | omega, fun _ => by first | assumption | omega⟩)) (ob_recv hK hm1.2.2.1.1 rfl) dL_law_704 k1199 k1200 k1201 k6 k1202 hd_X3_cycles rfl rfl ⟨by omega, by omega⟩ (Nat.le_of_ble_eq_true rfl) ⟨by (try dsimp only); omega, by (try dsimp only); omega⟩ hS (wa_b hm1.2.1 hzH1.2.1) (fun H4 locs hpH4 hszH4 hkH4 hS => ?_)
        obtain ⟨r1, q1, hm2, nr, nq⟩ := hpH4
        have hzH2 := hz0.at hAB hS
        have hL2 := lw_mod hLX hzH2 hu hcw ho1 hfr hfq hm2 nr nq hkH4
        refine lv_istore (lv' := [(6, .int (iI 0)), (5, .int (iI 3)), (4, .int (iI i)), (3, .ref o), (2, .ref (w 0)), (1, .ref (u 0)), (0, .ref b)]) hx hb dL_law_707 hl (by decide) rfl (fun ls hl => ?_)
        refine lv_goto (tgt := 2331) hx hb dL_law_709 (by decide) ?_
        exact kk _ _ _ _ _ ⟨_, _, _, _, _, _, _, _, _, _, hL2⟩ hS (by omega) (by omega) (lv_sub hl [2, 3, 4, 5, 6] rfl)
    · refine lv_aload_n hx hb dL_law_672 rfl (lv_at hl 3 rfl) ?_
      refine lv_aload_n hx hb dL_law_673 rfl (lv_at hl 4 rfl) ?_
      refine lv_iload hx hb dL_law_674 (lv_at hl 0 rfl) ?_
      refine q_con hx hb dL_law_676 ?_
      refine q_add hx hb dL_law_677 ?_
      refine r_xld hx hb hX hbl hbA hS (i := i + 1) (z := x1) (by omega) hL ex1 dL_law_678 ?_
      refine lv_aload_n hx hb dL_law_679 rfl (lv_at hl 4 rfl) ?_
      refine lv_iload hx hb dL_law_680 (lv_at hl 0 rfl) ?_
      refine q_con hx hb dL_law_682 ?_
      refine q_add hx hb dL_law_683 ?_
      refine r_xld hx hb hX hbl hbA hS (i := i + 2) (z := x2) (by omega) hL ex2 dL_law_684 ?_
      refine lv_aload_n hx hb dL_law_685 rfl (lv_at hl 1 rfl) ?_
      refine c_SWr (As := [.ref (u 0), .int (iI x1), .int (iI x2), .ref o]) (rest := []) (r := .int (iI 2)) fx hl (wn2_cycles θ l hl0 S0 _ u dt (fun j => sv j 0) (fun j => sv j 1) (fun j => sv j 2) bc rf kn hcr hjH hn o nv sv9 ho hLX.1 x1 x2 (by first | assumption | omega | (dsimp only; first | assumption | omega) | exact Hid.mk (by first | assumption | omega) | exact Hid.mk ⟨fun _ => by first | assumption | omega, fun _ => by first | assumption | omega⟩) (by first | assumption | omega | (dsimp only; first | assumption | omega) | exact Hid.mk (by first | assumption | omega) | exact Hid.mk ⟨fun _ => by first | assumption | omega, fun _ => by first | assumption | omega⟩) (by first | assumption | omega | (dsimp only; first | assumption | omega) | exact Hid.mk (by first | assumption | omega) | exact Hid.mk ⟨fun _ => by first | assumption | omega, fun _ => by first | assumption | omega⟩) (by first | assumption | omega | (dsimp only; first | assumption | omega) | exact Hid.mk (by first | assumption | omega) | exact Hid.mk ⟨fun _ => by first | assumption | omega, fun _ => by first | assumption | omega⟩)) dL_law_686 k804 k805 k0 k806 hd_L_cycles rfl ⟨by omega, by omega⟩ (Nat.le_of_ble_eq_true rfl) ⟨by (try dsimp only); omega, by (try dsimp only); omega⟩ hS (fun x h => h.elim (fun h => h.elim (fun ⟨j, hj, e⟩ => e ▸ hu.2 j hj) (fun h => Nat.le_trans hzH.2.1 h)) (fun e => e ▸ hoθ)) (fun H5 locs hpH5 hszH5 hkH5 hS => ?_)
      obtain ⟨hcw, ho1⟩ := hpH5
      have hzH1 := hz0.at hAB hS
      have hjH1 := hj0.at hAB hS
      have hm1 := lw_cls hLX hw hzH1 hkH5
      refine lv_istore (lv' := [(5, .int (iI 2)), (4, .int (iI i)), (3, .ref o), (2, .ref (w 0)), (1, .ref (u 0)), (0, .ref b)]) hx hb dL_law_689 hl (by decide) rfl (fun ls hl => ?_)
      refine lv_aload_n hx hb dL_law_691 rfl (lv_at hl 3 rfl) ?_
      refine lv_aload_n hx hb dL_law_692 rfl (lv_at hl 5 rfl) ?_
      refine lv_iload hx hb dL_law_693 (lv_at hl 1 rfl) ?_
      refine q_con hx hb dL_law_695 ?_
      refine q_add hx hb dL_law_696 ?_
      refine r_xld hx hb hX hbl hbA hS (i := i + 1) (z := x1) (by omega) hL ex1 dL_law_697 ?_
      refine lv_aload_n hx hb dL_law_698 rfl (lv_at hl 5 rfl) ?_
      refine lv_iload hx hb dL_law_699 (lv_at hl 1 rfl) ?_
      refine q_con hx hb dL_law_701 ?_
      refine q_add hx hb dL_law_702 ?_
      refine r_xld hx hb hX hbl hbA hS (i := i + 2) (z := x2) (by omega) hL ex2 dL_law_703 ?_
      refine c_Vr (As := [.int (iI x1), .int (iI x2)]) (rest := []) (b := w 0) (C := RX3) (r := some (.int (iI 0))) (st1 := [.int (iI 0)]) fx hl (mno2_cycles θ l S0 _ w r q dt sv th bc rf kn hm1 x1 x2 (by first | assumption | omega | (dsimp only; first | assumption | omega) | exact Hid.mk (by first | assumption | omega) | exact Hid.mk ⟨fun _ => by first | assumption | omega, fun _ => by first | assumption | omega⟩) (by first | assumption | omega | (dsimp only; first | assumption | omega) | exact Hid.mk (by first | assumption | omega) | exact Hid.mk ⟨fun _ => by first | assumption | omega, fun _ => by first | assumption | omega⟩) (by first | assumption | omega | (dsimp only; first | assumption | omega) | exact Hid.mk (by first | assumption | omega) | exact Hid.mk ⟨fun _ => by first | assumption | omega, fun _ => by first | assumption | omega⟩) (by first | assumption | omega | (dsimp only; first | assumption | omega) | exact Hid.mk (by first | assumption | omega) | exact Hid.mk ⟨fun _ => by first | assumption | omega, fun _ => by first | assumption | omega⟩)) (ob_recv hK hm1.2.2.1.1 rfl) dL_law_704 k1199 k1200 k1201 k6 k1202 hd_X3_cycles rfl rfl ⟨by omega, by omega⟩ (Nat.le_of_ble_eq_true rfl) ⟨by (try dsimp only); omega, by (try dsimp only); omega⟩ hS (wa_b hm1.2.1 hzH1.2.1) (fun H6 locs hpH6 hszH6 hkH6 hS => ?_)
      obtain ⟨r1, q1, hm2, nr, nq⟩ := hpH6
      have hzH2 := hz0.at hAB hS
      have hL2 := lw_mod hLX hzH2 hu hcw ho1 hfr hfq hm2 nr nq hkH6
      refine lv_istore (lv' := [(6, .int (iI 0)), (5, .int (iI 2)), (4, .int (iI i)), (3, .ref o), (2, .ref (w 0)), (1, .ref (u 0)), (0, .ref b)]) hx hb dL_law_707 hl (by decide) rfl (fun ls hl => ?_)
      refine lv_goto (tgt := 2331) hx hb dL_law_709 (by decide) ?_
      exact kk _ _ _ _ _ ⟨_, _, _, _, _, _, _, _, _, _, hL2⟩ hS (by omega) (by omega) (lv_sub hl [2, 3, 4, 5, 6] rfl)
  · refine lv_aload_n hx hb dL_law_672 rfl (lv_at hl 3 rfl) ?_
    refine lv_aload_n hx hb dL_law_673 rfl (lv_at hl 4 rfl) ?_
    refine lv_iload hx hb dL_law_674 (lv_at hl 0 rfl) ?_
    refine q_con hx hb dL_law_676 ?_
    refine q_add hx hb dL_law_677 ?_
    refine r_xld hx hb hX hbl hbA hS (i := i + 1) (z := x1) (by omega) hL ex1 dL_law_678 ?_
    refine lv_aload_n hx hb dL_law_679 rfl (lv_at hl 4 rfl) ?_
    refine lv_iload hx hb dL_law_680 (lv_at hl 0 rfl) ?_
    refine q_con hx hb dL_law_682 ?_
    refine q_add hx hb dL_law_683 ?_
    refine r_xld hx hb hX hbl hbA hS (i := i + 2) (z := x2) (by omega) hL ex2 dL_law_684 ?_
    refine lv_aload_n hx hb dL_law_685 rfl (lv_at hl 1 rfl) ?_
    refine c_SWr (As := [.ref (u 0), .int (iI x1), .int (iI x2), .ref o]) (rest := []) (r := .int (iI 1)) fx hl (wn1_cycles θ l hl0 S0 _ u dt (fun j => sv j 0) (fun j => sv j 1) (fun j => sv j 2) bc rf kn hcr hjH hn o nv sv9 ho hLX.1 x1 x2 (by first | assumption | omega | (dsimp only; first | assumption | omega) | exact Hid.mk (by first | assumption | omega) | exact Hid.mk ⟨fun _ => by first | assumption | omega, fun _ => by first | assumption | omega⟩) (by first | assumption | omega | (dsimp only; first | assumption | omega) | exact Hid.mk (by first | assumption | omega) | exact Hid.mk ⟨fun _ => by first | assumption | omega, fun _ => by first | assumption | omega⟩) (by first | assumption | omega | (dsimp only; first | assumption | omega) | exact Hid.mk (by first | assumption | omega) | exact Hid.mk ⟨fun _ => by first | assumption | omega, fun _ => by first | assumption | omega⟩)) dL_law_686 k804 k805 k0 k806 hd_L_cycles rfl ⟨by omega, by omega⟩ (Nat.le_of_ble_eq_true rfl) ⟨by (try dsimp only); omega, by (try dsimp only); omega⟩ hS (fun x h => h.elim (fun h => h.elim (fun ⟨j, hj, e⟩ => e ▸ hu.2 j hj) (fun h => Nat.le_trans hzH.2.1 h)) (fun e => e ▸ hoθ)) (fun H7 locs hpH7 hszH7 hkH7 hS => ?_)
    obtain ⟨hcw, ho1⟩ := hpH7
    have hzH1 := hz0.at hAB hS
    have hjH1 := hj0.at hAB hS
    have hm1 := lw_cls hLX hw hzH1 hkH7
    refine lv_istore (lv' := [(5, .int (iI 1)), (4, .int (iI i)), (3, .ref o), (2, .ref (w 0)), (1, .ref (u 0)), (0, .ref b)]) hx hb dL_law_689 hl (by decide) rfl (fun ls hl => ?_)
    refine lv_aload_n hx hb dL_law_691 rfl (lv_at hl 3 rfl) ?_
    refine lv_aload_n hx hb dL_law_692 rfl (lv_at hl 5 rfl) ?_
    refine lv_iload hx hb dL_law_693 (lv_at hl 1 rfl) ?_
    refine q_con hx hb dL_law_695 ?_
    refine q_add hx hb dL_law_696 ?_
    refine r_xld hx hb hX hbl hbA hS (i := i + 1) (z := x1) (by omega) hL ex1 dL_law_697 ?_
    refine lv_aload_n hx hb dL_law_698 rfl (lv_at hl 5 rfl) ?_
    refine lv_iload hx hb dL_law_699 (lv_at hl 1 rfl) ?_
    refine q_con hx hb dL_law_701 ?_
    refine q_add hx hb dL_law_702 ?_
    refine r_xld hx hb hX hbl hbA hS (i := i + 2) (z := x2) (by omega) hL ex2 dL_law_703 ?_
    refine c_Vr (As := [.int (iI x1), .int (iI x2)]) (rest := []) (b := w 0) (C := RX3) (r := some (.int (iI 0))) (st1 := [.int (iI 0)]) fx hl (mno1_cycles θ l S0 _ w r q dt sv th bc rf kn hm1 x1 x2 (by first | assumption | omega | (dsimp only; first | assumption | omega) | exact Hid.mk (by first | assumption | omega) | exact Hid.mk ⟨fun _ => by first | assumption | omega, fun _ => by first | assumption | omega⟩) (by first | assumption | omega | (dsimp only; first | assumption | omega) | exact Hid.mk (by first | assumption | omega) | exact Hid.mk ⟨fun _ => by first | assumption | omega, fun _ => by first | assumption | omega⟩) (by first | assumption | omega | (dsimp only; first | assumption | omega) | exact Hid.mk (by first | assumption | omega) | exact Hid.mk ⟨fun _ => by first | assumption | omega, fun _ => by first | assumption | omega⟩)) (ob_recv hK hm1.2.2.1.1 rfl) dL_law_704 k1199 k1200 k1201 k6 k1202 hd_X3_cycles rfl rfl ⟨by omega, by omega⟩ (Nat.le_of_ble_eq_true rfl) ⟨by (try dsimp only); omega, by (try dsimp only); omega⟩ hS (wa_b hm1.2.1 hzH1.2.1) (fun H8 locs hpH8 hszH8 hkH8 hS => ?_)
    obtain ⟨r1, q1, hm2, nr, nq⟩ := hpH8
    have hzH2 := hz0.at hAB hS
    have hL2 := lw_mod hLX hzH2 hu hcw ho1 hfr hfq hm2 nr nq hkH8
    refine lv_istore (lv' := [(6, .int (iI 0)), (5, .int (iI 1)), (4, .int (iI i)), (3, .ref o), (2, .ref (w 0)), (1, .ref (u 0)), (0, .ref b)]) hx hb dL_law_707 hl (by decide) rfl (fun ls hl => ?_)
    refine lv_goto (tgt := 2331) hx hb dL_law_709 (by decide) ?_
    exact kk _ _ _ _ _ ⟨_, _, _, _, _, _, _, _, _, _, hL2⟩ hS (by omega) (by omega) (lv_sub hl [2, 3, 4, 5, 6] rfl)

set_option maxHeartbeats 4000000 in
set_option maxRecDepth 100000 in
theorem lc_act {p : Program} {l : Launch} {e : Env} {R : Room} {s : State} {m : MethodId} {args : Array Value} {below : List Frame} {meth : Method} {c : Code} {Q : State → Prop} {θ : TH} {S0 : State} (fx : FX p m c cL_law 7 s args yL_law.cls S0) (hl0 : l.stackTraces = false) (hz0 : SZ θ S0 s.heap) (hj0 : SJ θ S0 s.heap) (hn : NX S0) {u w : Nat → Nat} {o b L : Nat} {xs : Nat → Int32} (hLX : LX u w o) (hoθ : θ.2.2.2 ≤ o) (hX : va_X b L xs s s.heap) (hbl : b < s.heap.size) (hbA : ¬ AJ θ b) (hL : L ≤ 2560) (hRF : 1000 ≤ R.frames ∧ 1000 ≤ R.locals) {H : Heap} {locs : List Loc} {cells slots : Nat} {ls : Array Slot} {i : Int} (hi : 0 ≤ i ∧ i + 5 ≤ (L : Int)) (hw : LWE θ S0 u w o H) (hS : va_S (AJ θ) s.heap H locs) (hRc : cells + 400 ≤ R.cells ∧ slots + 7000 ≤ R.slots) (hl : lv_has ls 7 [(4, .int (iI i)), (3, .ref o), (2, .ref (w 0)), (1, .ref (u 0)), (0, .ref b)]) (kk : LK p l e R s m args below meth c Q θ S0 u w o b i cells slots 2331) : W p l e R s m args below meth c H locs cells slots Q (F0 m 712 ls []) := by
  obtain ⟨hx, hb, hml, hown, hts⟩ := id fx.1
  have hAB : ∀ x : Nat, AJ θ x → θ.2.2.2 ≤ x := fun _ h => h
  obtain ⟨r, q, dt, sv, th, bc, rf, kn, nv, sv9, hw⟩ := hw
  obtain ⟨hcr, hmr, ho, hfr, hfq⟩ := id hw
  have hzH := hz0.at hAB hS
  have hjH := hj0.at hAB hS
  have hK := sz_K fx.2 hz0
  have hu := hcr.2.1
  obtain ⟨x1, ex1⟩ : ∃ z : Int, z = (xs (i + 1).toNat).toInt := ⟨_, rfl⟩
  have bx1 := x32_b ex1
  obtain ⟨x2, ex2⟩ : ∃ z : Int, z = (xs (i + 2).toNat).toInt := ⟨_, rfl⟩
  have bx2 := x32_b ex2
  obtain ⟨x3, ex3⟩ : ∃ z : Int, z = (xs (i + 3).toNat).toInt := ⟨_, rfl⟩
  have bx3 := x32_b ex3
  obtain ⟨x4, ex4⟩ : ∃ z : Int, z = (xs (i + 4).toNat).toInt := ⟨_, rfl⟩
  have bx4 := x32_b ex4
  by_cases hb3 : x3 = 0
  · by_cases hb4 : x4 = 0
    · obtain ⟨n9, en9⟩ : ∃ z : Int, z = 12 * sv x2.toNat 0 + sv x2.toNat 1 := ⟨_, rfl⟩
      obtain ⟨k9, ek9⟩ : ∃ z : Int, z = sv x2.toNat 2 := ⟨_, rfl⟩
      obtain ⟨r9, er9⟩ : ∃ z : Int, z = shI (dt x1.toNat) n9 + k9 := ⟨_, rfl⟩
      by_cases hc1 : 0 ≤ x1 ∧ x1 < 6
      · by_cases hc2 : 0 ≤ x2 ∧ x2 < 3
        · by_cases hc3 : -4371587 ≤ r9 ∧ r9 ≤ 2932896
          · refine lv_aload_n hx hb dL_law_712 rfl (lv_at hl 3 rfl) ?_
            refine lv_aload_n hx hb dL_law_713 rfl (lv_at hl 4 rfl) ?_
            refine lv_iload hx hb dL_law_714 (lv_at hl 0 rfl) ?_
            refine q_con hx hb dL_law_716 ?_
            refine q_add hx hb dL_law_717 ?_
            refine r_xld hx hb hX hbl hbA hS (i := i + 1) (z := x1) (by omega) hL ex1 dL_law_718 ?_
            refine lv_aload_n hx hb dL_law_719 rfl (lv_at hl 4 rfl) ?_
            refine lv_iload hx hb dL_law_720 (lv_at hl 0 rfl) ?_
            refine q_con hx hb dL_law_722 ?_
            refine q_add hx hb dL_law_723 ?_
            refine r_xld hx hb hX hbl hbA hS (i := i + 2) (z := x2) (by omega) hL ex2 dL_law_724 ?_
            refine lv_aload_n hx hb dL_law_725 rfl (lv_at hl 4 rfl) ?_
            refine lv_iload hx hb dL_law_726 (lv_at hl 0 rfl) ?_
            refine q_con hx hb dL_law_728 ?_
            refine q_add hx hb dL_law_729 ?_
            refine r_xld hx hb hX hbl hbA hS (i := i + 3) (z := x3) (by omega) hL ex3 dL_law_730 ?_
            refine q_ieq (tgt := 738) hx hb dL_law_731 (by decide) (by omega) (fun c1 => ?_) (fun c1 => ?_)
            · refine q_con hx hb dL_law_738 ?_
              refine lv_aload_n hx hb dL_law_739 rfl (lv_at hl 4 rfl) ?_
              refine lv_iload hx hb dL_law_740 (lv_at hl 0 rfl) ?_
              refine q_con hx hb dL_law_742 ?_
              refine q_add hx hb dL_law_743 ?_
              refine r_xld hx hb hX hbl hbA hS (i := i + 4) (z := x4) (by omega) hL ex4 dL_law_744 ?_
              refine q_ieq (tgt := 752) hx hb dL_law_745 (by decide) (by omega) (fun c2 => ?_) (fun c2 => ?_)
              · refine q_con hx hb dL_law_752 ?_
                refine lv_aload_n hx hb dL_law_753 rfl (lv_at hl 1 rfl) ?_
                refine c_SWr (As := [.ref (u 0), .int (iI x1), .int (iI x2), .int (iI 0), .int (iI 0), .ref o]) (rest := []) (r := .int (iI 0)) fx hl (wr_act θ l hl0 S0 _ u dt (fun j => sv j 0) (fun j => sv j 1) (fun j => sv j 2) bc rf kn hcr hjH hn o nv sv9 ho hLX.1 x1 x2 0 0 n9 k9 r9 (by first | assumption | omega | (dsimp only; first | assumption | omega) | exact Hid.mk (by first | assumption | omega) | exact Hid.mk ⟨fun _ => by first | assumption | omega, fun _ => by first | assumption | omega⟩) (by first | assumption | omega | (dsimp only; first | assumption | omega) | exact Hid.mk (by first | assumption | omega) | exact Hid.mk ⟨fun _ => by first | assumption | omega, fun _ => by first | assumption | omega⟩) (by first | assumption | omega | (dsimp only; first | assumption | omega) | exact Hid.mk (by first | assumption | omega) | exact Hid.mk ⟨fun _ => by first | assumption | omega, fun _ => by first | assumption | omega⟩) (by first | assumption | omega | (dsimp only; first | assumption | omega) | exact Hid.mk (by first | assumption | omega) | exact Hid.mk ⟨fun _ => by first | assumption | omega, fun _ => by first | assumption | omega⟩) (by first | assumption | omega | (dsimp only; first | assumption | omega) | exact Hid.mk (by first | assumption | omega) | exact Hid.mk ⟨fun _ => by first | assumption | omega, fun _ => by first | assumption | omega⟩) (by first | assumption | omega | (dsimp only; first | assumption | omega) | exact Hid.mk (by first | assumption | omega) | exact Hid.mk ⟨fun _ => by first | assumption | omega, fun _ => by first | assumption | omega⟩) (by first | assumption | omega | (dsimp only; first | assumption | omega) | exact Hid.mk (by first | assumption | omega) | exact Hid.mk ⟨fun _ => by first | assumption | omega, fun _ => by first | assumption | omega⟩) (by first | assumption | omega | (dsimp only; first | assumption | omega) | exact Hid.mk (by first | assumption | omega) | exact Hid.mk ⟨fun _ => by first | assumption | omega, fun _ => by first | assumption | omega⟩) (by first | assumption | omega | (dsimp only; first | assumption | omega) | exact Hid.mk (by first | assumption | omega) | exact Hid.mk ⟨fun _ => by first | assumption | omega, fun _ => by first | assumption | omega⟩) (by first | assumption | omega | (dsimp only; first | assumption | omega) | exact Hid.mk (by first | assumption | omega) | exact Hid.mk ⟨fun _ => by first | assumption | omega, fun _ => by first | assumption | omega⟩) (by first | assumption | omega | (dsimp only; first | assumption | omega) | exact Hid.mk (by first | assumption | omega) | exact Hid.mk ⟨fun _ => by first | assumption | omega, fun _ => by first | assumption | omega⟩) (by first | assumption | omega | (dsimp only; first | assumption | omega) | exact Hid.mk (by first | assumption | omega) | exact Hid.mk ⟨fun _ => by first | assumption | omega, fun _ => by first | assumption | omega⟩)) dL_law_754 k811 k812 k0 k813 hd_L_act rfl ⟨by omega, by omega⟩ (Nat.le_of_ble_eq_true rfl) ⟨by (try dsimp only); omega, by (try dsimp only); omega⟩ hS (fun x h => h.elim (fun h => h.elim (fun ⟨j, hj, e⟩ => e ▸ hu.2 j hj) (fun h => Nat.le_trans hzH.2.1 h)) (fun e => e ▸ hoθ)) (fun H3 locs hpH3 hszH3 hkH3 hS => ?_)
                obtain ⟨hcw, ho1⟩ := hpH3
                have hzH1 := hz0.at hAB hS
                have hjH1 := hj0.at hAB hS
                have hm1 := lw_cls hLX hw hzH1 hkH3
                refine lv_istore (lv' := [(5, .int (iI 0)), (4, .int (iI i)), (3, .ref o), (2, .ref (w 0)), (1, .ref (u 0)), (0, .ref b)]) hx hb dL_law_757 hl (by decide) rfl (fun ls hl => ?_)
                refine lv_aload_n hx hb dL_law_759 rfl (lv_at hl 3 rfl) ?_
                refine lv_aload_n hx hb dL_law_760 rfl (lv_at hl 5 rfl) ?_
                refine lv_iload hx hb dL_law_761 (lv_at hl 1 rfl) ?_
                refine q_con hx hb dL_law_763 ?_
                refine q_add hx hb dL_law_764 ?_
                refine r_xld hx hb hX hbl hbA hS (i := i + 1) (z := x1) (by omega) hL ex1 dL_law_765 ?_
                refine lv_aload_n hx hb dL_law_766 rfl (lv_at hl 5 rfl) ?_
                refine lv_iload hx hb dL_law_767 (lv_at hl 1 rfl) ?_
                refine q_con hx hb dL_law_769 ?_
                refine q_add hx hb dL_law_770 ?_
                refine r_xld hx hb hX hbl hbA hS (i := i + 2) (z := x2) (by omega) hL ex2 dL_law_771 ?_
                refine lv_aload_n hx hb dL_law_772 rfl (lv_at hl 5 rfl) ?_
                refine lv_iload hx hb dL_law_773 (lv_at hl 1 rfl) ?_
                refine q_con hx hb dL_law_775 ?_
                refine q_add hx hb dL_law_776 ?_
                refine r_xld hx hb hX hbl hbA hS (i := i + 3) (z := x3) (by omega) hL ex3 dL_law_777 ?_
                refine q_ieq (tgt := 785) hx hb dL_law_778 (by decide) (by omega) (fun c4 => ?_) (fun c4 => ?_)
                · refine q_con hx hb dL_law_785 ?_
                  refine lv_aload_n hx hb dL_law_786 rfl (lv_at hl 5 rfl) ?_
                  refine lv_iload hx hb dL_law_787 (lv_at hl 1 rfl) ?_
                  refine q_con hx hb dL_law_789 ?_
                  refine q_add hx hb dL_law_790 ?_
                  refine r_xld hx hb hX hbl hbA hS (i := i + 4) (z := x4) (by omega) hL ex4 dL_law_791 ?_
                  refine q_ieq (tgt := 799) hx hb dL_law_792 (by decide) (by omega) (fun c5 => ?_) (fun c5 => ?_)
                  · refine q_con hx hb dL_law_799 ?_
                    refine c_Vr (As := [.int (iI x1), .int (iI x2), .int (iI 0), .int (iI 0)]) (rest := []) (b := w 0) (C := RX3) (r := some (.int (iI r9))) (st1 := [.int (iI r9)]) fx hl (mok_act θ l S0 _ w r q dt sv th bc rf kn hm1 x1 x2 0 0 n9 k9 r9 (by first | assumption | omega | (dsimp only; first | assumption | omega) | exact Hid.mk (by first | assumption | omega) | exact Hid.mk ⟨fun _ => by first | assumption | omega, fun _ => by first | assumption | omega⟩) (by first | assumption | omega | (dsimp only; first | assumption | omega) | exact Hid.mk (by first | assumption | omega) | exact Hid.mk ⟨fun _ => by first | assumption | omega, fun _ => by first | assumption | omega⟩) (by first | assumption | omega | (dsimp only; first | assumption | omega) | exact Hid.mk (by first | assumption | omega) | exact Hid.mk ⟨fun _ => by first | assumption | omega, fun _ => by first | assumption | omega⟩) (by first | assumption | omega | (dsimp only; first | assumption | omega) | exact Hid.mk (by first | assumption | omega) | exact Hid.mk ⟨fun _ => by first | assumption | omega, fun _ => by first | assumption | omega⟩) (by first | assumption | omega | (dsimp only; first | assumption | omega) | exact Hid.mk (by first | assumption | omega) | exact Hid.mk ⟨fun _ => by first | assumption | omega, fun _ => by first | assumption | omega⟩) (by first | assumption | omega | (dsimp only; first | assumption | omega) | exact Hid.mk (by first | assumption | omega) | exact Hid.mk ⟨fun _ => by first | assumption | omega, fun _ => by first | assumption | omega⟩) (by first | assumption | omega | (dsimp only; first | assumption | omega) | exact Hid.mk (by first | assumption | omega) | exact Hid.mk ⟨fun _ => by first | assumption | omega, fun _ => by first | assumption | omega⟩) (by first | assumption | omega | (dsimp only; first | assumption | omega) | exact Hid.mk (by first | assumption | omega) | exact Hid.mk ⟨fun _ => by first | assumption | omega, fun _ => by first | assumption | omega⟩) (by first | assumption | omega | (dsimp only; first | assumption | omega) | exact Hid.mk (by first | assumption | omega) | exact Hid.mk ⟨fun _ => by first | assumption | omega, fun _ => by first | assumption | omega⟩) (by first | assumption | omega | (dsimp only; first | assumption | omega) | exact Hid.mk (by first | assumption | omega) | exact Hid.mk ⟨fun _ => by first | assumption | omega, fun _ => by first | assumption | omega⟩) (by first | assumption | omega | (dsimp only; first | assumption | omega) | exact Hid.mk (by first | assumption | omega) | exact Hid.mk ⟨fun _ => by first | assumption | omega, fun _ => by first | assumption | omega⟩) (by first | assumption | omega | (dsimp only; first | assumption | omega) | exact Hid.mk (by first | assumption | omega) | exact Hid.mk ⟨fun _ => by first | assumption | omega, fun _ => by first | assumption | omega⟩)) (ob_recv hK hm1.2.2.1.1 rfl) dL_law_800 k1203 k1204 k1205 k6 k1206 hd_X3_act rfl rfl ⟨by omega, by omega⟩ (Nat.le_of_ble_eq_true rfl) ⟨by (try dsimp only); omega, by (try dsimp only); omega⟩ hS (wa_b hm1.2.1 hzH1.2.1) (fun H6 locs hpH6 hszH6 hkH6 hS => ?_)
                    obtain ⟨r1, q1, hm2, nr, nq⟩ := hpH6
                    have hzH2 := hz0.at hAB hS
                    have hL2 := lw_mod hLX hzH2 hu hcw ho1 hfr hfq hm2 nr nq hkH6
                    refine lv_istore (lv' := [(6, .int (iI r9)), (5, .int (iI 0)), (4, .int (iI i)), (3, .ref o), (2, .ref (w 0)), (1, .ref (u 0)), (0, .ref b)]) hx hb dL_law_803 hl (by decide) rfl (fun ls hl => ?_)
                    refine lv_goto (tgt := 2331) hx hb dL_law_805 (by decide) ?_
                    exact kk _ _ _ _ _ ⟨_, _, _, _, _, _, _, _, _, _, hL2⟩ hS (by omega) (by omega) (lv_sub hl [2, 3, 4, 5, 6] rfl)
                  · exact (show False by omega).elim
                · exact (show False by omega).elim
              · exact (show False by omega).elim
            · exact (show False by omega).elim
          · refine lv_aload_n hx hb dL_law_712 rfl (lv_at hl 3 rfl) ?_
            refine lv_aload_n hx hb dL_law_713 rfl (lv_at hl 4 rfl) ?_
            refine lv_iload hx hb dL_law_714 (lv_at hl 0 rfl) ?_
            refine q_con hx hb dL_law_716 ?_
            refine q_add hx hb dL_law_717 ?_
            refine r_xld hx hb hX hbl hbA hS (i := i + 1) (z := x1) (by omega) hL ex1 dL_law_718 ?_
            refine lv_aload_n hx hb dL_law_719 rfl (lv_at hl 4 rfl) ?_
            refine lv_iload hx hb dL_law_720 (lv_at hl 0 rfl) ?_
            refine q_con hx hb dL_law_722 ?_
            refine q_add hx hb dL_law_723 ?_
            refine r_xld hx hb hX hbl hbA hS (i := i + 2) (z := x2) (by omega) hL ex2 dL_law_724 ?_
            refine lv_aload_n hx hb dL_law_725 rfl (lv_at hl 4 rfl) ?_
            refine lv_iload hx hb dL_law_726 (lv_at hl 0 rfl) ?_
            refine q_con hx hb dL_law_728 ?_
            refine q_add hx hb dL_law_729 ?_
            refine r_xld hx hb hX hbl hbA hS (i := i + 3) (z := x3) (by omega) hL ex3 dL_law_730 ?_
            refine q_ieq (tgt := 738) hx hb dL_law_731 (by decide) (by omega) (fun c7 => ?_) (fun c7 => ?_)
            · refine q_con hx hb dL_law_738 ?_
              refine lv_aload_n hx hb dL_law_739 rfl (lv_at hl 4 rfl) ?_
              refine lv_iload hx hb dL_law_740 (lv_at hl 0 rfl) ?_
              refine q_con hx hb dL_law_742 ?_
              refine q_add hx hb dL_law_743 ?_
              refine r_xld hx hb hX hbl hbA hS (i := i + 4) (z := x4) (by omega) hL ex4 dL_law_744 ?_
              refine q_ieq (tgt := 752) hx hb dL_law_745 (by decide) (by omega) (fun c8 => ?_) (fun c8 => ?_)
              · refine q_con hx hb dL_law_752 ?_
                refine lv_aload_n hx hb dL_law_753 rfl (lv_at hl 1 rfl) ?_
                refine c_SWr (As := [.ref (u 0), .int (iI x1), .int (iI x2), .int (iI 0), .int (iI 0), .ref o]) (rest := []) (r := .int (iI 2)) fx hl (wn3_act θ l hl0 S0 _ u dt (fun j => sv j 0) (fun j => sv j 1) (fun j => sv j 2) bc rf kn hcr hjH hn o nv sv9 ho hLX.1 x1 x2 0 0 n9 k9 r9 (by first | assumption | omega | (dsimp only; first | assumption | omega) | exact Hid.mk (by first | assumption | omega) | exact Hid.mk ⟨fun _ => by first | assumption | omega, fun _ => by first | assumption | omega⟩) (by first | assumption | omega | (dsimp only; first | assumption | omega) | exact Hid.mk (by first | assumption | omega) | exact Hid.mk ⟨fun _ => by first | assumption | omega, fun _ => by first | assumption | omega⟩) (by first | assumption | omega | (dsimp only; first | assumption | omega) | exact Hid.mk (by first | assumption | omega) | exact Hid.mk ⟨fun _ => by first | assumption | omega, fun _ => by first | assumption | omega⟩) (by first | assumption | omega | (dsimp only; first | assumption | omega) | exact Hid.mk (by first | assumption | omega) | exact Hid.mk ⟨fun _ => by first | assumption | omega, fun _ => by first | assumption | omega⟩) (by first | assumption | omega | (dsimp only; first | assumption | omega) | exact Hid.mk (by first | assumption | omega) | exact Hid.mk ⟨fun _ => by first | assumption | omega, fun _ => by first | assumption | omega⟩) (by first | assumption | omega | (dsimp only; first | assumption | omega) | exact Hid.mk (by first | assumption | omega) | exact Hid.mk ⟨fun _ => by first | assumption | omega, fun _ => by first | assumption | omega⟩) (by first | assumption | omega | (dsimp only; first | assumption | omega) | exact Hid.mk (by first | assumption | omega) | exact Hid.mk ⟨fun _ => by first | assumption | omega, fun _ => by first | assumption | omega⟩) (by first | assumption | omega | (dsimp only; first | assumption | omega) | exact Hid.mk (by first | assumption | omega) | exact Hid.mk ⟨fun _ => by first | assumption | omega, fun _ => by first | assumption | omega⟩) (by first | assumption | omega | (dsimp only; first | assumption | omega) | exact Hid.mk (by first | assumption | omega) | exact Hid.mk ⟨fun _ => by first | assumption | omega, fun _ => by first | assumption | omega⟩) (by first | assumption | omega | (dsimp only; first | assumption | omega) | exact Hid.mk (by first | assumption | omega) | exact Hid.mk ⟨fun _ => by first | assumption | omega, fun _ => by first | assumption | omega⟩) (by first | assumption | omega | (dsimp only; first | assumption | omega) | exact Hid.mk (by first | assumption | omega) | exact Hid.mk ⟨fun _ => by first | assumption | omega, fun _ => by first | assumption | omega⟩) (by first | assumption | omega | (dsimp only; first | assumption | omega) | exact Hid.mk (by first | assumption | omega) | exact Hid.mk ⟨fun _ => by first | assumption | omega, fun _ => by first | assumption | omega⟩)) dL_law_754 k811 k812 k0 k813 hd_L_act rfl ⟨by omega, by omega⟩ (Nat.le_of_ble_eq_true rfl) ⟨by (try dsimp only); omega, by (try dsimp only); omega⟩ hS (fun x h => h.elim (fun h => h.elim (fun ⟨j, hj, e⟩ => e ▸ hu.2 j hj) (fun h => Nat.le_trans hzH.2.1 h)) (fun e => e ▸ hoθ)) (fun H9 locs hpH9 hszH9 hkH9 hS => ?_)
                obtain ⟨hcw, ho1⟩ := hpH9
                have hzH1 := hz0.at hAB hS
                have hjH1 := hj0.at hAB hS
                have hm1 := lw_cls hLX hw hzH1 hkH9
                refine lv_istore (lv' := [(5, .int (iI 2)), (4, .int (iI i)), (3, .ref o), (2, .ref (w 0)), (1, .ref (u 0)), (0, .ref b)]) hx hb dL_law_757 hl (by decide) rfl (fun ls hl => ?_)
                refine lv_aload_n hx hb dL_law_759 rfl (lv_at hl 3 rfl) ?_
                refine lv_aload_n hx hb dL_law_760 rfl (lv_at hl 5 rfl) ?_
                refine lv_iload hx hb dL_law_761 (lv_at hl 1 rfl) ?_
                refine q_con hx hb dL_law_763 ?_
                refine q_add hx hb dL_law_764 ?_
                refine r_xld hx hb hX hbl hbA hS (i := i + 1) (z := x1) (by omega) hL ex1 dL_law_765 ?_
                refine lv_aload_n hx hb dL_law_766 rfl (lv_at hl 5 rfl) ?_
                refine lv_iload hx hb dL_law_767 (lv_at hl 1 rfl) ?_
                refine q_con hx hb dL_law_769 ?_
                refine q_add hx hb dL_law_770 ?_
                refine r_xld hx hb hX hbl hbA hS (i := i + 2) (z := x2) (by omega) hL ex2 dL_law_771 ?_
                refine lv_aload_n hx hb dL_law_772 rfl (lv_at hl 5 rfl) ?_
                refine lv_iload hx hb dL_law_773 (lv_at hl 1 rfl) ?_
                refine q_con hx hb dL_law_775 ?_
                refine q_add hx hb dL_law_776 ?_
                refine r_xld hx hb hX hbl hbA hS (i := i + 3) (z := x3) (by omega) hL ex3 dL_law_777 ?_
                refine q_ieq (tgt := 785) hx hb dL_law_778 (by decide) (by omega) (fun c10 => ?_) (fun c10 => ?_)
                · refine q_con hx hb dL_law_785 ?_
                  refine lv_aload_n hx hb dL_law_786 rfl (lv_at hl 5 rfl) ?_
                  refine lv_iload hx hb dL_law_787 (lv_at hl 1 rfl) ?_
                  refine q_con hx hb dL_law_789 ?_
                  refine q_add hx hb dL_law_790 ?_
                  refine r_xld hx hb hX hbl hbA hS (i := i + 4) (z := x4) (by omega) hL ex4 dL_law_791 ?_
                  refine q_ieq (tgt := 799) hx hb dL_law_792 (by decide) (by omega) (fun c11 => ?_) (fun c11 => ?_)
                  · refine q_con hx hb dL_law_799 ?_
                    refine c_Vr (As := [.int (iI x1), .int (iI x2), .int (iI 0), .int (iI 0)]) (rest := []) (b := w 0) (C := RX3) (r := some (.int (iI 0))) (st1 := [.int (iI 0)]) fx hl (mno3_act θ l S0 _ w r q dt sv th bc rf kn hm1 x1 x2 0 0 n9 k9 r9 (by first | assumption | omega | (dsimp only; first | assumption | omega) | exact Hid.mk (by first | assumption | omega) | exact Hid.mk ⟨fun _ => by first | assumption | omega, fun _ => by first | assumption | omega⟩) (by first | assumption | omega | (dsimp only; first | assumption | omega) | exact Hid.mk (by first | assumption | omega) | exact Hid.mk ⟨fun _ => by first | assumption | omega, fun _ => by first | assumption | omega⟩) (by first | assumption | omega | (dsimp only; first | assumption | omega) | exact Hid.mk (by first | assumption | omega) | exact Hid.mk ⟨fun _ => by first | assumption | omega, fun _ => by first | assumption | omega⟩) (by first | assumption | omega | (dsimp only; first | assumption | omega) | exact Hid.mk (by first | assumption | omega) | exact Hid.mk ⟨fun _ => by first | assumption | omega, fun _ => by first | assumption | omega⟩) (by first | assumption | omega | (dsimp only; first | assumption | omega) | exact Hid.mk (by first | assumption | omega) | exact Hid.mk ⟨fun _ => by first | assumption | omega, fun _ => by first | assumption | omega⟩) (by first | assumption | omega | (dsimp only; first | assumption | omega) | exact Hid.mk (by first | assumption | omega) | exact Hid.mk ⟨fun _ => by first | assumption | omega, fun _ => by first | assumption | omega⟩) (by first | assumption | omega | (dsimp only; first | assumption | omega) | exact Hid.mk (by first | assumption | omega) | exact Hid.mk ⟨fun _ => by first | assumption | omega, fun _ => by first | assumption | omega⟩) (by first | assumption | omega | (dsimp only; first | assumption | omega) | exact Hid.mk (by first | assumption | omega) | exact Hid.mk ⟨fun _ => by first | assumption | omega, fun _ => by first | assumption | omega⟩) (by first | assumption | omega | (dsimp only; first | assumption | omega) | exact Hid.mk (by first | assumption | omega) | exact Hid.mk ⟨fun _ => by first | assumption | omega, fun _ => by first | assumption | omega⟩) (by first | assumption | omega | (dsimp only; first | assumption | omega) | exact Hid.mk (by first | assumption | omega) | exact Hid.mk ⟨fun _ => by first | assumption | omega, fun _ => by first | assumption | omega⟩) (by first | assumption | omega | (dsimp only; first | assumption | omega) | exact Hid.mk (by first | assumption | omega) | exact Hid.mk ⟨fun _ => by first | assumption | omega, fun _ => by first | assumption | omega⟩) (by first | assumption | omega | (dsimp only; first | assumption | omega) | exact Hid.mk (by first | assumption | omega) | exact Hid.mk ⟨fun _ => by first | assumption | omega, fun _ => by first | assumption | omega⟩)) (ob_recv hK hm1.2.2.1.1 rfl) dL_law_800 k1203 k1204 k1205 k6 k1206 hd_X3_act rfl rfl ⟨by omega, by omega⟩ (Nat.le_of_ble_eq_true rfl) ⟨by (try dsimp only); omega, by (try dsimp only); omega⟩ hS (wa_b hm1.2.1 hzH1.2.1) (fun H12 locs hpH12 hszH12 hkH12 hS => ?_)
                    obtain ⟨r1, q1, hm2, nr, nq⟩ := hpH12
                    have hzH2 := hz0.at hAB hS
                    have hL2 := lw_mod hLX hzH2 hu hcw ho1 hfr hfq hm2 nr nq hkH12
                    refine lv_istore (lv' := [(6, .int (iI 0)), (5, .int (iI 2)), (4, .int (iI i)), (3, .ref o), (2, .ref (w 0)), (1, .ref (u 0)), (0, .ref b)]) hx hb dL_law_803 hl (by decide) rfl (fun ls hl => ?_)
                    refine lv_goto (tgt := 2331) hx hb dL_law_805 (by decide) ?_
                    exact kk _ _ _ _ _ ⟨_, _, _, _, _, _, _, _, _, _, hL2⟩ hS (by omega) (by omega) (lv_sub hl [2, 3, 4, 5, 6] rfl)
                  · exact (show False by omega).elim
                · exact (show False by omega).elim
              · exact (show False by omega).elim
            · exact (show False by omega).elim
        · refine lv_aload_n hx hb dL_law_712 rfl (lv_at hl 3 rfl) ?_
          refine lv_aload_n hx hb dL_law_713 rfl (lv_at hl 4 rfl) ?_
          refine lv_iload hx hb dL_law_714 (lv_at hl 0 rfl) ?_
          refine q_con hx hb dL_law_716 ?_
          refine q_add hx hb dL_law_717 ?_
          refine r_xld hx hb hX hbl hbA hS (i := i + 1) (z := x1) (by omega) hL ex1 dL_law_718 ?_
          refine lv_aload_n hx hb dL_law_719 rfl (lv_at hl 4 rfl) ?_
          refine lv_iload hx hb dL_law_720 (lv_at hl 0 rfl) ?_
          refine q_con hx hb dL_law_722 ?_
          refine q_add hx hb dL_law_723 ?_
          refine r_xld hx hb hX hbl hbA hS (i := i + 2) (z := x2) (by omega) hL ex2 dL_law_724 ?_
          refine lv_aload_n hx hb dL_law_725 rfl (lv_at hl 4 rfl) ?_
          refine lv_iload hx hb dL_law_726 (lv_at hl 0 rfl) ?_
          refine q_con hx hb dL_law_728 ?_
          refine q_add hx hb dL_law_729 ?_
          refine r_xld hx hb hX hbl hbA hS (i := i + 3) (z := x3) (by omega) hL ex3 dL_law_730 ?_
          refine q_ieq (tgt := 738) hx hb dL_law_731 (by decide) (by omega) (fun c13 => ?_) (fun c13 => ?_)
          · refine q_con hx hb dL_law_738 ?_
            refine lv_aload_n hx hb dL_law_739 rfl (lv_at hl 4 rfl) ?_
            refine lv_iload hx hb dL_law_740 (lv_at hl 0 rfl) ?_
            refine q_con hx hb dL_law_742 ?_
            refine q_add hx hb dL_law_743 ?_
            refine r_xld hx hb hX hbl hbA hS (i := i + 4) (z := x4) (by omega) hL ex4 dL_law_744 ?_
            refine q_ieq (tgt := 752) hx hb dL_law_745 (by decide) (by omega) (fun c14 => ?_) (fun c14 => ?_)
            · refine q_con hx hb dL_law_752 ?_
              refine lv_aload_n hx hb dL_law_753 rfl (lv_at hl 1 rfl) ?_
              refine c_SWr (As := [.ref (u 0), .int (iI x1), .int (iI x2), .int (iI 0), .int (iI 0), .ref o]) (rest := []) (r := .int (iI 1)) fx hl (wn2_act θ l hl0 S0 _ u dt (fun j => sv j 0) (fun j => sv j 1) (fun j => sv j 2) bc rf kn hcr hjH hn o nv sv9 ho hLX.1 x1 x2 0 0 n9 k9 r9 (by first | assumption | omega | (dsimp only; first | assumption | omega) | exact Hid.mk (by first | assumption | omega) | exact Hid.mk ⟨fun _ => by first | assumption | omega, fun _ => by first | assumption | omega⟩) (by first | assumption | omega | (dsimp only; first | assumption | omega) | exact Hid.mk (by first | assumption | omega) | exact Hid.mk ⟨fun _ => by first | assumption | omega, fun _ => by first | assumption | omega⟩) (by first | assumption | omega | (dsimp only; first | assumption | omega) | exact Hid.mk (by first | assumption | omega) | exact Hid.mk ⟨fun _ => by first | assumption | omega, fun _ => by first | assumption | omega⟩) (by first | assumption | omega | (dsimp only; first | assumption | omega) | exact Hid.mk (by first | assumption | omega) | exact Hid.mk ⟨fun _ => by first | assumption | omega, fun _ => by first | assumption | omega⟩) (by first | assumption | omega | (dsimp only; first | assumption | omega) | exact Hid.mk (by first | assumption | omega) | exact Hid.mk ⟨fun _ => by first | assumption | omega, fun _ => by first | assumption | omega⟩) (by first | assumption | omega | (dsimp only; first | assumption | omega) | exact Hid.mk (by first | assumption | omega) | exact Hid.mk ⟨fun _ => by first | assumption | omega, fun _ => by first | assumption | omega⟩) (by first | assumption | omega | (dsimp only; first | assumption | omega) | exact Hid.mk (by first | assumption | omega) | exact Hid.mk ⟨fun _ => by first | assumption | omega, fun _ => by first | assumption | omega⟩) (by first | assumption | omega | (dsimp only; first | assumption | omega) | exact Hid.mk (by first | assumption | omega) | exact Hid.mk ⟨fun _ => by first | assumption | omega, fun _ => by first | assumption | omega⟩) (by first | assumption | omega | (dsimp only; first | assumption | omega) | exact Hid.mk (by first | assumption | omega) | exact Hid.mk ⟨fun _ => by first | assumption | omega, fun _ => by first | assumption | omega⟩) (by first | assumption | omega | (dsimp only; first | assumption | omega) | exact Hid.mk (by first | assumption | omega) | exact Hid.mk ⟨fun _ => by first | assumption | omega, fun _ => by first | assumption | omega⟩) (by first | assumption | omega | (dsimp only; first | assumption | omega) | exact Hid.mk (by first | assumption | omega) | exact Hid.mk ⟨fun _ => by first | assumption | omega, fun _ => by first | assumption | omega⟩)) dL_law_754 k811 k812 k0 k813 hd_L_act rfl ⟨by omega, by omega⟩ (Nat.le_of_ble_eq_true rfl) ⟨by (try dsimp only); omega, by (try dsimp only); omega⟩ hS (fun x h => h.elim (fun h => h.elim (fun ⟨j, hj, e⟩ => e ▸ hu.2 j hj) (fun h => Nat.le_trans hzH.2.1 h)) (fun e => e ▸ hoθ)) (fun H15 locs hpH15 hszH15 hkH15 hS => ?_)
              obtain ⟨hcw, ho1⟩ := hpH15
              have hzH1 := hz0.at hAB hS
              have hjH1 := hj0.at hAB hS
              have hm1 := lw_cls hLX hw hzH1 hkH15
              refine lv_istore (lv' := [(5, .int (iI 1)), (4, .int (iI i)), (3, .ref o), (2, .ref (w 0)), (1, .ref (u 0)), (0, .ref b)]) hx hb dL_law_757 hl (by decide) rfl (fun ls hl => ?_)
              refine lv_aload_n hx hb dL_law_759 rfl (lv_at hl 3 rfl) ?_
              refine lv_aload_n hx hb dL_law_760 rfl (lv_at hl 5 rfl) ?_
              refine lv_iload hx hb dL_law_761 (lv_at hl 1 rfl) ?_
              refine q_con hx hb dL_law_763 ?_
              refine q_add hx hb dL_law_764 ?_
              refine r_xld hx hb hX hbl hbA hS (i := i + 1) (z := x1) (by omega) hL ex1 dL_law_765 ?_
              refine lv_aload_n hx hb dL_law_766 rfl (lv_at hl 5 rfl) ?_
              refine lv_iload hx hb dL_law_767 (lv_at hl 1 rfl) ?_
              refine q_con hx hb dL_law_769 ?_
              refine q_add hx hb dL_law_770 ?_
              refine r_xld hx hb hX hbl hbA hS (i := i + 2) (z := x2) (by omega) hL ex2 dL_law_771 ?_
              refine lv_aload_n hx hb dL_law_772 rfl (lv_at hl 5 rfl) ?_
              refine lv_iload hx hb dL_law_773 (lv_at hl 1 rfl) ?_
              refine q_con hx hb dL_law_775 ?_
              refine q_add hx hb dL_law_776 ?_
              refine r_xld hx hb hX hbl hbA hS (i := i + 3) (z := x3) (by omega) hL ex3 dL_law_777 ?_
              refine q_ieq (tgt := 785) hx hb dL_law_778 (by decide) (by omega) (fun c16 => ?_) (fun c16 => ?_)
              · refine q_con hx hb dL_law_785 ?_
                refine lv_aload_n hx hb dL_law_786 rfl (lv_at hl 5 rfl) ?_
                refine lv_iload hx hb dL_law_787 (lv_at hl 1 rfl) ?_
                refine q_con hx hb dL_law_789 ?_
                refine q_add hx hb dL_law_790 ?_
                refine r_xld hx hb hX hbl hbA hS (i := i + 4) (z := x4) (by omega) hL ex4 dL_law_791 ?_
                refine q_ieq (tgt := 799) hx hb dL_law_792 (by decide) (by omega) (fun c17 => ?_) (fun c17 => ?_)
                · refine q_con hx hb dL_law_799 ?_
                  refine c_Vr (As := [.int (iI x1), .int (iI x2), .int (iI 0), .int (iI 0)]) (rest := []) (b := w 0) (C := RX3) (r := some (.int (iI 0))) (st1 := [.int (iI 0)]) fx hl (mno2_act θ l S0 _ w r q dt sv th bc rf kn hm1 x1 x2 0 0 n9 k9 r9 (by first | assumption | omega | (dsimp only; first | assumption | omega) | exact Hid.mk (by first | assumption | omega) | exact Hid.mk ⟨fun _ => by first | assumption | omega, fun _ => by first | assumption | omega⟩) (by first | assumption | omega | (dsimp only; first | assumption | omega) | exact Hid.mk (by first | assumption | omega) | exact Hid.mk ⟨fun _ => by first | assumption | omega, fun _ => by first | assumption | omega⟩) (by first | assumption | omega | (dsimp only; first | assumption | omega) | exact Hid.mk (by first | assumption | omega) | exact Hid.mk ⟨fun _ => by first | assumption | omega, fun _ => by first | assumption | omega⟩) (by first | assumption | omega | (dsimp only; first | assumption | omega) | exact Hid.mk (by first | assumption | omega) | exact Hid.mk ⟨fun _ => by first | assumption | omega, fun _ => by first | assumption | omega⟩) (by first | assumption | omega | (dsimp only; first | assumption | omega) | exact Hid.mk (by first | assumption | omega) | exact Hid.mk ⟨fun _ => by first | assumption | omega, fun _ => by first | assumption | omega⟩) (by first | assumption | omega | (dsimp only; first | assumption | omega) | exact Hid.mk (by first | assumption | omega) | exact Hid.mk ⟨fun _ => by first | assumption | omega, fun _ => by first | assumption | omega⟩) (by first | assumption | omega | (dsimp only; first | assumption | omega) | exact Hid.mk (by first | assumption | omega) | exact Hid.mk ⟨fun _ => by first | assumption | omega, fun _ => by first | assumption | omega⟩) (by first | assumption | omega | (dsimp only; first | assumption | omega) | exact Hid.mk (by first | assumption | omega) | exact Hid.mk ⟨fun _ => by first | assumption | omega, fun _ => by first | assumption | omega⟩) (by first | assumption | omega | (dsimp only; first | assumption | omega) | exact Hid.mk (by first | assumption | omega) | exact Hid.mk ⟨fun _ => by first | assumption | omega, fun _ => by first | assumption | omega⟩) (by first | assumption | omega | (dsimp only; first | assumption | omega) | exact Hid.mk (by first | assumption | omega) | exact Hid.mk ⟨fun _ => by first | assumption | omega, fun _ => by first | assumption | omega⟩) (by first | assumption | omega | (dsimp only; first | assumption | omega) | exact Hid.mk (by first | assumption | omega) | exact Hid.mk ⟨fun _ => by first | assumption | omega, fun _ => by first | assumption | omega⟩)) (ob_recv hK hm1.2.2.1.1 rfl) dL_law_800 k1203 k1204 k1205 k6 k1206 hd_X3_act rfl rfl ⟨by omega, by omega⟩ (Nat.le_of_ble_eq_true rfl) ⟨by (try dsimp only); omega, by (try dsimp only); omega⟩ hS (wa_b hm1.2.1 hzH1.2.1) (fun H18 locs hpH18 hszH18 hkH18 hS => ?_)
                  obtain ⟨r1, q1, hm2, nr, nq⟩ := hpH18
                  have hzH2 := hz0.at hAB hS
                  have hL2 := lw_mod hLX hzH2 hu hcw ho1 hfr hfq hm2 nr nq hkH18
                  refine lv_istore (lv' := [(6, .int (iI 0)), (5, .int (iI 1)), (4, .int (iI i)), (3, .ref o), (2, .ref (w 0)), (1, .ref (u 0)), (0, .ref b)]) hx hb dL_law_803 hl (by decide) rfl (fun ls hl => ?_)
                  refine lv_goto (tgt := 2331) hx hb dL_law_805 (by decide) ?_
                  exact kk _ _ _ _ _ ⟨_, _, _, _, _, _, _, _, _, _, hL2⟩ hS (by omega) (by omega) (lv_sub hl [2, 3, 4, 5, 6] rfl)
                · exact (show False by omega).elim
              · exact (show False by omega).elim
            · exact (show False by omega).elim
          · exact (show False by omega).elim
      · refine lv_aload_n hx hb dL_law_712 rfl (lv_at hl 3 rfl) ?_
        refine lv_aload_n hx hb dL_law_713 rfl (lv_at hl 4 rfl) ?_
        refine lv_iload hx hb dL_law_714 (lv_at hl 0 rfl) ?_
        refine q_con hx hb dL_law_716 ?_
        refine q_add hx hb dL_law_717 ?_
        refine r_xld hx hb hX hbl hbA hS (i := i + 1) (z := x1) (by omega) hL ex1 dL_law_718 ?_
        refine lv_aload_n hx hb dL_law_719 rfl (lv_at hl 4 rfl) ?_
        refine lv_iload hx hb dL_law_720 (lv_at hl 0 rfl) ?_
        refine q_con hx hb dL_law_722 ?_
        refine q_add hx hb dL_law_723 ?_
        refine r_xld hx hb hX hbl hbA hS (i := i + 2) (z := x2) (by omega) hL ex2 dL_law_724 ?_
        refine lv_aload_n hx hb dL_law_725 rfl (lv_at hl 4 rfl) ?_
        refine lv_iload hx hb dL_law_726 (lv_at hl 0 rfl) ?_
        refine q_con hx hb dL_law_728 ?_
        refine q_add hx hb dL_law_729 ?_
        refine r_xld hx hb hX hbl hbA hS (i := i + 3) (z := x3) (by omega) hL ex3 dL_law_730 ?_
        refine q_ieq (tgt := 738) hx hb dL_law_731 (by decide) (by omega) (fun c19 => ?_) (fun c19 => ?_)
        · refine q_con hx hb dL_law_738 ?_
          refine lv_aload_n hx hb dL_law_739 rfl (lv_at hl 4 rfl) ?_
          refine lv_iload hx hb dL_law_740 (lv_at hl 0 rfl) ?_
          refine q_con hx hb dL_law_742 ?_
          refine q_add hx hb dL_law_743 ?_
          refine r_xld hx hb hX hbl hbA hS (i := i + 4) (z := x4) (by omega) hL ex4 dL_law_744 ?_
          refine q_ieq (tgt := 752) hx hb dL_law_745 (by decide) (by omega) (fun c20 => ?_) (fun c20 => ?_)
          · refine q_con hx hb dL_law_752 ?_
            refine lv_aload_n hx hb dL_law_753 rfl (lv_at hl 1 rfl) ?_
            refine c_SWr (As := [.ref (u 0), .int (iI x1), .int (iI x2), .int (iI 0), .int (iI 0), .ref o]) (rest := []) (r := .int (iI 1)) fx hl (wn1_act θ l hl0 S0 _ u dt (fun j => sv j 0) (fun j => sv j 1) (fun j => sv j 2) bc rf kn hcr hjH hn o nv sv9 ho hLX.1 x1 x2 0 0 n9 k9 r9 (by first | assumption | omega | (dsimp only; first | assumption | omega) | exact Hid.mk (by first | assumption | omega) | exact Hid.mk ⟨fun _ => by first | assumption | omega, fun _ => by first | assumption | omega⟩) (by first | assumption | omega | (dsimp only; first | assumption | omega) | exact Hid.mk (by first | assumption | omega) | exact Hid.mk ⟨fun _ => by first | assumption | omega, fun _ => by first | assumption | omega⟩) (by first | assumption | omega | (dsimp only; first | assumption | omega) | exact Hid.mk (by first | assumption | omega) | exact Hid.mk ⟨fun _ => by first | assumption | omega, fun _ => by first | assumption | omega⟩) (by first | assumption | omega | (dsimp only; first | assumption | omega) | exact Hid.mk (by first | assumption | omega) | exact Hid.mk ⟨fun _ => by first | assumption | omega, fun _ => by first | assumption | omega⟩) (by first | assumption | omega | (dsimp only; first | assumption | omega) | exact Hid.mk (by first | assumption | omega) | exact Hid.mk ⟨fun _ => by first | assumption | omega, fun _ => by first | assumption | omega⟩) (by first | assumption | omega | (dsimp only; first | assumption | omega) | exact Hid.mk (by first | assumption | omega) | exact Hid.mk ⟨fun _ => by first | assumption | omega, fun _ => by first | assumption | omega⟩) (by first | assumption | omega | (dsimp only; first | assumption | omega) | exact Hid.mk (by first | assumption | omega) | exact Hid.mk ⟨fun _ => by first | assumption | omega, fun _ => by first | assumption | omega⟩) (by first | assumption | omega | (dsimp only; first | assumption | omega) | exact Hid.mk (by first | assumption | omega) | exact Hid.mk ⟨fun _ => by first | assumption | omega, fun _ => by first | assumption | omega⟩) (by first | assumption | omega | (dsimp only; first | assumption | omega) | exact Hid.mk (by first | assumption | omega) | exact Hid.mk ⟨fun _ => by first | assumption | omega, fun _ => by first | assumption | omega⟩) (by first | assumption | omega | (dsimp only; first | assumption | omega) | exact Hid.mk (by first | assumption | omega) | exact Hid.mk ⟨fun _ => by first | assumption | omega, fun _ => by first | assumption | omega⟩)) dL_law_754 k811 k812 k0 k813 hd_L_act rfl ⟨by omega, by omega⟩ (Nat.le_of_ble_eq_true rfl) ⟨by (try dsimp only); omega, by (try dsimp only); omega⟩ hS (fun x h => h.elim (fun h => h.elim (fun ⟨j, hj, e⟩ => e ▸ hu.2 j hj) (fun h => Nat.le_trans hzH.2.1 h)) (fun e => e ▸ hoθ)) (fun H21 locs hpH21 hszH21 hkH21 hS => ?_)
            obtain ⟨hcw, ho1⟩ := hpH21
            have hzH1 := hz0.at hAB hS
            have hjH1 := hj0.at hAB hS
            have hm1 := lw_cls hLX hw hzH1 hkH21
            refine lv_istore (lv' := [(5, .int (iI 1)), (4, .int (iI i)), (3, .ref o), (2, .ref (w 0)), (1, .ref (u 0)), (0, .ref b)]) hx hb dL_law_757 hl (by decide) rfl (fun ls hl => ?_)
            refine lv_aload_n hx hb dL_law_759 rfl (lv_at hl 3 rfl) ?_
            refine lv_aload_n hx hb dL_law_760 rfl (lv_at hl 5 rfl) ?_
            refine lv_iload hx hb dL_law_761 (lv_at hl 1 rfl) ?_
            refine q_con hx hb dL_law_763 ?_
            refine q_add hx hb dL_law_764 ?_
            refine r_xld hx hb hX hbl hbA hS (i := i + 1) (z := x1) (by omega) hL ex1 dL_law_765 ?_
            refine lv_aload_n hx hb dL_law_766 rfl (lv_at hl 5 rfl) ?_
            refine lv_iload hx hb dL_law_767 (lv_at hl 1 rfl) ?_
            refine q_con hx hb dL_law_769 ?_
            refine q_add hx hb dL_law_770 ?_
            refine r_xld hx hb hX hbl hbA hS (i := i + 2) (z := x2) (by omega) hL ex2 dL_law_771 ?_
            refine lv_aload_n hx hb dL_law_772 rfl (lv_at hl 5 rfl) ?_
            refine lv_iload hx hb dL_law_773 (lv_at hl 1 rfl) ?_
            refine q_con hx hb dL_law_775 ?_
            refine q_add hx hb dL_law_776 ?_
            refine r_xld hx hb hX hbl hbA hS (i := i + 3) (z := x3) (by omega) hL ex3 dL_law_777 ?_
            refine q_ieq (tgt := 785) hx hb dL_law_778 (by decide) (by omega) (fun c22 => ?_) (fun c22 => ?_)
            · refine q_con hx hb dL_law_785 ?_
              refine lv_aload_n hx hb dL_law_786 rfl (lv_at hl 5 rfl) ?_
              refine lv_iload hx hb dL_law_787 (lv_at hl 1 rfl) ?_
              refine q_con hx hb dL_law_789 ?_
              refine q_add hx hb dL_law_790 ?_
              refine r_xld hx hb hX hbl hbA hS (i := i + 4) (z := x4) (by omega) hL ex4 dL_law_791 ?_
              refine q_ieq (tgt := 799) hx hb dL_law_792 (by decide) (by omega) (fun c23 => ?_) (fun c23 => ?_)
              · refine q_con hx hb dL_law_799 ?_
                refine c_Vr (As := [.int (iI x1), .int (iI x2), .int (iI 0), .int (iI 0)]) (rest := []) (b := w 0) (C := RX3) (r := some (.int (iI 0))) (st1 := [.int (iI 0)]) fx hl (mno1_act θ l S0 _ w r q dt sv th bc rf kn hm1 x1 x2 0 0 n9 k9 r9 (by first | assumption | omega | (dsimp only; first | assumption | omega) | exact Hid.mk (by first | assumption | omega) | exact Hid.mk ⟨fun _ => by first | assumption | omega, fun _ => by first | assumption | omega⟩) (by first | assumption | omega | (dsimp only; first | assumption | omega) | exact Hid.mk (by first | assumption | omega) | exact Hid.mk ⟨fun _ => by first | assumption | omega, fun _ => by first | assumption | omega⟩) (by first | assumption | omega | (dsimp only; first | assumption | omega) | exact Hid.mk (by first | assumption | omega) | exact Hid.mk ⟨fun _ => by first | assumption | omega, fun _ => by first | assumption | omega⟩) (by first | assumption | omega | (dsimp only; first | assumption | omega) | exact Hid.mk (by first | assumption | omega) | exact Hid.mk ⟨fun _ => by first | assumption | omega, fun _ => by first | assumption | omega⟩) (by first | assumption | omega | (dsimp only; first | assumption | omega) | exact Hid.mk (by first | assumption | omega) | exact Hid.mk ⟨fun _ => by first | assumption | omega, fun _ => by first | assumption | omega⟩) (by first | assumption | omega | (dsimp only; first | assumption | omega) | exact Hid.mk (by first | assumption | omega) | exact Hid.mk ⟨fun _ => by first | assumption | omega, fun _ => by first | assumption | omega⟩) (by first | assumption | omega | (dsimp only; first | assumption | omega) | exact Hid.mk (by first | assumption | omega) | exact Hid.mk ⟨fun _ => by first | assumption | omega, fun _ => by first | assumption | omega⟩) (by first | assumption | omega | (dsimp only; first | assumption | omega) | exact Hid.mk (by first | assumption | omega) | exact Hid.mk ⟨fun _ => by first | assumption | omega, fun _ => by first | assumption | omega⟩) (by first | assumption | omega | (dsimp only; first | assumption | omega) | exact Hid.mk (by first | assumption | omega) | exact Hid.mk ⟨fun _ => by first | assumption | omega, fun _ => by first | assumption | omega⟩) (by first | assumption | omega | (dsimp only; first | assumption | omega) | exact Hid.mk (by first | assumption | omega) | exact Hid.mk ⟨fun _ => by first | assumption | omega, fun _ => by first | assumption | omega⟩)) (ob_recv hK hm1.2.2.1.1 rfl) dL_law_800 k1203 k1204 k1205 k6 k1206 hd_X3_act rfl rfl ⟨by omega, by omega⟩ (Nat.le_of_ble_eq_true rfl) ⟨by (try dsimp only); omega, by (try dsimp only); omega⟩ hS (wa_b hm1.2.1 hzH1.2.1) (fun H24 locs hpH24 hszH24 hkH24 hS => ?_)
                obtain ⟨r1, q1, hm2, nr, nq⟩ := hpH24
                have hzH2 := hz0.at hAB hS
                have hL2 := lw_mod hLX hzH2 hu hcw ho1 hfr hfq hm2 nr nq hkH24
                refine lv_istore (lv' := [(6, .int (iI 0)), (5, .int (iI 1)), (4, .int (iI i)), (3, .ref o), (2, .ref (w 0)), (1, .ref (u 0)), (0, .ref b)]) hx hb dL_law_803 hl (by decide) rfl (fun ls hl => ?_)
                refine lv_goto (tgt := 2331) hx hb dL_law_805 (by decide) ?_
                exact kk _ _ _ _ _ ⟨_, _, _, _, _, _, _, _, _, _, hL2⟩ hS (by omega) (by omega) (lv_sub hl [2, 3, 4, 5, 6] rfl)
              · exact (show False by omega).elim
            · exact (show False by omega).elim
          · exact (show False by omega).elim
        · exact (show False by omega).elim
    · obtain ⟨n9, en9⟩ : ∃ z : Int, z = -(12 * sv x2.toNat 0 + sv x2.toNat 1) := ⟨_, rfl⟩
      obtain ⟨k9, ek9⟩ : ∃ z : Int, z = -(sv x2.toNat 2) := ⟨_, rfl⟩
      obtain ⟨r9, er9⟩ : ∃ z : Int, z = shI (dt x1.toNat) n9 + k9 := ⟨_, rfl⟩
      by_cases hc1 : 0 ≤ x1 ∧ x1 < 6
      · by_cases hc2 : 0 ≤ x2 ∧ x2 < 3
        · by_cases hc3 : -4371587 ≤ r9 ∧ r9 ≤ 2932896
          · refine lv_aload_n hx hb dL_law_712 rfl (lv_at hl 3 rfl) ?_
            refine lv_aload_n hx hb dL_law_713 rfl (lv_at hl 4 rfl) ?_
            refine lv_iload hx hb dL_law_714 (lv_at hl 0 rfl) ?_
            refine q_con hx hb dL_law_716 ?_
            refine q_add hx hb dL_law_717 ?_
            refine r_xld hx hb hX hbl hbA hS (i := i + 1) (z := x1) (by omega) hL ex1 dL_law_718 ?_
            refine lv_aload_n hx hb dL_law_719 rfl (lv_at hl 4 rfl) ?_
            refine lv_iload hx hb dL_law_720 (lv_at hl 0 rfl) ?_
            refine q_con hx hb dL_law_722 ?_
            refine q_add hx hb dL_law_723 ?_
            refine r_xld hx hb hX hbl hbA hS (i := i + 2) (z := x2) (by omega) hL ex2 dL_law_724 ?_
            refine lv_aload_n hx hb dL_law_725 rfl (lv_at hl 4 rfl) ?_
            refine lv_iload hx hb dL_law_726 (lv_at hl 0 rfl) ?_
            refine q_con hx hb dL_law_728 ?_
            refine q_add hx hb dL_law_729 ?_
            refine r_xld hx hb hX hbl hbA hS (i := i + 3) (z := x3) (by omega) hL ex3 dL_law_730 ?_
            refine q_ieq (tgt := 738) hx hb dL_law_731 (by decide) (by omega) (fun c25 => ?_) (fun c25 => ?_)
            · refine q_con hx hb dL_law_738 ?_
              refine lv_aload_n hx hb dL_law_739 rfl (lv_at hl 4 rfl) ?_
              refine lv_iload hx hb dL_law_740 (lv_at hl 0 rfl) ?_
              refine q_con hx hb dL_law_742 ?_
              refine q_add hx hb dL_law_743 ?_
              refine r_xld hx hb hX hbl hbA hS (i := i + 4) (z := x4) (by omega) hL ex4 dL_law_744 ?_
              refine q_ieq (tgt := 752) hx hb dL_law_745 (by decide) (by omega) (fun c26 => ?_) (fun c26 => ?_)
              · exact (show False by omega).elim
              · refine q_con hx hb dL_law_748 ?_
                refine lv_goto (tgt := 753) hx hb dL_law_749 (by decide) ?_
                refine lv_aload_n hx hb dL_law_753 rfl (lv_at hl 1 rfl) ?_
                refine c_SWr (As := [.ref (u 0), .int (iI x1), .int (iI x2), .int (iI 0), .int (iI 1), .ref o]) (rest := []) (r := .int (iI 0)) fx hl (wr_act θ l hl0 S0 _ u dt (fun j => sv j 0) (fun j => sv j 1) (fun j => sv j 2) bc rf kn hcr hjH hn o nv sv9 ho hLX.1 x1 x2 0 1 n9 k9 r9 (by first | assumption | omega | (dsimp only; first | assumption | omega) | exact Hid.mk (by first | assumption | omega) | exact Hid.mk ⟨fun _ => by first | assumption | omega, fun _ => by first | assumption | omega⟩) (by first | assumption | omega | (dsimp only; first | assumption | omega) | exact Hid.mk (by first | assumption | omega) | exact Hid.mk ⟨fun _ => by first | assumption | omega, fun _ => by first | assumption | omega⟩) (by first | assumption | omega | (dsimp only; first | assumption | omega) | exact Hid.mk (by first | assumption | omega) | exact Hid.mk ⟨fun _ => by first | assumption | omega, fun _ => by first | assumption | omega⟩) (by first | assumption | omega | (dsimp only; first | assumption | omega) | exact Hid.mk (by first | assumption | omega) | exact Hid.mk ⟨fun _ => by first | assumption | omega, fun _ => by first | assumption | omega⟩) (by first | assumption | omega | (dsimp only; first | assumption | omega) | exact Hid.mk (by first | assumption | omega) | exact Hid.mk ⟨fun _ => by first | assumption | omega, fun _ => by first | assumption | omega⟩) (by first | assumption | omega | (dsimp only; first | assumption | omega) | exact Hid.mk (by first | assumption | omega) | exact Hid.mk ⟨fun _ => by first | assumption | omega, fun _ => by first | assumption | omega⟩) (by first | assumption | omega | (dsimp only; first | assumption | omega) | exact Hid.mk (by first | assumption | omega) | exact Hid.mk ⟨fun _ => by first | assumption | omega, fun _ => by first | assumption | omega⟩) (by first | assumption | omega | (dsimp only; first | assumption | omega) | exact Hid.mk (by first | assumption | omega) | exact Hid.mk ⟨fun _ => by first | assumption | omega, fun _ => by first | assumption | omega⟩) (by first | assumption | omega | (dsimp only; first | assumption | omega) | exact Hid.mk (by first | assumption | omega) | exact Hid.mk ⟨fun _ => by first | assumption | omega, fun _ => by first | assumption | omega⟩) (by first | assumption | omega | (dsimp only; first | assumption | omega) | exact Hid.mk (by first | assumption | omega) | exact Hid.mk ⟨fun _ => by first | assumption | omega, fun _ => by first | assumption | omega⟩) (by first | assumption | omega | (dsimp only; first | assumption | omega) | exact Hid.mk (by first | assumption | omega) | exact Hid.mk ⟨fun _ => by first | assumption | omega, fun _ => by first | assumption | omega⟩) (by first | assumption | omega | (dsimp only; first | assumption | omega) | exact Hid.mk (by first | assumption | omega) | exact Hid.mk ⟨fun _ => by first | assumption | omega, fun _ => by first | assumption | omega⟩)) dL_law_754 k811 k812 k0 k813 hd_L_act rfl ⟨by omega, by omega⟩ (Nat.le_of_ble_eq_true rfl) ⟨by (try dsimp only); omega, by (try dsimp only); omega⟩ hS (fun x h => h.elim (fun h => h.elim (fun ⟨j, hj, e⟩ => e ▸ hu.2 j hj) (fun h => Nat.le_trans hzH.2.1 h)) (fun e => e ▸ hoθ)) (fun H27 locs hpH27 hszH27 hkH27 hS => ?_)
                obtain ⟨hcw, ho1⟩ := hpH27
                have hzH1 := hz0.at hAB hS
                have hjH1 := hj0.at hAB hS
                have hm1 := lw_cls hLX hw hzH1 hkH27
                refine lv_istore (lv' := [(5, .int (iI 0)), (4, .int (iI i)), (3, .ref o), (2, .ref (w 0)), (1, .ref (u 0)), (0, .ref b)]) hx hb dL_law_757 hl (by decide) rfl (fun ls hl => ?_)
                refine lv_aload_n hx hb dL_law_759 rfl (lv_at hl 3 rfl) ?_
                refine lv_aload_n hx hb dL_law_760 rfl (lv_at hl 5 rfl) ?_
                refine lv_iload hx hb dL_law_761 (lv_at hl 1 rfl) ?_
                refine q_con hx hb dL_law_763 ?_
                refine q_add hx hb dL_law_764 ?_
                refine r_xld hx hb hX hbl hbA hS (i := i + 1) (z := x1) (by omega) hL ex1 dL_law_765 ?_
                refine lv_aload_n hx hb dL_law_766 rfl (lv_at hl 5 rfl) ?_
                refine lv_iload hx hb dL_law_767 (lv_at hl 1 rfl) ?_
                refine q_con hx hb dL_law_769 ?_
                refine q_add hx hb dL_law_770 ?_
                refine r_xld hx hb hX hbl hbA hS (i := i + 2) (z := x2) (by omega) hL ex2 dL_law_771 ?_
                refine lv_aload_n hx hb dL_law_772 rfl (lv_at hl 5 rfl) ?_
                refine lv_iload hx hb dL_law_773 (lv_at hl 1 rfl) ?_
                refine q_con hx hb dL_law_775 ?_
                refine q_add hx hb dL_law_776 ?_
                refine r_xld hx hb hX hbl hbA hS (i := i + 3) (z := x3) (by omega) hL ex3 dL_law_777 ?_
                refine q_ieq (tgt := 785) hx hb dL_law_778 (by decide) (by omega) (fun c28 => ?_) (fun c28 => ?_)
                · refine q_con hx hb dL_law_785 ?_
                  refine lv_aload_n hx hb dL_law_786 rfl (lv_at hl 5 rfl) ?_
                  refine lv_iload hx hb dL_law_787 (lv_at hl 1 rfl) ?_
                  refine q_con hx hb dL_law_789 ?_
                  refine q_add hx hb dL_law_790 ?_
                  refine r_xld hx hb hX hbl hbA hS (i := i + 4) (z := x4) (by omega) hL ex4 dL_law_791 ?_
                  refine q_ieq (tgt := 799) hx hb dL_law_792 (by decide) (by omega) (fun c29 => ?_) (fun c29 => ?_)
                  · exact (show False by omega).elim
                  · refine q_con hx hb dL_law_795 ?_
                    refine lv_goto (tgt := 800) hx hb dL_law_796 (by decide) ?_
                    refine c_Vr (As := [.int (iI x1), .int (iI x2), .int (iI 0), .int (iI 1)]) (rest := []) (b := w 0) (C := RX3) (r := some (.int (iI r9))) (st1 := [.int (iI r9)]) fx hl (mok_act θ l S0 _ w r q dt sv th bc rf kn hm1 x1 x2 0 1 n9 k9 r9 (by first | assumption | omega | (dsimp only; first | assumption | omega) | exact Hid.mk (by first | assumption | omega) | exact Hid.mk ⟨fun _ => by first | assumption | omega, fun _ => by first | assumption | omega⟩) (by first | assumption | omega | (dsimp only; first | assumption | omega) | exact Hid.mk (by first | assumption | omega) | exact Hid.mk ⟨fun _ => by first | assumption | omega, fun _ => by first | assumption | omega⟩) (by first | assumption | omega | (dsimp only; first | assumption | omega) | exact Hid.mk (by first | assumption | omega) | exact Hid.mk ⟨fun _ => by first | assumption | omega, fun _ => by first | assumption | omega⟩) (by first | assumption | omega | (dsimp only; first | assumption | omega) | exact Hid.mk (by first | assumption | omega) | exact Hid.mk ⟨fun _ => by first | assumption | omega, fun _ => by first | assumption | omega⟩) (by first | assumption | omega | (dsimp only; first | assumption | omega) | exact Hid.mk (by first | assumption | omega) | exact Hid.mk ⟨fun _ => by first | assumption | omega, fun _ => by first | assumption | omega⟩) (by first | assumption | omega | (dsimp only; first | assumption | omega) | exact Hid.mk (by first | assumption | omega) | exact Hid.mk ⟨fun _ => by first | assumption | omega, fun _ => by first | assumption | omega⟩) (by first | assumption | omega | (dsimp only; first | assumption | omega) | exact Hid.mk (by first | assumption | omega) | exact Hid.mk ⟨fun _ => by first | assumption | omega, fun _ => by first | assumption | omega⟩) (by first | assumption | omega | (dsimp only; first | assumption | omega) | exact Hid.mk (by first | assumption | omega) | exact Hid.mk ⟨fun _ => by first | assumption | omega, fun _ => by first | assumption | omega⟩) (by first | assumption | omega | (dsimp only; first | assumption | omega) | exact Hid.mk (by first | assumption | omega) | exact Hid.mk ⟨fun _ => by first | assumption | omega, fun _ => by first | assumption | omega⟩) (by first | assumption | omega | (dsimp only; first | assumption | omega) | exact Hid.mk (by first | assumption | omega) | exact Hid.mk ⟨fun _ => by first | assumption | omega, fun _ => by first | assumption | omega⟩) (by first | assumption | omega | (dsimp only; first | assumption | omega) | exact Hid.mk (by first | assumption | omega) | exact Hid.mk ⟨fun _ => by first | assumption | omega, fun _ => by first | assumption | omega⟩) (by first | assumption | omega | (dsimp only; first | assumption | omega) | exact Hid.mk (by first | assumption | omega) | exact Hid.mk ⟨fun _ => by first | assumption | omega, fun _ => by first | assumption | omega⟩)) (ob_recv hK hm1.2.2.1.1 rfl) dL_law_800 k1203 k1204 k1205 k6 k1206 hd_X3_act rfl rfl ⟨by omega, by omega⟩ (Nat.le_of_ble_eq_true rfl) ⟨by (try dsimp only); omega, by (try dsimp only); omega⟩ hS (wa_b hm1.2.1 hzH1.2.1) (fun H30 locs hpH30 hszH30 hkH30 hS => ?_)
                    obtain ⟨r1, q1, hm2, nr, nq⟩ := hpH30
                    have hzH2 := hz0.at hAB hS
                    have hL2 := lw_mod hLX hzH2 hu hcw ho1 hfr hfq hm2 nr nq hkH30
                    refine lv_istore (lv' := [(6, .int (iI r9)), (5, .int (iI 0)), (4, .int (iI i)), (3, .ref o), (2, .ref (w 0)), (1, .ref (u 0)), (0, .ref b)]) hx hb dL_law_803 hl (by decide) rfl (fun ls hl => ?_)
                    refine lv_goto (tgt := 2331) hx hb dL_law_805 (by decide) ?_
                    exact kk _ _ _ _ _ ⟨_, _, _, _, _, _, _, _, _, _, hL2⟩ hS (by omega) (by omega) (lv_sub hl [2, 3, 4, 5, 6] rfl)
                · exact (show False by omega).elim
            · exact (show False by omega).elim
          · refine lv_aload_n hx hb dL_law_712 rfl (lv_at hl 3 rfl) ?_
            refine lv_aload_n hx hb dL_law_713 rfl (lv_at hl 4 rfl) ?_
            refine lv_iload hx hb dL_law_714 (lv_at hl 0 rfl) ?_
            refine q_con hx hb dL_law_716 ?_
            refine q_add hx hb dL_law_717 ?_
            refine r_xld hx hb hX hbl hbA hS (i := i + 1) (z := x1) (by omega) hL ex1 dL_law_718 ?_
            refine lv_aload_n hx hb dL_law_719 rfl (lv_at hl 4 rfl) ?_
            refine lv_iload hx hb dL_law_720 (lv_at hl 0 rfl) ?_
            refine q_con hx hb dL_law_722 ?_
            refine q_add hx hb dL_law_723 ?_
            refine r_xld hx hb hX hbl hbA hS (i := i + 2) (z := x2) (by omega) hL ex2 dL_law_724 ?_
            refine lv_aload_n hx hb dL_law_725 rfl (lv_at hl 4 rfl) ?_
            refine lv_iload hx hb dL_law_726 (lv_at hl 0 rfl) ?_
            refine q_con hx hb dL_law_728 ?_
            refine q_add hx hb dL_law_729 ?_
            refine r_xld hx hb hX hbl hbA hS (i := i + 3) (z := x3) (by omega) hL ex3 dL_law_730 ?_
            refine q_ieq (tgt := 738) hx hb dL_law_731 (by decide) (by omega) (fun c31 => ?_) (fun c31 => ?_)
            · refine q_con hx hb dL_law_738 ?_
              refine lv_aload_n hx hb dL_law_739 rfl (lv_at hl 4 rfl) ?_
              refine lv_iload hx hb dL_law_740 (lv_at hl 0 rfl) ?_
              refine q_con hx hb dL_law_742 ?_
              refine q_add hx hb dL_law_743 ?_
              refine r_xld hx hb hX hbl hbA hS (i := i + 4) (z := x4) (by omega) hL ex4 dL_law_744 ?_
              refine q_ieq (tgt := 752) hx hb dL_law_745 (by decide) (by omega) (fun c32 => ?_) (fun c32 => ?_)
              · exact (show False by omega).elim
              · refine q_con hx hb dL_law_748 ?_
                refine lv_goto (tgt := 753) hx hb dL_law_749 (by decide) ?_
                refine lv_aload_n hx hb dL_law_753 rfl (lv_at hl 1 rfl) ?_
                refine c_SWr (As := [.ref (u 0), .int (iI x1), .int (iI x2), .int (iI 0), .int (iI 1), .ref o]) (rest := []) (r := .int (iI 2)) fx hl (wn3_act θ l hl0 S0 _ u dt (fun j => sv j 0) (fun j => sv j 1) (fun j => sv j 2) bc rf kn hcr hjH hn o nv sv9 ho hLX.1 x1 x2 0 1 n9 k9 r9 (by first | assumption | omega | (dsimp only; first | assumption | omega) | exact Hid.mk (by first | assumption | omega) | exact Hid.mk ⟨fun _ => by first | assumption | omega, fun _ => by first | assumption | omega⟩) (by first | assumption | omega | (dsimp only; first | assumption | omega) | exact Hid.mk (by first | assumption | omega) | exact Hid.mk ⟨fun _ => by first | assumption | omega, fun _ => by first | assumption | omega⟩) (by first | assumption | omega | (dsimp only; first | assumption | omega) | exact Hid.mk (by first | assumption | omega) | exact Hid.mk ⟨fun _ => by first | assumption | omega, fun _ => by first | assumption | omega⟩) (by first | assumption | omega | (dsimp only; first | assumption | omega) | exact Hid.mk (by first | assumption | omega) | exact Hid.mk ⟨fun _ => by first | assumption | omega, fun _ => by first | assumption | omega⟩) (by first | assumption | omega | (dsimp only; first | assumption | omega) | exact Hid.mk (by first | assumption | omega) | exact Hid.mk ⟨fun _ => by first | assumption | omega, fun _ => by first | assumption | omega⟩) (by first | assumption | omega | (dsimp only; first | assumption | omega) | exact Hid.mk (by first | assumption | omega) | exact Hid.mk ⟨fun _ => by first | assumption | omega, fun _ => by first | assumption | omega⟩) (by first | assumption | omega | (dsimp only; first | assumption | omega) | exact Hid.mk (by first | assumption | omega) | exact Hid.mk ⟨fun _ => by first | assumption | omega, fun _ => by first | assumption | omega⟩) (by first | assumption | omega | (dsimp only; first | assumption | omega) | exact Hid.mk (by first | assumption | omega) | exact Hid.mk ⟨fun _ => by first | assumption | omega, fun _ => by first | assumption | omega⟩) (by first | assumption | omega | (dsimp only; first | assumption | omega) | exact Hid.mk (by first | assumption | omega) | exact Hid.mk ⟨fun _ => by first | assumption | omega, fun _ => by first | assumption | omega⟩) (by first | assumption | omega | (dsimp only; first | assumption | omega) | exact Hid.mk (by first | assumption | omega) | exact Hid.mk ⟨fun _ => by first | assumption | omega, fun _ => by first | assumption | omega⟩) (by first | assumption | omega | (dsimp only; first | assumption | omega) | exact Hid.mk (by first | assumption | omega) | exact Hid.mk ⟨fun _ => by first | assumption | omega, fun _ => by first | assumption | omega⟩) (by first | assumption | omega | (dsimp only; first | assumption | omega) | exact Hid.mk (by first | assumption | omega) | exact Hid.mk ⟨fun _ => by first | assumption | omega, fun _ => by first | assumption | omega⟩)) dL_law_754 k811 k812 k0 k813 hd_L_act rfl ⟨by omega, by omega⟩ (Nat.le_of_ble_eq_true rfl) ⟨by (try dsimp only); omega, by (try dsimp only); omega⟩ hS (fun x h => h.elim (fun h => h.elim (fun ⟨j, hj, e⟩ => e ▸ hu.2 j hj) (fun h => Nat.le_trans hzH.2.1 h)) (fun e => e ▸ hoθ)) (fun H33 locs hpH33 hszH33 hkH33 hS => ?_)
                obtain ⟨hcw, ho1⟩ := hpH33
                have hzH1 := hz0.at hAB hS
                have hjH1 := hj0.at hAB hS
                have hm1 := lw_cls hLX hw hzH1 hkH33
                refine lv_istore (lv' := [(5, .int (iI 2)), (4, .int (iI i)), (3, .ref o), (2, .ref (w 0)), (1, .ref (u 0)), (0, .ref b)]) hx hb dL_law_757 hl (by decide) rfl (fun ls hl => ?_)
                refine lv_aload_n hx hb dL_law_759 rfl (lv_at hl 3 rfl) ?_
                refine lv_aload_n hx hb dL_law_760 rfl (lv_at hl 5 rfl) ?_
                refine lv_iload hx hb dL_law_761 (lv_at hl 1 rfl) ?_
                refine q_con hx hb dL_law_763 ?_
                refine q_add hx hb dL_law_764 ?_
                refine r_xld hx hb hX hbl hbA hS (i := i + 1) (z := x1) (by omega) hL ex1 dL_law_765 ?_
                refine lv_aload_n hx hb dL_law_766 rfl (lv_at hl 5 rfl) ?_
                refine lv_iload hx hb dL_law_767 (lv_at hl 1 rfl) ?_
                refine q_con hx hb dL_law_769 ?_
                refine q_add hx hb dL_law_770 ?_
                refine r_xld hx hb hX hbl hbA hS (i := i + 2) (z := x2) (by omega) hL ex2 dL_law_771 ?_
                refine lv_aload_n hx hb dL_law_772 rfl (lv_at hl 5 rfl) ?_
                refine lv_iload hx hb dL_law_773 (lv_at hl 1 rfl) ?_
                refine q_con hx hb dL_law_775 ?_
                refine q_add hx hb dL_law_776 ?_
                refine r_xld hx hb hX hbl hbA hS (i := i + 3) (z := x3) (by omega) hL ex3 dL_law_777 ?_
                refine q_ieq (tgt := 785) hx hb dL_law_778 (by decide) (by omega) (fun c34 => ?_) (fun c34 => ?_)
                · refine q_con hx hb dL_law_785 ?_
                  refine lv_aload_n hx hb dL_law_786 rfl (lv_at hl 5 rfl) ?_
                  refine lv_iload hx hb dL_law_787 (lv_at hl 1 rfl) ?_
                  refine q_con hx hb dL_law_789 ?_
                  refine q_add hx hb dL_law_790 ?_
                  refine r_xld hx hb hX hbl hbA hS (i := i + 4) (z := x4) (by omega) hL ex4 dL_law_791 ?_
                  refine q_ieq (tgt := 799) hx hb dL_law_792 (by decide) (by omega) (fun c35 => ?_) (fun c35 => ?_)
                  · exact (show False by omega).elim
                  · refine q_con hx hb dL_law_795 ?_
                    refine lv_goto (tgt := 800) hx hb dL_law_796 (by decide) ?_
                    refine c_Vr (As := [.int (iI x1), .int (iI x2), .int (iI 0), .int (iI 1)]) (rest := []) (b := w 0) (C := RX3) (r := some (.int (iI 0))) (st1 := [.int (iI 0)]) fx hl (mno3_act θ l S0 _ w r q dt sv th bc rf kn hm1 x1 x2 0 1 n9 k9 r9 (by first | assumption | omega | (dsimp only; first | assumption | omega) | exact Hid.mk (by first | assumption | omega) | exact Hid.mk ⟨fun _ => by first | assumption | omega, fun _ => by first | assumption | omega⟩) (by first | assumption | omega | (dsimp only; first | assumption | omega) | exact Hid.mk (by first | assumption | omega) | exact Hid.mk ⟨fun _ => by first | assumption | omega, fun _ => by first | assumption | omega⟩) (by first | assumption | omega | (dsimp only; first | assumption | omega) | exact Hid.mk (by first | assumption | omega) | exact Hid.mk ⟨fun _ => by first | assumption | omega, fun _ => by first | assumption | omega⟩) (by first | assumption | omega | (dsimp only; first | assumption | omega) | exact Hid.mk (by first | assumption | omega) | exact Hid.mk ⟨fun _ => by first | assumption | omega, fun _ => by first | assumption | omega⟩) (by first | assumption | omega | (dsimp only; first | assumption | omega) | exact Hid.mk (by first | assumption | omega) | exact Hid.mk ⟨fun _ => by first | assumption | omega, fun _ => by first | assumption | omega⟩) (by first | assumption | omega | (dsimp only; first | assumption | omega) | exact Hid.mk (by first | assumption | omega) | exact Hid.mk ⟨fun _ => by first | assumption | omega, fun _ => by first | assumption | omega⟩) (by first | assumption | omega | (dsimp only; first | assumption | omega) | exact Hid.mk (by first | assumption | omega) | exact Hid.mk ⟨fun _ => by first | assumption | omega, fun _ => by first | assumption | omega⟩) (by first | assumption | omega | (dsimp only; first | assumption | omega) | exact Hid.mk (by first | assumption | omega) | exact Hid.mk ⟨fun _ => by first | assumption | omega, fun _ => by first | assumption | omega⟩) (by first | assumption | omega | (dsimp only; first | assumption | omega) | exact Hid.mk (by first | assumption | omega) | exact Hid.mk ⟨fun _ => by first | assumption | omega, fun _ => by first | assumption | omega⟩) (by first | assumption | omega | (dsimp only; first | assumption | omega) | exact Hid.mk (by first | assumption | omega) | exact Hid.mk ⟨fun _ => by first | assumption | omega, fun _ => by first | assumption | omega⟩) (by first | assumption | omega | (dsimp only; first | assumption | omega) | exact Hid.mk (by first | assumption | omega) | exact Hid.mk ⟨fun _ => by first | assumption | omega, fun _ => by first | assumption | omega⟩) (by first | assumption | omega | (dsimp only; first | assumption | omega) | exact Hid.mk (by first | assumption | omega) | exact Hid.mk ⟨fun _ => by first | assumption | omega, fun _ => by first | assumption | omega⟩)) (ob_recv hK hm1.2.2.1.1 rfl) dL_law_800 k1203 k1204 k1205 k6 k1206 hd_X3_act rfl rfl ⟨by omega, by omega⟩ (Nat.le_of_ble_eq_true rfl) ⟨by (try dsimp only); omega, by (try dsimp only); omega⟩ hS (wa_b hm1.2.1 hzH1.2.1) (fun H36 locs hpH36 hszH36 hkH36 hS => ?_)
                    obtain ⟨r1, q1, hm2, nr, nq⟩ := hpH36
                    have hzH2 := hz0.at hAB hS
                    have hL2 := lw_mod hLX hzH2 hu hcw ho1 hfr hfq hm2 nr nq hkH36
                    refine lv_istore (lv' := [(6, .int (iI 0)), (5, .int (iI 2)), (4, .int (iI i)), (3, .ref o), (2, .ref (w 0)), (1, .ref (u 0)), (0, .ref b)]) hx hb dL_law_803 hl (by decide) rfl (fun ls hl => ?_)
                    refine lv_goto (tgt := 2331) hx hb dL_law_805 (by decide) ?_
                    exact kk _ _ _ _ _ ⟨_, _, _, _, _, _, _, _, _, _, hL2⟩ hS (by omega) (by omega) (lv_sub hl [2, 3, 4, 5, 6] rfl)
                · exact (show False by omega).elim
            · exact (show False by omega).elim
        · refine lv_aload_n hx hb dL_law_712 rfl (lv_at hl 3 rfl) ?_
          refine lv_aload_n hx hb dL_law_713 rfl (lv_at hl 4 rfl) ?_
          refine lv_iload hx hb dL_law_714 (lv_at hl 0 rfl) ?_
          refine q_con hx hb dL_law_716 ?_
          refine q_add hx hb dL_law_717 ?_
          refine r_xld hx hb hX hbl hbA hS (i := i + 1) (z := x1) (by omega) hL ex1 dL_law_718 ?_
          refine lv_aload_n hx hb dL_law_719 rfl (lv_at hl 4 rfl) ?_
          refine lv_iload hx hb dL_law_720 (lv_at hl 0 rfl) ?_
          refine q_con hx hb dL_law_722 ?_
          refine q_add hx hb dL_law_723 ?_
          refine r_xld hx hb hX hbl hbA hS (i := i + 2) (z := x2) (by omega) hL ex2 dL_law_724 ?_
          refine lv_aload_n hx hb dL_law_725 rfl (lv_at hl 4 rfl) ?_
          refine lv_iload hx hb dL_law_726 (lv_at hl 0 rfl) ?_
          refine q_con hx hb dL_law_728 ?_
          refine q_add hx hb dL_law_729 ?_
          refine r_xld hx hb hX hbl hbA hS (i := i + 3) (z := x3) (by omega) hL ex3 dL_law_730 ?_
          refine q_ieq (tgt := 738) hx hb dL_law_731 (by decide) (by omega) (fun c37 => ?_) (fun c37 => ?_)
          · refine q_con hx hb dL_law_738 ?_
            refine lv_aload_n hx hb dL_law_739 rfl (lv_at hl 4 rfl) ?_
            refine lv_iload hx hb dL_law_740 (lv_at hl 0 rfl) ?_
            refine q_con hx hb dL_law_742 ?_
            refine q_add hx hb dL_law_743 ?_
            refine r_xld hx hb hX hbl hbA hS (i := i + 4) (z := x4) (by omega) hL ex4 dL_law_744 ?_
            refine q_ieq (tgt := 752) hx hb dL_law_745 (by decide) (by omega) (fun c38 => ?_) (fun c38 => ?_)
            · exact (show False by omega).elim
            · refine q_con hx hb dL_law_748 ?_
              refine lv_goto (tgt := 753) hx hb dL_law_749 (by decide) ?_
              refine lv_aload_n hx hb dL_law_753 rfl (lv_at hl 1 rfl) ?_
              refine c_SWr (As := [.ref (u 0), .int (iI x1), .int (iI x2), .int (iI 0), .int (iI 1), .ref o]) (rest := []) (r := .int (iI 1)) fx hl (wn2_act θ l hl0 S0 _ u dt (fun j => sv j 0) (fun j => sv j 1) (fun j => sv j 2) bc rf kn hcr hjH hn o nv sv9 ho hLX.1 x1 x2 0 1 n9 k9 r9 (by first | assumption | omega | (dsimp only; first | assumption | omega) | exact Hid.mk (by first | assumption | omega) | exact Hid.mk ⟨fun _ => by first | assumption | omega, fun _ => by first | assumption | omega⟩) (by first | assumption | omega | (dsimp only; first | assumption | omega) | exact Hid.mk (by first | assumption | omega) | exact Hid.mk ⟨fun _ => by first | assumption | omega, fun _ => by first | assumption | omega⟩) (by first | assumption | omega | (dsimp only; first | assumption | omega) | exact Hid.mk (by first | assumption | omega) | exact Hid.mk ⟨fun _ => by first | assumption | omega, fun _ => by first | assumption | omega⟩) (by first | assumption | omega | (dsimp only; first | assumption | omega) | exact Hid.mk (by first | assumption | omega) | exact Hid.mk ⟨fun _ => by first | assumption | omega, fun _ => by first | assumption | omega⟩) (by first | assumption | omega | (dsimp only; first | assumption | omega) | exact Hid.mk (by first | assumption | omega) | exact Hid.mk ⟨fun _ => by first | assumption | omega, fun _ => by first | assumption | omega⟩) (by first | assumption | omega | (dsimp only; first | assumption | omega) | exact Hid.mk (by first | assumption | omega) | exact Hid.mk ⟨fun _ => by first | assumption | omega, fun _ => by first | assumption | omega⟩) (by first | assumption | omega | (dsimp only; first | assumption | omega) | exact Hid.mk (by first | assumption | omega) | exact Hid.mk ⟨fun _ => by first | assumption | omega, fun _ => by first | assumption | omega⟩) (by first | assumption | omega | (dsimp only; first | assumption | omega) | exact Hid.mk (by first | assumption | omega) | exact Hid.mk ⟨fun _ => by first | assumption | omega, fun _ => by first | assumption | omega⟩) (by first | assumption | omega | (dsimp only; first | assumption | omega) | exact Hid.mk (by first | assumption | omega) | exact Hid.mk ⟨fun _ => by first | assumption | omega, fun _ => by first | assumption | omega⟩) (by first | assumption | omega | (dsimp only; first | assumption | omega) | exact Hid.mk (by first | assumption | omega) | exact Hid.mk ⟨fun _ => by first | assumption | omega, fun _ => by first | assumption | omega⟩) (by first | assumption | omega | (dsimp only; first | assumption | omega) | exact Hid.mk (by first | assumption | omega) | exact Hid.mk ⟨fun _ => by first | assumption | omega, fun _ => by first | assumption | omega⟩)) dL_law_754 k811 k812 k0 k813 hd_L_act rfl ⟨by omega, by omega⟩ (Nat.le_of_ble_eq_true rfl) ⟨by (try dsimp only); omega, by (try dsimp only); omega⟩ hS (fun x h => h.elim (fun h => h.elim (fun ⟨j, hj, e⟩ => e ▸ hu.2 j hj) (fun h => Nat.le_trans hzH.2.1 h)) (fun e => e ▸ hoθ)) (fun H39 locs hpH39 hszH39 hkH39 hS => ?_)
              obtain ⟨hcw, ho1⟩ := hpH39
              have hzH1 := hz0.at hAB hS
              have hjH1 := hj0.at hAB hS
              have hm1 := lw_cls hLX hw hzH1 hkH39
              refine lv_istore (lv' := [(5, .int (iI 1)), (4, .int (iI i)), (3, .ref o), (2, .ref (w 0)), (1, .ref (u 0)), (0, .ref b)]) hx hb dL_law_757 hl (by decide) rfl (fun ls hl => ?_)
              refine lv_aload_n hx hb dL_law_759 rfl (lv_at hl 3 rfl) ?_
              refine lv_aload_n hx hb dL_law_760 rfl (lv_at hl 5 rfl) ?_
              refine lv_iload hx hb dL_law_761 (lv_at hl 1 rfl) ?_
              refine q_con hx hb dL_law_763 ?_
              refine q_add hx hb dL_law_764 ?_
              refine r_xld hx hb hX hbl hbA hS (i := i + 1) (z := x1) (by omega) hL ex1 dL_law_765 ?_
              refine lv_aload_n hx hb dL_law_766 rfl (lv_at hl 5 rfl) ?_
              refine lv_iload hx hb dL_law_767 (lv_at hl 1 rfl) ?_
              refine q_con hx hb dL_law_769 ?_
              refine q_add hx hb dL_law_770 ?_
              refine r_xld hx hb hX hbl hbA hS (i := i + 2) (z := x2) (by omega) hL ex2 dL_law_771 ?_
              refine lv_aload_n hx hb dL_law_772 rfl (lv_at hl 5 rfl) ?_
              refine lv_iload hx hb dL_law_773 (lv_at hl 1 rfl) ?_
              refine q_con hx hb dL_law_775 ?_
              refine q_add hx hb dL_law_776 ?_
              refine r_xld hx hb hX hbl hbA hS (i := i + 3) (z := x3) (by omega) hL ex3 dL_law_777 ?_
              refine q_ieq (tgt := 785) hx hb dL_law_778 (by decide) (by omega) (fun c40 => ?_) (fun c40 => ?_)
              · refine q_con hx hb dL_law_785 ?_
                refine lv_aload_n hx hb dL_law_786 rfl (lv_at hl 5 rfl) ?_
                refine lv_iload hx hb dL_law_787 (lv_at hl 1 rfl) ?_
                refine q_con hx hb dL_law_789 ?_
                refine q_add hx hb dL_law_790 ?_
                refine r_xld hx hb hX hbl hbA hS (i := i + 4) (z := x4) (by omega) hL ex4 dL_law_791 ?_
                refine q_ieq (tgt := 799) hx hb dL_law_792 (by decide) (by omega) (fun c41 => ?_) (fun c41 => ?_)
                · exact (show False by omega).elim
                · refine q_con hx hb dL_law_795 ?_
                  refine lv_goto (tgt := 800) hx hb dL_law_796 (by decide) ?_
                  refine c_Vr (As := [.int (iI x1), .int (iI x2), .int (iI 0), .int (iI 1)]) (rest := []) (b := w 0) (C := RX3) (r := some (.int (iI 0))) (st1 := [.int (iI 0)]) fx hl (mno2_act θ l S0 _ w r q dt sv th bc rf kn hm1 x1 x2 0 1 n9 k9 r9 (by first | assumption | omega | (dsimp only; first | assumption | omega) | exact Hid.mk (by first | assumption | omega) | exact Hid.mk ⟨fun _ => by first | assumption | omega, fun _ => by first | assumption | omega⟩) (by first | assumption | omega | (dsimp only; first | assumption | omega) | exact Hid.mk (by first | assumption | omega) | exact Hid.mk ⟨fun _ => by first | assumption | omega, fun _ => by first | assumption | omega⟩) (by first | assumption | omega | (dsimp only; first | assumption | omega) | exact Hid.mk (by first | assumption | omega) | exact Hid.mk ⟨fun _ => by first | assumption | omega, fun _ => by first | assumption | omega⟩) (by first | assumption | omega | (dsimp only; first | assumption | omega) | exact Hid.mk (by first | assumption | omega) | exact Hid.mk ⟨fun _ => by first | assumption | omega, fun _ => by first | assumption | omega⟩) (by first | assumption | omega | (dsimp only; first | assumption | omega) | exact Hid.mk (by first | assumption | omega) | exact Hid.mk ⟨fun _ => by first | assumption | omega, fun _ => by first | assumption | omega⟩) (by first | assumption | omega | (dsimp only; first | assumption | omega) | exact Hid.mk (by first | assumption | omega) | exact Hid.mk ⟨fun _ => by first | assumption | omega, fun _ => by first | assumption | omega⟩) (by first | assumption | omega | (dsimp only; first | assumption | omega) | exact Hid.mk (by first | assumption | omega) | exact Hid.mk ⟨fun _ => by first | assumption | omega, fun _ => by first | assumption | omega⟩) (by first | assumption | omega | (dsimp only; first | assumption | omega) | exact Hid.mk (by first | assumption | omega) | exact Hid.mk ⟨fun _ => by first | assumption | omega, fun _ => by first | assumption | omega⟩) (by first | assumption | omega | (dsimp only; first | assumption | omega) | exact Hid.mk (by first | assumption | omega) | exact Hid.mk ⟨fun _ => by first | assumption | omega, fun _ => by first | assumption | omega⟩) (by first | assumption | omega | (dsimp only; first | assumption | omega) | exact Hid.mk (by first | assumption | omega) | exact Hid.mk ⟨fun _ => by first | assumption | omega, fun _ => by first | assumption | omega⟩) (by first | assumption | omega | (dsimp only; first | assumption | omega) | exact Hid.mk (by first | assumption | omega) | exact Hid.mk ⟨fun _ => by first | assumption | omega, fun _ => by first | assumption | omega⟩)) (ob_recv hK hm1.2.2.1.1 rfl) dL_law_800 k1203 k1204 k1205 k6 k1206 hd_X3_act rfl rfl ⟨by omega, by omega⟩ (Nat.le_of_ble_eq_true rfl) ⟨by (try dsimp only); omega, by (try dsimp only); omega⟩ hS (wa_b hm1.2.1 hzH1.2.1) (fun H42 locs hpH42 hszH42 hkH42 hS => ?_)
                  obtain ⟨r1, q1, hm2, nr, nq⟩ := hpH42
                  have hzH2 := hz0.at hAB hS
                  have hL2 := lw_mod hLX hzH2 hu hcw ho1 hfr hfq hm2 nr nq hkH42
                  refine lv_istore (lv' := [(6, .int (iI 0)), (5, .int (iI 1)), (4, .int (iI i)), (3, .ref o), (2, .ref (w 0)), (1, .ref (u 0)), (0, .ref b)]) hx hb dL_law_803 hl (by decide) rfl (fun ls hl => ?_)
                  refine lv_goto (tgt := 2331) hx hb dL_law_805 (by decide) ?_
                  exact kk _ _ _ _ _ ⟨_, _, _, _, _, _, _, _, _, _, hL2⟩ hS (by omega) (by omega) (lv_sub hl [2, 3, 4, 5, 6] rfl)
              · exact (show False by omega).elim
          · exact (show False by omega).elim
      · refine lv_aload_n hx hb dL_law_712 rfl (lv_at hl 3 rfl) ?_
        refine lv_aload_n hx hb dL_law_713 rfl (lv_at hl 4 rfl) ?_
        refine lv_iload hx hb dL_law_714 (lv_at hl 0 rfl) ?_
        refine q_con hx hb dL_law_716 ?_
        refine q_add hx hb dL_law_717 ?_
        refine r_xld hx hb hX hbl hbA hS (i := i + 1) (z := x1) (by omega) hL ex1 dL_law_718 ?_
        refine lv_aload_n hx hb dL_law_719 rfl (lv_at hl 4 rfl) ?_
        refine lv_iload hx hb dL_law_720 (lv_at hl 0 rfl) ?_
        refine q_con hx hb dL_law_722 ?_
        refine q_add hx hb dL_law_723 ?_
        refine r_xld hx hb hX hbl hbA hS (i := i + 2) (z := x2) (by omega) hL ex2 dL_law_724 ?_
        refine lv_aload_n hx hb dL_law_725 rfl (lv_at hl 4 rfl) ?_
        refine lv_iload hx hb dL_law_726 (lv_at hl 0 rfl) ?_
        refine q_con hx hb dL_law_728 ?_
        refine q_add hx hb dL_law_729 ?_
        refine r_xld hx hb hX hbl hbA hS (i := i + 3) (z := x3) (by omega) hL ex3 dL_law_730 ?_
        refine q_ieq (tgt := 738) hx hb dL_law_731 (by decide) (by omega) (fun c43 => ?_) (fun c43 => ?_)
        · refine q_con hx hb dL_law_738 ?_
          refine lv_aload_n hx hb dL_law_739 rfl (lv_at hl 4 rfl) ?_
          refine lv_iload hx hb dL_law_740 (lv_at hl 0 rfl) ?_
          refine q_con hx hb dL_law_742 ?_
          refine q_add hx hb dL_law_743 ?_
          refine r_xld hx hb hX hbl hbA hS (i := i + 4) (z := x4) (by omega) hL ex4 dL_law_744 ?_
          refine q_ieq (tgt := 752) hx hb dL_law_745 (by decide) (by omega) (fun c44 => ?_) (fun c44 => ?_)
          · exact (show False by omega).elim
          · refine q_con hx hb dL_law_748 ?_
            refine lv_goto (tgt := 753) hx hb dL_law_749 (by decide) ?_
            refine lv_aload_n hx hb dL_law_753 rfl (lv_at hl 1 rfl) ?_
            refine c_SWr (As := [.ref (u 0), .int (iI x1), .int (iI x2), .int (iI 0), .int (iI 1), .ref o]) (rest := []) (r := .int (iI 1)) fx hl (wn1_act θ l hl0 S0 _ u dt (fun j => sv j 0) (fun j => sv j 1) (fun j => sv j 2) bc rf kn hcr hjH hn o nv sv9 ho hLX.1 x1 x2 0 1 n9 k9 r9 (by first | assumption | omega | (dsimp only; first | assumption | omega) | exact Hid.mk (by first | assumption | omega) | exact Hid.mk ⟨fun _ => by first | assumption | omega, fun _ => by first | assumption | omega⟩) (by first | assumption | omega | (dsimp only; first | assumption | omega) | exact Hid.mk (by first | assumption | omega) | exact Hid.mk ⟨fun _ => by first | assumption | omega, fun _ => by first | assumption | omega⟩) (by first | assumption | omega | (dsimp only; first | assumption | omega) | exact Hid.mk (by first | assumption | omega) | exact Hid.mk ⟨fun _ => by first | assumption | omega, fun _ => by first | assumption | omega⟩) (by first | assumption | omega | (dsimp only; first | assumption | omega) | exact Hid.mk (by first | assumption | omega) | exact Hid.mk ⟨fun _ => by first | assumption | omega, fun _ => by first | assumption | omega⟩) (by first | assumption | omega | (dsimp only; first | assumption | omega) | exact Hid.mk (by first | assumption | omega) | exact Hid.mk ⟨fun _ => by first | assumption | omega, fun _ => by first | assumption | omega⟩) (by first | assumption | omega | (dsimp only; first | assumption | omega) | exact Hid.mk (by first | assumption | omega) | exact Hid.mk ⟨fun _ => by first | assumption | omega, fun _ => by first | assumption | omega⟩) (by first | assumption | omega | (dsimp only; first | assumption | omega) | exact Hid.mk (by first | assumption | omega) | exact Hid.mk ⟨fun _ => by first | assumption | omega, fun _ => by first | assumption | omega⟩) (by first | assumption | omega | (dsimp only; first | assumption | omega) | exact Hid.mk (by first | assumption | omega) | exact Hid.mk ⟨fun _ => by first | assumption | omega, fun _ => by first | assumption | omega⟩) (by first | assumption | omega | (dsimp only; first | assumption | omega) | exact Hid.mk (by first | assumption | omega) | exact Hid.mk ⟨fun _ => by first | assumption | omega, fun _ => by first | assumption | omega⟩) (by first | assumption | omega | (dsimp only; first | assumption | omega) | exact Hid.mk (by first | assumption | omega) | exact Hid.mk ⟨fun _ => by first | assumption | omega, fun _ => by first | assumption | omega⟩)) dL_law_754 k811 k812 k0 k813 hd_L_act rfl ⟨by omega, by omega⟩ (Nat.le_of_ble_eq_true rfl) ⟨by (try dsimp only); omega, by (try dsimp only); omega⟩ hS (fun x h => h.elim (fun h => h.elim (fun ⟨j, hj, e⟩ => e ▸ hu.2 j hj) (fun h => Nat.le_trans hzH.2.1 h)) (fun e => e ▸ hoθ)) (fun H45 locs hpH45 hszH45 hkH45 hS => ?_)
            obtain ⟨hcw, ho1⟩ := hpH45
            have hzH1 := hz0.at hAB hS
            have hjH1 := hj0.at hAB hS
            have hm1 := lw_cls hLX hw hzH1 hkH45
            refine lv_istore (lv' := [(5, .int (iI 1)), (4, .int (iI i)), (3, .ref o), (2, .ref (w 0)), (1, .ref (u 0)), (0, .ref b)]) hx hb dL_law_757 hl (by decide) rfl (fun ls hl => ?_)
            refine lv_aload_n hx hb dL_law_759 rfl (lv_at hl 3 rfl) ?_
            refine lv_aload_n hx hb dL_law_760 rfl (lv_at hl 5 rfl) ?_
            refine lv_iload hx hb dL_law_761 (lv_at hl 1 rfl) ?_
            refine q_con hx hb dL_law_763 ?_
            refine q_add hx hb dL_law_764 ?_
            refine r_xld hx hb hX hbl hbA hS (i := i + 1) (z := x1) (by omega) hL ex1 dL_law_765 ?_
            refine lv_aload_n hx hb dL_law_766 rfl (lv_at hl 5 rfl) ?_
            refine lv_iload hx hb dL_law_767 (lv_at hl 1 rfl) ?_
            refine q_con hx hb dL_law_769 ?_
            refine q_add hx hb dL_law_770 ?_
            refine r_xld hx hb hX hbl hbA hS (i := i + 2) (z := x2) (by omega) hL ex2 dL_law_771 ?_
            refine lv_aload_n hx hb dL_law_772 rfl (lv_at hl 5 rfl) ?_
            refine lv_iload hx hb dL_law_773 (lv_at hl 1 rfl) ?_
            refine q_con hx hb dL_law_775 ?_
            refine q_add hx hb dL_law_776 ?_
            refine r_xld hx hb hX hbl hbA hS (i := i + 3) (z := x3) (by omega) hL ex3 dL_law_777 ?_
            refine q_ieq (tgt := 785) hx hb dL_law_778 (by decide) (by omega) (fun c46 => ?_) (fun c46 => ?_)
            · refine q_con hx hb dL_law_785 ?_
              refine lv_aload_n hx hb dL_law_786 rfl (lv_at hl 5 rfl) ?_
              refine lv_iload hx hb dL_law_787 (lv_at hl 1 rfl) ?_
              refine q_con hx hb dL_law_789 ?_
              refine q_add hx hb dL_law_790 ?_
              refine r_xld hx hb hX hbl hbA hS (i := i + 4) (z := x4) (by omega) hL ex4 dL_law_791 ?_
              refine q_ieq (tgt := 799) hx hb dL_law_792 (by decide) (by omega) (fun c47 => ?_) (fun c47 => ?_)
              · exact (show False by omega).elim
              · refine q_con hx hb dL_law_795 ?_
                refine lv_goto (tgt := 800) hx hb dL_law_796 (by decide) ?_
                refine c_Vr (As := [.int (iI x1), .int (iI x2), .int (iI 0), .int (iI 1)]) (rest := []) (b := w 0) (C := RX3) (r := some (.int (iI 0))) (st1 := [.int (iI 0)]) fx hl (mno1_act θ l S0 _ w r q dt sv th bc rf kn hm1 x1 x2 0 1 n9 k9 r9 (by first | assumption | omega | (dsimp only; first | assumption | omega) | exact Hid.mk (by first | assumption | omega) | exact Hid.mk ⟨fun _ => by first | assumption | omega, fun _ => by first | assumption | omega⟩) (by first | assumption | omega | (dsimp only; first | assumption | omega) | exact Hid.mk (by first | assumption | omega) | exact Hid.mk ⟨fun _ => by first | assumption | omega, fun _ => by first | assumption | omega⟩) (by first | assumption | omega | (dsimp only; first | assumption | omega) | exact Hid.mk (by first | assumption | omega) | exact Hid.mk ⟨fun _ => by first | assumption | omega, fun _ => by first | assumption | omega⟩) (by first | assumption | omega | (dsimp only; first | assumption | omega) | exact Hid.mk (by first | assumption | omega) | exact Hid.mk ⟨fun _ => by first | assumption | omega, fun _ => by first | assumption | omega⟩) (by first | assumption | omega | (dsimp only; first | assumption | omega) | exact Hid.mk (by first | assumption | omega) | exact Hid.mk ⟨fun _ => by first | assumption | omega, fun _ => by first | assumption | omega⟩) (by first | assumption | omega | (dsimp only; first | assumption | omega) | exact Hid.mk (by first | assumption | omega) | exact Hid.mk ⟨fun _ => by first | assumption | omega, fun _ => by first | assumption | omega⟩) (by first | assumption | omega | (dsimp only; first | assumption | omega) | exact Hid.mk (by first | assumption | omega) | exact Hid.mk ⟨fun _ => by first | assumption | omega, fun _ => by first | assumption | omega⟩) (by first | assumption | omega | (dsimp only; first | assumption | omega) | exact Hid.mk (by first | assumption | omega) | exact Hid.mk ⟨fun _ => by first | assumption | omega, fun _ => by first | assumption | omega⟩) (by first | assumption | omega | (dsimp only; first | assumption | omega) | exact Hid.mk (by first | assumption | omega) | exact Hid.mk ⟨fun _ => by first | assumption | omega, fun _ => by first | assumption | omega⟩) (by first | assumption | omega | (dsimp only; first | assumption | omega) | exact Hid.mk (by first | assumption | omega) | exact Hid.mk ⟨fun _ => by first | assumption | omega, fun _ => by first | assumption | omega⟩)) (ob_recv hK hm1.2.2.1.1 rfl) dL_law_800 k1203 k1204 k1205 k6 k1206 hd_X3_act rfl rfl ⟨by omega, by omega⟩ (Nat.le_of_ble_eq_true rfl) ⟨by (try dsimp only); omega, by (try dsimp only); omega⟩ hS (wa_b hm1.2.1 hzH1.2.1) (fun H48 locs hpH48 hszH48 hkH48 hS => ?_)
                obtain ⟨r1, q1, hm2, nr, nq⟩ := hpH48
                have hzH2 := hz0.at hAB hS
                have hL2 := lw_mod hLX hzH2 hu hcw ho1 hfr hfq hm2 nr nq hkH48
                refine lv_istore (lv' := [(6, .int (iI 0)), (5, .int (iI 1)), (4, .int (iI i)), (3, .ref o), (2, .ref (w 0)), (1, .ref (u 0)), (0, .ref b)]) hx hb dL_law_803 hl (by decide) rfl (fun ls hl => ?_)
                refine lv_goto (tgt := 2331) hx hb dL_law_805 (by decide) ?_
                exact kk _ _ _ _ _ ⟨_, _, _, _, _, _, _, _, _, _, hL2⟩ hS (by omega) (by omega) (lv_sub hl [2, 3, 4, 5, 6] rfl)
            · exact (show False by omega).elim
        · exact (show False by omega).elim
  · by_cases hb4 : x4 = 0
    · obtain ⟨n9, en9⟩ : ∃ z : Int, z = 12 * sv x2.toNat 0 + sv x2.toNat 1 := ⟨_, rfl⟩
      obtain ⟨k9, ek9⟩ : ∃ z : Int, z = sv x2.toNat 2 := ⟨_, rfl⟩
      obtain ⟨r9, er9⟩ : ∃ z : Int, z = shI (dt x1.toNat + k9) n9 := ⟨_, rfl⟩
      by_cases hc1 : 0 ≤ x1 ∧ x1 < 6
      · by_cases hc2 : 0 ≤ x2 ∧ x2 < 3
        · by_cases hc3 : -4371587 ≤ r9 ∧ r9 ≤ 2932896
          · refine lv_aload_n hx hb dL_law_712 rfl (lv_at hl 3 rfl) ?_
            refine lv_aload_n hx hb dL_law_713 rfl (lv_at hl 4 rfl) ?_
            refine lv_iload hx hb dL_law_714 (lv_at hl 0 rfl) ?_
            refine q_con hx hb dL_law_716 ?_
            refine q_add hx hb dL_law_717 ?_
            refine r_xld hx hb hX hbl hbA hS (i := i + 1) (z := x1) (by omega) hL ex1 dL_law_718 ?_
            refine lv_aload_n hx hb dL_law_719 rfl (lv_at hl 4 rfl) ?_
            refine lv_iload hx hb dL_law_720 (lv_at hl 0 rfl) ?_
            refine q_con hx hb dL_law_722 ?_
            refine q_add hx hb dL_law_723 ?_
            refine r_xld hx hb hX hbl hbA hS (i := i + 2) (z := x2) (by omega) hL ex2 dL_law_724 ?_
            refine lv_aload_n hx hb dL_law_725 rfl (lv_at hl 4 rfl) ?_
            refine lv_iload hx hb dL_law_726 (lv_at hl 0 rfl) ?_
            refine q_con hx hb dL_law_728 ?_
            refine q_add hx hb dL_law_729 ?_
            refine r_xld hx hb hX hbl hbA hS (i := i + 3) (z := x3) (by omega) hL ex3 dL_law_730 ?_
            refine q_ieq (tgt := 738) hx hb dL_law_731 (by decide) (by omega) (fun c49 => ?_) (fun c49 => ?_)
            · exact (show False by omega).elim
            · refine q_con hx hb dL_law_734 ?_
              refine lv_goto (tgt := 739) hx hb dL_law_735 (by decide) ?_
              refine lv_aload_n hx hb dL_law_739 rfl (lv_at hl 4 rfl) ?_
              refine lv_iload hx hb dL_law_740 (lv_at hl 0 rfl) ?_
              refine q_con hx hb dL_law_742 ?_
              refine q_add hx hb dL_law_743 ?_
              refine r_xld hx hb hX hbl hbA hS (i := i + 4) (z := x4) (by omega) hL ex4 dL_law_744 ?_
              refine q_ieq (tgt := 752) hx hb dL_law_745 (by decide) (by omega) (fun c50 => ?_) (fun c50 => ?_)
              · refine q_con hx hb dL_law_752 ?_
                refine lv_aload_n hx hb dL_law_753 rfl (lv_at hl 1 rfl) ?_
                refine c_SWr (As := [.ref (u 0), .int (iI x1), .int (iI x2), .int (iI 1), .int (iI 0), .ref o]) (rest := []) (r := .int (iI 0)) fx hl (wr_act θ l hl0 S0 _ u dt (fun j => sv j 0) (fun j => sv j 1) (fun j => sv j 2) bc rf kn hcr hjH hn o nv sv9 ho hLX.1 x1 x2 1 0 n9 k9 r9 (by first | assumption | omega | (dsimp only; first | assumption | omega) | exact Hid.mk (by first | assumption | omega) | exact Hid.mk ⟨fun _ => by first | assumption | omega, fun _ => by first | assumption | omega⟩) (by first | assumption | omega | (dsimp only; first | assumption | omega) | exact Hid.mk (by first | assumption | omega) | exact Hid.mk ⟨fun _ => by first | assumption | omega, fun _ => by first | assumption | omega⟩) (by first | assumption | omega | (dsimp only; first | assumption | omega) | exact Hid.mk (by first | assumption | omega) | exact Hid.mk ⟨fun _ => by first | assumption | omega, fun _ => by first | assumption | omega⟩) (by first | assumption | omega | (dsimp only; first | assumption | omega) | exact Hid.mk (by first | assumption | omega) | exact Hid.mk ⟨fun _ => by first | assumption | omega, fun _ => by first | assumption | omega⟩) (by first | assumption | omega | (dsimp only; first | assumption | omega) | exact Hid.mk (by first | assumption | omega) | exact Hid.mk ⟨fun _ => by first | assumption | omega, fun _ => by first | assumption | omega⟩) (by first | assumption | omega | (dsimp only; first | assumption | omega) | exact Hid.mk (by first | assumption | omega) | exact Hid.mk ⟨fun _ => by first | assumption | omega, fun _ => by first | assumption | omega⟩) (by first | assumption | omega | (dsimp only; first | assumption | omega) | exact Hid.mk (by first | assumption | omega) | exact Hid.mk ⟨fun _ => by first | assumption | omega, fun _ => by first | assumption | omega⟩) (by first | assumption | omega | (dsimp only; first | assumption | omega) | exact Hid.mk (by first | assumption | omega) | exact Hid.mk ⟨fun _ => by first | assumption | omega, fun _ => by first | assumption | omega⟩) (by first | assumption | omega | (dsimp only; first | assumption | omega) | exact Hid.mk (by first | assumption | omega) | exact Hid.mk ⟨fun _ => by first | assumption | omega, fun _ => by first | assumption | omega⟩) (by first | assumption | omega | (dsimp only; first | assumption | omega) | exact Hid.mk (by first | assumption | omega) | exact Hid.mk ⟨fun _ => by first | assumption | omega, fun _ => by first | assumption | omega⟩) (by first | assumption | omega | (dsimp only; first | assumption | omega) | exact Hid.mk (by first | assumption | omega) | exact Hid.mk ⟨fun _ => by first | assumption | omega, fun _ => by first | assumption | omega⟩) (by first | assumption | omega | (dsimp only; first | assumption | omega) | exact Hid.mk (by first | assumption | omega) | exact Hid.mk ⟨fun _ => by first | assumption | omega, fun _ => by first | assumption | omega⟩)) dL_law_754 k811 k812 k0 k813 hd_L_act rfl ⟨by omega, by omega⟩ (Nat.le_of_ble_eq_true rfl) ⟨by (try dsimp only); omega, by (try dsimp only); omega⟩ hS (fun x h => h.elim (fun h => h.elim (fun ⟨j, hj, e⟩ => e ▸ hu.2 j hj) (fun h => Nat.le_trans hzH.2.1 h)) (fun e => e ▸ hoθ)) (fun H51 locs hpH51 hszH51 hkH51 hS => ?_)
                obtain ⟨hcw, ho1⟩ := hpH51
                have hzH1 := hz0.at hAB hS
                have hjH1 := hj0.at hAB hS
                have hm1 := lw_cls hLX hw hzH1 hkH51
                refine lv_istore (lv' := [(5, .int (iI 0)), (4, .int (iI i)), (3, .ref o), (2, .ref (w 0)), (1, .ref (u 0)), (0, .ref b)]) hx hb dL_law_757 hl (by decide) rfl (fun ls hl => ?_)
                refine lv_aload_n hx hb dL_law_759 rfl (lv_at hl 3 rfl) ?_
                refine lv_aload_n hx hb dL_law_760 rfl (lv_at hl 5 rfl) ?_
                refine lv_iload hx hb dL_law_761 (lv_at hl 1 rfl) ?_
                refine q_con hx hb dL_law_763 ?_
                refine q_add hx hb dL_law_764 ?_
                refine r_xld hx hb hX hbl hbA hS (i := i + 1) (z := x1) (by omega) hL ex1 dL_law_765 ?_
                refine lv_aload_n hx hb dL_law_766 rfl (lv_at hl 5 rfl) ?_
                refine lv_iload hx hb dL_law_767 (lv_at hl 1 rfl) ?_
                refine q_con hx hb dL_law_769 ?_
                refine q_add hx hb dL_law_770 ?_
                refine r_xld hx hb hX hbl hbA hS (i := i + 2) (z := x2) (by omega) hL ex2 dL_law_771 ?_
                refine lv_aload_n hx hb dL_law_772 rfl (lv_at hl 5 rfl) ?_
                refine lv_iload hx hb dL_law_773 (lv_at hl 1 rfl) ?_
                refine q_con hx hb dL_law_775 ?_
                refine q_add hx hb dL_law_776 ?_
                refine r_xld hx hb hX hbl hbA hS (i := i + 3) (z := x3) (by omega) hL ex3 dL_law_777 ?_
                refine q_ieq (tgt := 785) hx hb dL_law_778 (by decide) (by omega) (fun c52 => ?_) (fun c52 => ?_)
                · exact (show False by omega).elim
                · refine q_con hx hb dL_law_781 ?_
                  refine lv_goto (tgt := 786) hx hb dL_law_782 (by decide) ?_
                  refine lv_aload_n hx hb dL_law_786 rfl (lv_at hl 5 rfl) ?_
                  refine lv_iload hx hb dL_law_787 (lv_at hl 1 rfl) ?_
                  refine q_con hx hb dL_law_789 ?_
                  refine q_add hx hb dL_law_790 ?_
                  refine r_xld hx hb hX hbl hbA hS (i := i + 4) (z := x4) (by omega) hL ex4 dL_law_791 ?_
                  refine q_ieq (tgt := 799) hx hb dL_law_792 (by decide) (by omega) (fun c53 => ?_) (fun c53 => ?_)
                  · refine q_con hx hb dL_law_799 ?_
                    refine c_Vr (As := [.int (iI x1), .int (iI x2), .int (iI 1), .int (iI 0)]) (rest := []) (b := w 0) (C := RX3) (r := some (.int (iI r9))) (st1 := [.int (iI r9)]) fx hl (mok_act θ l S0 _ w r q dt sv th bc rf kn hm1 x1 x2 1 0 n9 k9 r9 (by first | assumption | omega | (dsimp only; first | assumption | omega) | exact Hid.mk (by first | assumption | omega) | exact Hid.mk ⟨fun _ => by first | assumption | omega, fun _ => by first | assumption | omega⟩) (by first | assumption | omega | (dsimp only; first | assumption | omega) | exact Hid.mk (by first | assumption | omega) | exact Hid.mk ⟨fun _ => by first | assumption | omega, fun _ => by first | assumption | omega⟩) (by first | assumption | omega | (dsimp only; first | assumption | omega) | exact Hid.mk (by first | assumption | omega) | exact Hid.mk ⟨fun _ => by first | assumption | omega, fun _ => by first | assumption | omega⟩) (by first | assumption | omega | (dsimp only; first | assumption | omega) | exact Hid.mk (by first | assumption | omega) | exact Hid.mk ⟨fun _ => by first | assumption | omega, fun _ => by first | assumption | omega⟩) (by first | assumption | omega | (dsimp only; first | assumption | omega) | exact Hid.mk (by first | assumption | omega) | exact Hid.mk ⟨fun _ => by first | assumption | omega, fun _ => by first | assumption | omega⟩) (by first | assumption | omega | (dsimp only; first | assumption | omega) | exact Hid.mk (by first | assumption | omega) | exact Hid.mk ⟨fun _ => by first | assumption | omega, fun _ => by first | assumption | omega⟩) (by first | assumption | omega | (dsimp only; first | assumption | omega) | exact Hid.mk (by first | assumption | omega) | exact Hid.mk ⟨fun _ => by first | assumption | omega, fun _ => by first | assumption | omega⟩) (by first | assumption | omega | (dsimp only; first | assumption | omega) | exact Hid.mk (by first | assumption | omega) | exact Hid.mk ⟨fun _ => by first | assumption | omega, fun _ => by first | assumption | omega⟩) (by first | assumption | omega | (dsimp only; first | assumption | omega) | exact Hid.mk (by first | assumption | omega) | exact Hid.mk ⟨fun _ => by first | assumption | omega, fun _ => by first | assumption | omega⟩) (by first | assumption | omega | (dsimp only; first | assumption | omega) | exact Hid.mk (by first | assumption | omega) | exact Hid.mk ⟨fun _ => by first | assumption | omega, fun _ => by first | assumption | omega⟩) (by first | assumption | omega | (dsimp only; first | assumption | omega) | exact Hid.mk (by first | assumption | omega) | exact Hid.mk ⟨fun _ => by first | assumption | omega, fun _ => by first | assumption | omega⟩) (by first | assumption | omega | (dsimp only; first | assumption | omega) | exact Hid.mk (by first | assumption | omega) | exact Hid.mk ⟨fun _ => by first | assumption | omega, fun _ => by first | assumption | omega⟩)) (ob_recv hK hm1.2.2.1.1 rfl) dL_law_800 k1203 k1204 k1205 k6 k1206 hd_X3_act rfl rfl ⟨by omega, by omega⟩ (Nat.le_of_ble_eq_true rfl) ⟨by (try dsimp only); omega, by (try dsimp only); omega⟩ hS (wa_b hm1.2.1 hzH1.2.1) (fun H54 locs hpH54 hszH54 hkH54 hS => ?_)
                    obtain ⟨r1, q1, hm2, nr, nq⟩ := hpH54
                    have hzH2 := hz0.at hAB hS
                    have hL2 := lw_mod hLX hzH2 hu hcw ho1 hfr hfq hm2 nr nq hkH54
                    refine lv_istore (lv' := [(6, .int (iI r9)), (5, .int (iI 0)), (4, .int (iI i)), (3, .ref o), (2, .ref (w 0)), (1, .ref (u 0)), (0, .ref b)]) hx hb dL_law_803 hl (by decide) rfl (fun ls hl => ?_)
                    refine lv_goto (tgt := 2331) hx hb dL_law_805 (by decide) ?_
                    exact kk _ _ _ _ _ ⟨_, _, _, _, _, _, _, _, _, _, hL2⟩ hS (by omega) (by omega) (lv_sub hl [2, 3, 4, 5, 6] rfl)
                  · exact (show False by omega).elim
              · exact (show False by omega).elim
          · refine lv_aload_n hx hb dL_law_712 rfl (lv_at hl 3 rfl) ?_
            refine lv_aload_n hx hb dL_law_713 rfl (lv_at hl 4 rfl) ?_
            refine lv_iload hx hb dL_law_714 (lv_at hl 0 rfl) ?_
            refine q_con hx hb dL_law_716 ?_
            refine q_add hx hb dL_law_717 ?_
            refine r_xld hx hb hX hbl hbA hS (i := i + 1) (z := x1) (by omega) hL ex1 dL_law_718 ?_
            refine lv_aload_n hx hb dL_law_719 rfl (lv_at hl 4 rfl) ?_
            refine lv_iload hx hb dL_law_720 (lv_at hl 0 rfl) ?_
            refine q_con hx hb dL_law_722 ?_
            refine q_add hx hb dL_law_723 ?_
            refine r_xld hx hb hX hbl hbA hS (i := i + 2) (z := x2) (by omega) hL ex2 dL_law_724 ?_
            refine lv_aload_n hx hb dL_law_725 rfl (lv_at hl 4 rfl) ?_
            refine lv_iload hx hb dL_law_726 (lv_at hl 0 rfl) ?_
            refine q_con hx hb dL_law_728 ?_
            refine q_add hx hb dL_law_729 ?_
            refine r_xld hx hb hX hbl hbA hS (i := i + 3) (z := x3) (by omega) hL ex3 dL_law_730 ?_
            refine q_ieq (tgt := 738) hx hb dL_law_731 (by decide) (by omega) (fun c55 => ?_) (fun c55 => ?_)
            · exact (show False by omega).elim
            · refine q_con hx hb dL_law_734 ?_
              refine lv_goto (tgt := 739) hx hb dL_law_735 (by decide) ?_
              refine lv_aload_n hx hb dL_law_739 rfl (lv_at hl 4 rfl) ?_
              refine lv_iload hx hb dL_law_740 (lv_at hl 0 rfl) ?_
              refine q_con hx hb dL_law_742 ?_
              refine q_add hx hb dL_law_743 ?_
              refine r_xld hx hb hX hbl hbA hS (i := i + 4) (z := x4) (by omega) hL ex4 dL_law_744 ?_
              refine q_ieq (tgt := 752) hx hb dL_law_745 (by decide) (by omega) (fun c56 => ?_) (fun c56 => ?_)
              · refine q_con hx hb dL_law_752 ?_
                refine lv_aload_n hx hb dL_law_753 rfl (lv_at hl 1 rfl) ?_
                refine c_SWr (As := [.ref (u 0), .int (iI x1), .int (iI x2), .int (iI 1), .int (iI 0), .ref o]) (rest := []) (r := .int (iI 2)) fx hl (wn3_act θ l hl0 S0 _ u dt (fun j => sv j 0) (fun j => sv j 1) (fun j => sv j 2) bc rf kn hcr hjH hn o nv sv9 ho hLX.1 x1 x2 1 0 n9 k9 r9 (by first | assumption | omega | (dsimp only; first | assumption | omega) | exact Hid.mk (by first | assumption | omega) | exact Hid.mk ⟨fun _ => by first | assumption | omega, fun _ => by first | assumption | omega⟩) (by first | assumption | omega | (dsimp only; first | assumption | omega) | exact Hid.mk (by first | assumption | omega) | exact Hid.mk ⟨fun _ => by first | assumption | omega, fun _ => by first | assumption | omega⟩) (by first | assumption | omega | (dsimp only; first | assumption | omega) | exact Hid.mk (by first | assumption | omega) | exact Hid.mk ⟨fun _ => by first | assumption | omega, fun _ => by first | assumption | omega⟩) (by first | assumption | omega | (dsimp only; first | assumption | omega) | exact Hid.mk (by first | assumption | omega) | exact Hid.mk ⟨fun _ => by first | assumption | omega, fun _ => by first | assumption | omega⟩) (by first | assumption | omega | (dsimp only; first | assumption | omega) | exact Hid.mk (by first | assumption | omega) | exact Hid.mk ⟨fun _ => by first | assumption | omega, fun _ => by first | assumption | omega⟩) (by first | assumption | omega | (dsimp only; first | assumption | omega) | exact Hid.mk (by first | assumption | omega) | exact Hid.mk ⟨fun _ => by first | assumption | omega, fun _ => by first | assumption | omega⟩) (by first | assumption | omega | (dsimp only; first | assumption | omega) | exact Hid.mk (by first | assumption | omega) | exact Hid.mk ⟨fun _ => by first | assumption | omega, fun _ => by first | assumption | omega⟩) (by first | assumption | omega | (dsimp only; first | assumption | omega) | exact Hid.mk (by first | assumption | omega) | exact Hid.mk ⟨fun _ => by first | assumption | omega, fun _ => by first | assumption | omega⟩) (by first | assumption | omega | (dsimp only; first | assumption | omega) | exact Hid.mk (by first | assumption | omega) | exact Hid.mk ⟨fun _ => by first | assumption | omega, fun _ => by first | assumption | omega⟩) (by first | assumption | omega | (dsimp only; first | assumption | omega) | exact Hid.mk (by first | assumption | omega) | exact Hid.mk ⟨fun _ => by first | assumption | omega, fun _ => by first | assumption | omega⟩) (by first | assumption | omega | (dsimp only; first | assumption | omega) | exact Hid.mk (by first | assumption | omega) | exact Hid.mk ⟨fun _ => by first | assumption | omega, fun _ => by first | assumption | omega⟩) (by first | assumption | omega | (dsimp only; first | assumption | omega) | exact Hid.mk (by first | assumption | omega) | exact Hid.mk ⟨fun _ => by first | assumption | omega, fun _ => by first | assumption | omega⟩)) dL_law_754 k811 k812 k0 k813 hd_L_act rfl ⟨by omega, by omega⟩ (Nat.le_of_ble_eq_true rfl) ⟨by (try dsimp only); omega, by (try dsimp only); omega⟩ hS (fun x h => h.elim (fun h => h.elim (fun ⟨j, hj, e⟩ => e ▸ hu.2 j hj) (fun h => Nat.le_trans hzH.2.1 h)) (fun e => e ▸ hoθ)) (fun H57 locs hpH57 hszH57 hkH57 hS => ?_)
                obtain ⟨hcw, ho1⟩ := hpH57
                have hzH1 := hz0.at hAB hS
                have hjH1 := hj0.at hAB hS
                have hm1 := lw_cls hLX hw hzH1 hkH57
                refine lv_istore (lv' := [(5, .int (iI 2)), (4, .int (iI i)), (3, .ref o), (2, .ref (w 0)), (1, .ref (u 0)), (0, .ref b)]) hx hb dL_law_757 hl (by decide) rfl (fun ls hl => ?_)
                refine lv_aload_n hx hb dL_law_759 rfl (lv_at hl 3 rfl) ?_
                refine lv_aload_n hx hb dL_law_760 rfl (lv_at hl 5 rfl) ?_
                refine lv_iload hx hb dL_law_761 (lv_at hl 1 rfl) ?_
                refine q_con hx hb dL_law_763 ?_
                refine q_add hx hb dL_law_764 ?_
                refine r_xld hx hb hX hbl hbA hS (i := i + 1) (z := x1) (by omega) hL ex1 dL_law_765 ?_
                refine lv_aload_n hx hb dL_law_766 rfl (lv_at hl 5 rfl) ?_
                refine lv_iload hx hb dL_law_767 (lv_at hl 1 rfl) ?_
                refine q_con hx hb dL_law_769 ?_
                refine q_add hx hb dL_law_770 ?_
                refine r_xld hx hb hX hbl hbA hS (i := i + 2) (z := x2) (by omega) hL ex2 dL_law_771 ?_
                refine lv_aload_n hx hb dL_law_772 rfl (lv_at hl 5 rfl) ?_
                refine lv_iload hx hb dL_law_773 (lv_at hl 1 rfl) ?_
                refine q_con hx hb dL_law_775 ?_
                refine q_add hx hb dL_law_776 ?_
                refine r_xld hx hb hX hbl hbA hS (i := i + 3) (z := x3) (by omega) hL ex3 dL_law_777 ?_
                refine q_ieq (tgt := 785) hx hb dL_law_778 (by decide) (by omega) (fun c58 => ?_) (fun c58 => ?_)
                · exact (show False by omega).elim
                · refine q_con hx hb dL_law_781 ?_
                  refine lv_goto (tgt := 786) hx hb dL_law_782 (by decide) ?_
                  refine lv_aload_n hx hb dL_law_786 rfl (lv_at hl 5 rfl) ?_
                  refine lv_iload hx hb dL_law_787 (lv_at hl 1 rfl) ?_
                  refine q_con hx hb dL_law_789 ?_
                  refine q_add hx hb dL_law_790 ?_
                  refine r_xld hx hb hX hbl hbA hS (i := i + 4) (z := x4) (by omega) hL ex4 dL_law_791 ?_
                  refine q_ieq (tgt := 799) hx hb dL_law_792 (by decide) (by omega) (fun c59 => ?_) (fun c59 => ?_)
                  · refine q_con hx hb dL_law_799 ?_
                    refine c_Vr (As := [.int (iI x1), .int (iI x2), .int (iI 1), .int (iI 0)]) (rest := []) (b := w 0) (C := RX3) (r := some (.int (iI 0))) (st1 := [.int (iI 0)]) fx hl (mno3_act θ l S0 _ w r q dt sv th bc rf kn hm1 x1 x2 1 0 n9 k9 r9 (by first | assumption | omega | (dsimp only; first | assumption | omega) | exact Hid.mk (by first | assumption | omega) | exact Hid.mk ⟨fun _ => by first | assumption | omega, fun _ => by first | assumption | omega⟩) (by first | assumption | omega | (dsimp only; first | assumption | omega) | exact Hid.mk (by first | assumption | omega) | exact Hid.mk ⟨fun _ => by first | assumption | omega, fun _ => by first | assumption | omega⟩) (by first | assumption | omega | (dsimp only; first | assumption | omega) | exact Hid.mk (by first | assumption | omega) | exact Hid.mk ⟨fun _ => by first | assumption | omega, fun _ => by first | assumption | omega⟩) (by first | assumption | omega | (dsimp only; first | assumption | omega) | exact Hid.mk (by first | assumption | omega) | exact Hid.mk ⟨fun _ => by first | assumption | omega, fun _ => by first | assumption | omega⟩) (by first | assumption | omega | (dsimp only; first | assumption | omega) | exact Hid.mk (by first | assumption | omega) | exact Hid.mk ⟨fun _ => by first | assumption | omega, fun _ => by first | assumption | omega⟩) (by first | assumption | omega | (dsimp only; first | assumption | omega) | exact Hid.mk (by first | assumption | omega) | exact Hid.mk ⟨fun _ => by first | assumption | omega, fun _ => by first | assumption | omega⟩) (by first | assumption | omega | (dsimp only; first | assumption | omega) | exact Hid.mk (by first | assumption | omega) | exact Hid.mk ⟨fun _ => by first | assumption | omega, fun _ => by first | assumption | omega⟩) (by first | assumption | omega | (dsimp only; first | assumption | omega) | exact Hid.mk (by first | assumption | omega) | exact Hid.mk ⟨fun _ => by first | assumption | omega, fun _ => by first | assumption | omega⟩) (by first | assumption | omega | (dsimp only; first | assumption | omega) | exact Hid.mk (by first | assumption | omega) | exact Hid.mk ⟨fun _ => by first | assumption | omega, fun _ => by first | assumption | omega⟩) (by first | assumption | omega | (dsimp only; first | assumption | omega) | exact Hid.mk (by first | assumption | omega) | exact Hid.mk ⟨fun _ => by first | assumption | omega, fun _ => by first | assumption | omega⟩) (by first | assumption | omega | (dsimp only; first | assumption | omega) | exact Hid.mk (by first | assumption | omega) | exact Hid.mk ⟨fun _ => by first | assumption | omega, fun _ => by first | assumption | omega⟩) (by first | assumption | omega | (dsimp only; first | assumption | omega) | exact Hid.mk (by first | assumption | omega) | exact Hid.mk ⟨fun _ => by first | assumption | omega, fun _ => by first | assumption | omega⟩)) (ob_recv hK hm1.2.2.1.1 rfl) dL_law_800 k1203 k1204 k1205 k6 k1206 hd_X3_act rfl rfl ⟨by omega, by omega⟩ (Nat.le_of_ble_eq_true rfl) ⟨by (try dsimp only); omega, by (try dsimp only); omega⟩ hS (wa_b hm1.2.1 hzH1.2.1) (fun H60 locs hpH60 hszH60 hkH60 hS => ?_)
                    obtain ⟨r1, q1, hm2, nr, nq⟩ := hpH60
                    have hzH2 := hz0.at hAB hS
                    have hL2 := lw_mod hLX hzH2 hu hcw ho1 hfr hfq hm2 nr nq hkH60
                    refine lv_istore (lv' := [(6, .int (iI 0)), (5, .int (iI 2)), (4, .int (iI i)), (3, .ref o), (2, .ref (w 0)), (1, .ref (u 0)), (0, .ref b)]) hx hb dL_law_803 hl (by decide) rfl (fun ls hl => ?_)
                    refine lv_goto (tgt := 2331) hx hb dL_law_805 (by decide) ?_
                    exact kk _ _ _ _ _ ⟨_, _, _, _, _, _, _, _, _, _, hL2⟩ hS (by omega) (by omega) (lv_sub hl [2, 3, 4, 5, 6] rfl)
                  · exact (show False by omega).elim
              · exact (show False by omega).elim
        · refine lv_aload_n hx hb dL_law_712 rfl (lv_at hl 3 rfl) ?_
          refine lv_aload_n hx hb dL_law_713 rfl (lv_at hl 4 rfl) ?_
          refine lv_iload hx hb dL_law_714 (lv_at hl 0 rfl) ?_
          refine q_con hx hb dL_law_716 ?_
          refine q_add hx hb dL_law_717 ?_
          refine r_xld hx hb hX hbl hbA hS (i := i + 1) (z := x1) (by omega) hL ex1 dL_law_718 ?_
          refine lv_aload_n hx hb dL_law_719 rfl (lv_at hl 4 rfl) ?_
          refine lv_iload hx hb dL_law_720 (lv_at hl 0 rfl) ?_
          refine q_con hx hb dL_law_722 ?_
          refine q_add hx hb dL_law_723 ?_
          refine r_xld hx hb hX hbl hbA hS (i := i + 2) (z := x2) (by omega) hL ex2 dL_law_724 ?_
          refine lv_aload_n hx hb dL_law_725 rfl (lv_at hl 4 rfl) ?_
          refine lv_iload hx hb dL_law_726 (lv_at hl 0 rfl) ?_
          refine q_con hx hb dL_law_728 ?_
          refine q_add hx hb dL_law_729 ?_
          refine r_xld hx hb hX hbl hbA hS (i := i + 3) (z := x3) (by omega) hL ex3 dL_law_730 ?_
          refine q_ieq (tgt := 738) hx hb dL_law_731 (by decide) (by omega) (fun c61 => ?_) (fun c61 => ?_)
          · exact (show False by omega).elim
          · refine q_con hx hb dL_law_734 ?_
            refine lv_goto (tgt := 739) hx hb dL_law_735 (by decide) ?_
            refine lv_aload_n hx hb dL_law_739 rfl (lv_at hl 4 rfl) ?_
            refine lv_iload hx hb dL_law_740 (lv_at hl 0 rfl) ?_
            refine q_con hx hb dL_law_742 ?_
            refine q_add hx hb dL_law_743 ?_
            refine r_xld hx hb hX hbl hbA hS (i := i + 4) (z := x4) (by omega) hL ex4 dL_law_744 ?_
            refine q_ieq (tgt := 752) hx hb dL_law_745 (by decide) (by omega) (fun c62 => ?_) (fun c62 => ?_)
            · refine q_con hx hb dL_law_752 ?_
              refine lv_aload_n hx hb dL_law_753 rfl (lv_at hl 1 rfl) ?_
              refine c_SWr (As := [.ref (u 0), .int (iI x1), .int (iI x2), .int (iI 1), .int (iI 0), .ref o]) (rest := []) (r := .int (iI 1)) fx hl (wn2_act θ l hl0 S0 _ u dt (fun j => sv j 0) (fun j => sv j 1) (fun j => sv j 2) bc rf kn hcr hjH hn o nv sv9 ho hLX.1 x1 x2 1 0 n9 k9 r9 (by first | assumption | omega | (dsimp only; first | assumption | omega) | exact Hid.mk (by first | assumption | omega) | exact Hid.mk ⟨fun _ => by first | assumption | omega, fun _ => by first | assumption | omega⟩) (by first | assumption | omega | (dsimp only; first | assumption | omega) | exact Hid.mk (by first | assumption | omega) | exact Hid.mk ⟨fun _ => by first | assumption | omega, fun _ => by first | assumption | omega⟩) (by first | assumption | omega | (dsimp only; first | assumption | omega) | exact Hid.mk (by first | assumption | omega) | exact Hid.mk ⟨fun _ => by first | assumption | omega, fun _ => by first | assumption | omega⟩) (by first | assumption | omega | (dsimp only; first | assumption | omega) | exact Hid.mk (by first | assumption | omega) | exact Hid.mk ⟨fun _ => by first | assumption | omega, fun _ => by first | assumption | omega⟩) (by first | assumption | omega | (dsimp only; first | assumption | omega) | exact Hid.mk (by first | assumption | omega) | exact Hid.mk ⟨fun _ => by first | assumption | omega, fun _ => by first | assumption | omega⟩) (by first | assumption | omega | (dsimp only; first | assumption | omega) | exact Hid.mk (by first | assumption | omega) | exact Hid.mk ⟨fun _ => by first | assumption | omega, fun _ => by first | assumption | omega⟩) (by first | assumption | omega | (dsimp only; first | assumption | omega) | exact Hid.mk (by first | assumption | omega) | exact Hid.mk ⟨fun _ => by first | assumption | omega, fun _ => by first | assumption | omega⟩) (by first | assumption | omega | (dsimp only; first | assumption | omega) | exact Hid.mk (by first | assumption | omega) | exact Hid.mk ⟨fun _ => by first | assumption | omega, fun _ => by first | assumption | omega⟩) (by first | assumption | omega | (dsimp only; first | assumption | omega) | exact Hid.mk (by first | assumption | omega) | exact Hid.mk ⟨fun _ => by first | assumption | omega, fun _ => by first | assumption | omega⟩) (by first | assumption | omega | (dsimp only; first | assumption | omega) | exact Hid.mk (by first | assumption | omega) | exact Hid.mk ⟨fun _ => by first | assumption | omega, fun _ => by first | assumption | omega⟩) (by first | assumption | omega | (dsimp only; first | assumption | omega) | exact Hid.mk (by first | assumption | omega) | exact Hid.mk ⟨fun _ => by first | assumption | omega, fun _ => by first | assumption | omega⟩)) dL_law_754 k811 k812 k0 k813 hd_L_act rfl ⟨by omega, by omega⟩ (Nat.le_of_ble_eq_true rfl) ⟨by (try dsimp only); omega, by (try dsimp only); omega⟩ hS (fun x h => h.elim (fun h => h.elim (fun ⟨j, hj, e⟩ => e ▸ hu.2 j hj) (fun h => Nat.le_trans hzH.2.1 h)) (fun e => e ▸ hoθ)) (fun H63 locs hpH63 hszH63 hkH63 hS => ?_)
              obtain ⟨hcw, ho1⟩ := hpH63
              have hzH1 := hz0.at hAB hS
              have hjH1 := hj0.at hAB hS
              have hm1 := lw_cls hLX hw hzH1 hkH63
              refine lv_istore (lv' := [(5, .int (iI 1)), (4, .int (iI i)), (3, .ref o), (2, .ref (w 0)), (1, .ref (u 0)), (0, .ref b)]) hx hb dL_law_757 hl (by decide) rfl (fun ls hl => ?_)
              refine lv_aload_n hx hb dL_law_759 rfl (lv_at hl 3 rfl) ?_
              refine lv_aload_n hx hb dL_law_760 rfl (lv_at hl 5 rfl) ?_
              refine lv_iload hx hb dL_law_761 (lv_at hl 1 rfl) ?_
              refine q_con hx hb dL_law_763 ?_
              refine q_add hx hb dL_law_764 ?_
              refine r_xld hx hb hX hbl hbA hS (i := i + 1) (z := x1) (by omega) hL ex1 dL_law_765 ?_
              refine lv_aload_n hx hb dL_law_766 rfl (lv_at hl 5 rfl) ?_
              refine lv_iload hx hb dL_law_767 (lv_at hl 1 rfl) ?_
              refine q_con hx hb dL_law_769 ?_
              refine q_add hx hb dL_law_770 ?_
              refine r_xld hx hb hX hbl hbA hS (i := i + 2) (z := x2) (by omega) hL ex2 dL_law_771 ?_
              refine lv_aload_n hx hb dL_law_772 rfl (lv_at hl 5 rfl) ?_
              refine lv_iload hx hb dL_law_773 (lv_at hl 1 rfl) ?_
              refine q_con hx hb dL_law_775 ?_
              refine q_add hx hb dL_law_776 ?_
              refine r_xld hx hb hX hbl hbA hS (i := i + 3) (z := x3) (by omega) hL ex3 dL_law_777 ?_
              refine q_ieq (tgt := 785) hx hb dL_law_778 (by decide) (by omega) (fun c64 => ?_) (fun c64 => ?_)
              · exact (show False by omega).elim
              · refine q_con hx hb dL_law_781 ?_
                refine lv_goto (tgt := 786) hx hb dL_law_782 (by decide) ?_
                refine lv_aload_n hx hb dL_law_786 rfl (lv_at hl 5 rfl) ?_
                refine lv_iload hx hb dL_law_787 (lv_at hl 1 rfl) ?_
                refine q_con hx hb dL_law_789 ?_
                refine q_add hx hb dL_law_790 ?_
                refine r_xld hx hb hX hbl hbA hS (i := i + 4) (z := x4) (by omega) hL ex4 dL_law_791 ?_
                refine q_ieq (tgt := 799) hx hb dL_law_792 (by decide) (by omega) (fun c65 => ?_) (fun c65 => ?_)
                · refine q_con hx hb dL_law_799 ?_
                  refine c_Vr (As := [.int (iI x1), .int (iI x2), .int (iI 1), .int (iI 0)]) (rest := []) (b := w 0) (C := RX3) (r := some (.int (iI 0))) (st1 := [.int (iI 0)]) fx hl (mno2_act θ l S0 _ w r q dt sv th bc rf kn hm1 x1 x2 1 0 n9 k9 r9 (by first | assumption | omega | (dsimp only; first | assumption | omega) | exact Hid.mk (by first | assumption | omega) | exact Hid.mk ⟨fun _ => by first | assumption | omega, fun _ => by first | assumption | omega⟩) (by first | assumption | omega | (dsimp only; first | assumption | omega) | exact Hid.mk (by first | assumption | omega) | exact Hid.mk ⟨fun _ => by first | assumption | omega, fun _ => by first | assumption | omega⟩) (by first | assumption | omega | (dsimp only; first | assumption | omega) | exact Hid.mk (by first | assumption | omega) | exact Hid.mk ⟨fun _ => by first | assumption | omega, fun _ => by first | assumption | omega⟩) (by first | assumption | omega | (dsimp only; first | assumption | omega) | exact Hid.mk (by first | assumption | omega) | exact Hid.mk ⟨fun _ => by first | assumption | omega, fun _ => by first | assumption | omega⟩) (by first | assumption | omega | (dsimp only; first | assumption | omega) | exact Hid.mk (by first | assumption | omega) | exact Hid.mk ⟨fun _ => by first | assumption | omega, fun _ => by first | assumption | omega⟩) (by first | assumption | omega | (dsimp only; first | assumption | omega) | exact Hid.mk (by first | assumption | omega) | exact Hid.mk ⟨fun _ => by first | assumption | omega, fun _ => by first | assumption | omega⟩) (by first | assumption | omega | (dsimp only; first | assumption | omega) | exact Hid.mk (by first | assumption | omega) | exact Hid.mk ⟨fun _ => by first | assumption | omega, fun _ => by first | assumption | omega⟩) (by first | assumption | omega | (dsimp only; first | assumption | omega) | exact Hid.mk (by first | assumption | omega) | exact Hid.mk ⟨fun _ => by first | assumption | omega, fun _ => by first | assumption | omega⟩) (by first | assumption | omega | (dsimp only; first | assumption | omega) | exact Hid.mk (by first | assumption | omega) | exact Hid.mk ⟨fun _ => by first | assumption | omega, fun _ => by first | assumption | omega⟩) (by first | assumption | omega | (dsimp only; first | assumption | omega) | exact Hid.mk (by first | assumption | omega) | exact Hid.mk ⟨fun _ => by first | assumption | omega, fun _ => by first | assumption | omega⟩) (by first | assumption | omega | (dsimp only; first | assumption | omega) | exact Hid.mk (by first | assumption | omega) | exact Hid.mk ⟨fun _ => by first | assumption | omega, fun _ => by first | assumption | omega⟩)) (ob_recv hK hm1.2.2.1.1 rfl) dL_law_800 k1203 k1204 k1205 k6 k1206 hd_X3_act rfl rfl ⟨by omega, by omega⟩ (Nat.le_of_ble_eq_true rfl) ⟨by (try dsimp only); omega, by (try dsimp only); omega⟩ hS (wa_b hm1.2.1 hzH1.2.1) (fun H66 locs hpH66 hszH66 hkH66 hS => ?_)
                  obtain ⟨r1, q1, hm2, nr, nq⟩ := hpH66
                  have hzH2 := hz0.at hAB hS
                  have hL2 := lw_mod hLX hzH2 hu hcw ho1 hfr hfq hm2 nr nq hkH66
                  refine lv_istore (lv' := [(6, .int (iI 0)), (5, .int (iI 1)), (4, .int (iI i)), (3, .ref o), (2, .ref (w 0)), (1, .ref (u 0)), (0, .ref b)]) hx hb dL_law_803 hl (by decide) rfl (fun ls hl => ?_)
                  refine lv_goto (tgt := 2331) hx hb dL_law_805 (by decide) ?_
                  exact kk _ _ _ _ _ ⟨_, _, _, _, _, _, _, _, _, _, hL2⟩ hS (by omega) (by omega) (lv_sub hl [2, 3, 4, 5, 6] rfl)
                · exact (show False by omega).elim
            · exact (show False by omega).elim
      · refine lv_aload_n hx hb dL_law_712 rfl (lv_at hl 3 rfl) ?_
        refine lv_aload_n hx hb dL_law_713 rfl (lv_at hl 4 rfl) ?_
        refine lv_iload hx hb dL_law_714 (lv_at hl 0 rfl) ?_
        refine q_con hx hb dL_law_716 ?_
        refine q_add hx hb dL_law_717 ?_
        refine r_xld hx hb hX hbl hbA hS (i := i + 1) (z := x1) (by omega) hL ex1 dL_law_718 ?_
        refine lv_aload_n hx hb dL_law_719 rfl (lv_at hl 4 rfl) ?_
        refine lv_iload hx hb dL_law_720 (lv_at hl 0 rfl) ?_
        refine q_con hx hb dL_law_722 ?_
        refine q_add hx hb dL_law_723 ?_
        refine r_xld hx hb hX hbl hbA hS (i := i + 2) (z := x2) (by omega) hL ex2 dL_law_724 ?_
        refine lv_aload_n hx hb dL_law_725 rfl (lv_at hl 4 rfl) ?_
        refine lv_iload hx hb dL_law_726 (lv_at hl 0 rfl) ?_
        refine q_con hx hb dL_law_728 ?_
        refine q_add hx hb dL_law_729 ?_
        refine r_xld hx hb hX hbl hbA hS (i := i + 3) (z := x3) (by omega) hL ex3 dL_law_730 ?_
        refine q_ieq (tgt := 738) hx hb dL_law_731 (by decide) (by omega) (fun c67 => ?_) (fun c67 => ?_)
        · exact (show False by omega).elim
        · refine q_con hx hb dL_law_734 ?_
          refine lv_goto (tgt := 739) hx hb dL_law_735 (by decide) ?_
          refine lv_aload_n hx hb dL_law_739 rfl (lv_at hl 4 rfl) ?_
          refine lv_iload hx hb dL_law_740 (lv_at hl 0 rfl) ?_
          refine q_con hx hb dL_law_742 ?_
          refine q_add hx hb dL_law_743 ?_
          refine r_xld hx hb hX hbl hbA hS (i := i + 4) (z := x4) (by omega) hL ex4 dL_law_744 ?_
          refine q_ieq (tgt := 752) hx hb dL_law_745 (by decide) (by omega) (fun c68 => ?_) (fun c68 => ?_)
          · refine q_con hx hb dL_law_752 ?_
            refine lv_aload_n hx hb dL_law_753 rfl (lv_at hl 1 rfl) ?_
            refine c_SWr (As := [.ref (u 0), .int (iI x1), .int (iI x2), .int (iI 1), .int (iI 0), .ref o]) (rest := []) (r := .int (iI 1)) fx hl (wn1_act θ l hl0 S0 _ u dt (fun j => sv j 0) (fun j => sv j 1) (fun j => sv j 2) bc rf kn hcr hjH hn o nv sv9 ho hLX.1 x1 x2 1 0 n9 k9 r9 (by first | assumption | omega | (dsimp only; first | assumption | omega) | exact Hid.mk (by first | assumption | omega) | exact Hid.mk ⟨fun _ => by first | assumption | omega, fun _ => by first | assumption | omega⟩) (by first | assumption | omega | (dsimp only; first | assumption | omega) | exact Hid.mk (by first | assumption | omega) | exact Hid.mk ⟨fun _ => by first | assumption | omega, fun _ => by first | assumption | omega⟩) (by first | assumption | omega | (dsimp only; first | assumption | omega) | exact Hid.mk (by first | assumption | omega) | exact Hid.mk ⟨fun _ => by first | assumption | omega, fun _ => by first | assumption | omega⟩) (by first | assumption | omega | (dsimp only; first | assumption | omega) | exact Hid.mk (by first | assumption | omega) | exact Hid.mk ⟨fun _ => by first | assumption | omega, fun _ => by first | assumption | omega⟩) (by first | assumption | omega | (dsimp only; first | assumption | omega) | exact Hid.mk (by first | assumption | omega) | exact Hid.mk ⟨fun _ => by first | assumption | omega, fun _ => by first | assumption | omega⟩) (by first | assumption | omega | (dsimp only; first | assumption | omega) | exact Hid.mk (by first | assumption | omega) | exact Hid.mk ⟨fun _ => by first | assumption | omega, fun _ => by first | assumption | omega⟩) (by first | assumption | omega | (dsimp only; first | assumption | omega) | exact Hid.mk (by first | assumption | omega) | exact Hid.mk ⟨fun _ => by first | assumption | omega, fun _ => by first | assumption | omega⟩) (by first | assumption | omega | (dsimp only; first | assumption | omega) | exact Hid.mk (by first | assumption | omega) | exact Hid.mk ⟨fun _ => by first | assumption | omega, fun _ => by first | assumption | omega⟩) (by first | assumption | omega | (dsimp only; first | assumption | omega) | exact Hid.mk (by first | assumption | omega) | exact Hid.mk ⟨fun _ => by first | assumption | omega, fun _ => by first | assumption | omega⟩) (by first | assumption | omega | (dsimp only; first | assumption | omega) | exact Hid.mk (by first | assumption | omega) | exact Hid.mk ⟨fun _ => by first | assumption | omega, fun _ => by first | assumption | omega⟩)) dL_law_754 k811 k812 k0 k813 hd_L_act rfl ⟨by omega, by omega⟩ (Nat.le_of_ble_eq_true rfl) ⟨by (try dsimp only); omega, by (try dsimp only); omega⟩ hS (fun x h => h.elim (fun h => h.elim (fun ⟨j, hj, e⟩ => e ▸ hu.2 j hj) (fun h => Nat.le_trans hzH.2.1 h)) (fun e => e ▸ hoθ)) (fun H69 locs hpH69 hszH69 hkH69 hS => ?_)
            obtain ⟨hcw, ho1⟩ := hpH69
            have hzH1 := hz0.at hAB hS
            have hjH1 := hj0.at hAB hS
            have hm1 := lw_cls hLX hw hzH1 hkH69
            refine lv_istore (lv' := [(5, .int (iI 1)), (4, .int (iI i)), (3, .ref o), (2, .ref (w 0)), (1, .ref (u 0)), (0, .ref b)]) hx hb dL_law_757 hl (by decide) rfl (fun ls hl => ?_)
            refine lv_aload_n hx hb dL_law_759 rfl (lv_at hl 3 rfl) ?_
            refine lv_aload_n hx hb dL_law_760 rfl (lv_at hl 5 rfl) ?_
            refine lv_iload hx hb dL_law_761 (lv_at hl 1 rfl) ?_
            refine q_con hx hb dL_law_763 ?_
            refine q_add hx hb dL_law_764 ?_
            refine r_xld hx hb hX hbl hbA hS (i := i + 1) (z := x1) (by omega) hL ex1 dL_law_765 ?_
            refine lv_aload_n hx hb dL_law_766 rfl (lv_at hl 5 rfl) ?_
            refine lv_iload hx hb dL_law_767 (lv_at hl 1 rfl) ?_
            refine q_con hx hb dL_law_769 ?_
            refine q_add hx hb dL_law_770 ?_
            refine r_xld hx hb hX hbl hbA hS (i := i + 2) (z := x2) (by omega) hL ex2 dL_law_771 ?_
            refine lv_aload_n hx hb dL_law_772 rfl (lv_at hl 5 rfl) ?_
            refine lv_iload hx hb dL_law_773 (lv_at hl 1 rfl) ?_
            refine q_con hx hb dL_law_775 ?_
            refine q_add hx hb dL_law_776 ?_
            refine r_xld hx hb hX hbl hbA hS (i := i + 3) (z := x3) (by omega) hL ex3 dL_law_777 ?_
            refine q_ieq (tgt := 785) hx hb dL_law_778 (by decide) (by omega) (fun c70 => ?_) (fun c70 => ?_)
            · exact (show False by omega).elim
            · refine q_con hx hb dL_law_781 ?_
              refine lv_goto (tgt := 786) hx hb dL_law_782 (by decide) ?_
              refine lv_aload_n hx hb dL_law_786 rfl (lv_at hl 5 rfl) ?_
              refine lv_iload hx hb dL_law_787 (lv_at hl 1 rfl) ?_
              refine q_con hx hb dL_law_789 ?_
              refine q_add hx hb dL_law_790 ?_
              refine r_xld hx hb hX hbl hbA hS (i := i + 4) (z := x4) (by omega) hL ex4 dL_law_791 ?_
              refine q_ieq (tgt := 799) hx hb dL_law_792 (by decide) (by omega) (fun c71 => ?_) (fun c71 => ?_)
              · refine q_con hx hb dL_law_799 ?_
                refine c_Vr (As := [.int (iI x1), .int (iI x2), .int (iI 1), .int (iI 0)]) (rest := []) (b := w 0) (C := RX3) (r := some (.int (iI 0))) (st1 := [.int (iI 0)]) fx hl (mno1_act θ l S0 _ w r q dt sv th bc rf kn hm1 x1 x2 1 0 n9 k9 r9 (by first | assumption | omega | (dsimp only; first | assumption | omega) | exact Hid.mk (by first | assumption | omega) | exact Hid.mk ⟨fun _ => by first | assumption | omega, fun _ => by first | assumption | omega⟩) (by first | assumption | omega | (dsimp only; first | assumption | omega) | exact Hid.mk (by first | assumption | omega) | exact Hid.mk ⟨fun _ => by first | assumption | omega, fun _ => by first | assumption | omega⟩) (by first | assumption | omega | (dsimp only; first | assumption | omega) | exact Hid.mk (by first | assumption | omega) | exact Hid.mk ⟨fun _ => by first | assumption | omega, fun _ => by first | assumption | omega⟩) (by first | assumption | omega | (dsimp only; first | assumption | omega) | exact Hid.mk (by first | assumption | omega) | exact Hid.mk ⟨fun _ => by first | assumption | omega, fun _ => by first | assumption | omega⟩) (by first | assumption | omega | (dsimp only; first | assumption | omega) | exact Hid.mk (by first | assumption | omega) | exact Hid.mk ⟨fun _ => by first | assumption | omega, fun _ => by first | assumption | omega⟩) (by first | assumption | omega | (dsimp only; first | assumption | omega) | exact Hid.mk (by first | assumption | omega) | exact Hid.mk ⟨fun _ => by first | assumption | omega, fun _ => by first | assumption | omega⟩) (by first | assumption | omega | (dsimp only; first | assumption | omega) | exact Hid.mk (by first | assumption | omega) | exact Hid.mk ⟨fun _ => by first | assumption | omega, fun _ => by first | assumption | omega⟩) (by first | assumption | omega | (dsimp only; first | assumption | omega) | exact Hid.mk (by first | assumption | omega) | exact Hid.mk ⟨fun _ => by first | assumption | omega, fun _ => by first | assumption | omega⟩) (by first | assumption | omega | (dsimp only; first | assumption | omega) | exact Hid.mk (by first | assumption | omega) | exact Hid.mk ⟨fun _ => by first | assumption | omega, fun _ => by first | assumption | omega⟩) (by first | assumption | omega | (dsimp only; first | assumption | omega) | exact Hid.mk (by first | assumption | omega) | exact Hid.mk ⟨fun _ => by first | assumption | omega, fun _ => by first | assumption | omega⟩)) (ob_recv hK hm1.2.2.1.1 rfl) dL_law_800 k1203 k1204 k1205 k6 k1206 hd_X3_act rfl rfl ⟨by omega, by omega⟩ (Nat.le_of_ble_eq_true rfl) ⟨by (try dsimp only); omega, by (try dsimp only); omega⟩ hS (wa_b hm1.2.1 hzH1.2.1) (fun H72 locs hpH72 hszH72 hkH72 hS => ?_)
                obtain ⟨r1, q1, hm2, nr, nq⟩ := hpH72
                have hzH2 := hz0.at hAB hS
                have hL2 := lw_mod hLX hzH2 hu hcw ho1 hfr hfq hm2 nr nq hkH72
                refine lv_istore (lv' := [(6, .int (iI 0)), (5, .int (iI 1)), (4, .int (iI i)), (3, .ref o), (2, .ref (w 0)), (1, .ref (u 0)), (0, .ref b)]) hx hb dL_law_803 hl (by decide) rfl (fun ls hl => ?_)
                refine lv_goto (tgt := 2331) hx hb dL_law_805 (by decide) ?_
                exact kk _ _ _ _ _ ⟨_, _, _, _, _, _, _, _, _, _, hL2⟩ hS (by omega) (by omega) (lv_sub hl [2, 3, 4, 5, 6] rfl)
              · exact (show False by omega).elim
          · exact (show False by omega).elim
    · obtain ⟨n9, en9⟩ : ∃ z : Int, z = -(12 * sv x2.toNat 0 + sv x2.toNat 1) := ⟨_, rfl⟩
      obtain ⟨k9, ek9⟩ : ∃ z : Int, z = -(sv x2.toNat 2) := ⟨_, rfl⟩
      obtain ⟨r9, er9⟩ : ∃ z : Int, z = shI (dt x1.toNat + k9) n9 := ⟨_, rfl⟩
      by_cases hc1 : 0 ≤ x1 ∧ x1 < 6
      · by_cases hc2 : 0 ≤ x2 ∧ x2 < 3
        · by_cases hc3 : -4371587 ≤ r9 ∧ r9 ≤ 2932896
          · refine lv_aload_n hx hb dL_law_712 rfl (lv_at hl 3 rfl) ?_
            refine lv_aload_n hx hb dL_law_713 rfl (lv_at hl 4 rfl) ?_
            refine lv_iload hx hb dL_law_714 (lv_at hl 0 rfl) ?_
            refine q_con hx hb dL_law_716 ?_
            refine q_add hx hb dL_law_717 ?_
            refine r_xld hx hb hX hbl hbA hS (i := i + 1) (z := x1) (by omega) hL ex1 dL_law_718 ?_
            refine lv_aload_n hx hb dL_law_719 rfl (lv_at hl 4 rfl) ?_
            refine lv_iload hx hb dL_law_720 (lv_at hl 0 rfl) ?_
            refine q_con hx hb dL_law_722 ?_
            refine q_add hx hb dL_law_723 ?_
            refine r_xld hx hb hX hbl hbA hS (i := i + 2) (z := x2) (by omega) hL ex2 dL_law_724 ?_
            refine lv_aload_n hx hb dL_law_725 rfl (lv_at hl 4 rfl) ?_
            refine lv_iload hx hb dL_law_726 (lv_at hl 0 rfl) ?_
            refine q_con hx hb dL_law_728 ?_
            refine q_add hx hb dL_law_729 ?_
            refine r_xld hx hb hX hbl hbA hS (i := i + 3) (z := x3) (by omega) hL ex3 dL_law_730 ?_
            refine q_ieq (tgt := 738) hx hb dL_law_731 (by decide) (by omega) (fun c73 => ?_) (fun c73 => ?_)
            · exact (show False by omega).elim
            · refine q_con hx hb dL_law_734 ?_
              refine lv_goto (tgt := 739) hx hb dL_law_735 (by decide) ?_
              refine lv_aload_n hx hb dL_law_739 rfl (lv_at hl 4 rfl) ?_
              refine lv_iload hx hb dL_law_740 (lv_at hl 0 rfl) ?_
              refine q_con hx hb dL_law_742 ?_
              refine q_add hx hb dL_law_743 ?_
              refine r_xld hx hb hX hbl hbA hS (i := i + 4) (z := x4) (by omega) hL ex4 dL_law_744 ?_
              refine q_ieq (tgt := 752) hx hb dL_law_745 (by decide) (by omega) (fun c74 => ?_) (fun c74 => ?_)
              · exact (show False by omega).elim
              · refine q_con hx hb dL_law_748 ?_
                refine lv_goto (tgt := 753) hx hb dL_law_749 (by decide) ?_
                refine lv_aload_n hx hb dL_law_753 rfl (lv_at hl 1 rfl) ?_
                refine c_SWr (As := [.ref (u 0), .int (iI x1), .int (iI x2), .int (iI 1), .int (iI 1), .ref o]) (rest := []) (r := .int (iI 0)) fx hl (wr_act θ l hl0 S0 _ u dt (fun j => sv j 0) (fun j => sv j 1) (fun j => sv j 2) bc rf kn hcr hjH hn o nv sv9 ho hLX.1 x1 x2 1 1 n9 k9 r9 (by first | assumption | omega | (dsimp only; first | assumption | omega) | exact Hid.mk (by first | assumption | omega) | exact Hid.mk ⟨fun _ => by first | assumption | omega, fun _ => by first | assumption | omega⟩) (by first | assumption | omega | (dsimp only; first | assumption | omega) | exact Hid.mk (by first | assumption | omega) | exact Hid.mk ⟨fun _ => by first | assumption | omega, fun _ => by first | assumption | omega⟩) (by first | assumption | omega | (dsimp only; first | assumption | omega) | exact Hid.mk (by first | assumption | omega) | exact Hid.mk ⟨fun _ => by first | assumption | omega, fun _ => by first | assumption | omega⟩) (by first | assumption | omega | (dsimp only; first | assumption | omega) | exact Hid.mk (by first | assumption | omega) | exact Hid.mk ⟨fun _ => by first | assumption | omega, fun _ => by first | assumption | omega⟩) (by first | assumption | omega | (dsimp only; first | assumption | omega) | exact Hid.mk (by first | assumption | omega) | exact Hid.mk ⟨fun _ => by first | assumption | omega, fun _ => by first | assumption | omega⟩) (by first | assumption | omega | (dsimp only; first | assumption | omega) | exact Hid.mk (by first | assumption | omega) | exact Hid.mk ⟨fun _ => by first | assumption | omega, fun _ => by first | assumption | omega⟩) (by first | assumption | omega | (dsimp only; first | assumption | omega) | exact Hid.mk (by first | assumption | omega) | exact Hid.mk ⟨fun _ => by first | assumption | omega, fun _ => by first | assumption | omega⟩) (by first | assumption | omega | (dsimp only; first | assumption | omega) | exact Hid.mk (by first | assumption | omega) | exact Hid.mk ⟨fun _ => by first | assumption | omega, fun _ => by first | assumption | omega⟩) (by first | assumption | omega | (dsimp only; first | assumption | omega) | exact Hid.mk (by first | assumption | omega) | exact Hid.mk ⟨fun _ => by first | assumption | omega, fun _ => by first | assumption | omega⟩) (by first | assumption | omega | (dsimp only; first | assumption | omega) | exact Hid.mk (by first | assumption | omega) | exact Hid.mk ⟨fun _ => by first | assumption | omega, fun _ => by first | assumption | omega⟩) (by first | assumption | omega | (dsimp only; first | assumption | omega) | exact Hid.mk (by first | assumption | omega) | exact Hid.mk ⟨fun _ => by first | assumption | omega, fun _ => by first | assumption | omega⟩) (by first | assumption | omega | (dsimp only; first | assumption | omega) | exact Hid.mk (by first | assumption | omega) | exact Hid.mk ⟨fun _ => by first | assumption | omega, fun _ => by first | assumption | omega⟩)) dL_law_754 k811 k812 k0 k813 hd_L_act rfl ⟨by omega, by omega⟩ (Nat.le_of_ble_eq_true rfl) ⟨by (try dsimp only); omega, by (try dsimp only); omega⟩ hS (fun x h => h.elim (fun h => h.elim (fun ⟨j, hj, e⟩ => e ▸ hu.2 j hj) (fun h => Nat.le_trans hzH.2.1 h)) (fun e => e ▸ hoθ)) (fun H75 locs hpH75 hszH75 hkH75 hS => ?_)
                obtain ⟨hcw, ho1⟩ := hpH75
                have hzH1 := hz0.at hAB hS
                have hjH1 := hj0.at hAB hS
                have hm1 := lw_cls hLX hw hzH1 hkH75
                refine lv_istore (lv' := [(5, .int (iI 0)), (4, .int (iI i)), (3, .ref o), (2, .ref (w 0)), (1, .ref (u 0)), (0, .ref b)]) hx hb dL_law_757 hl (by decide) rfl (fun ls hl => ?_)
                refine lv_aload_n hx hb dL_law_759 rfl (lv_at hl 3 rfl) ?_
                refine lv_aload_n hx hb dL_law_760 rfl (lv_at hl 5 rfl) ?_
                refine lv_iload hx hb dL_law_761 (lv_at hl 1 rfl) ?_
                refine q_con hx hb dL_law_763 ?_
                refine q_add hx hb dL_law_764 ?_
                refine r_xld hx hb hX hbl hbA hS (i := i + 1) (z := x1) (by omega) hL ex1 dL_law_765 ?_
                refine lv_aload_n hx hb dL_law_766 rfl (lv_at hl 5 rfl) ?_
                refine lv_iload hx hb dL_law_767 (lv_at hl 1 rfl) ?_
                refine q_con hx hb dL_law_769 ?_
                refine q_add hx hb dL_law_770 ?_
                refine r_xld hx hb hX hbl hbA hS (i := i + 2) (z := x2) (by omega) hL ex2 dL_law_771 ?_
                refine lv_aload_n hx hb dL_law_772 rfl (lv_at hl 5 rfl) ?_
                refine lv_iload hx hb dL_law_773 (lv_at hl 1 rfl) ?_
                refine q_con hx hb dL_law_775 ?_
                refine q_add hx hb dL_law_776 ?_
                refine r_xld hx hb hX hbl hbA hS (i := i + 3) (z := x3) (by omega) hL ex3 dL_law_777 ?_
                refine q_ieq (tgt := 785) hx hb dL_law_778 (by decide) (by omega) (fun c76 => ?_) (fun c76 => ?_)
                · exact (show False by omega).elim
                · refine q_con hx hb dL_law_781 ?_
                  refine lv_goto (tgt := 786) hx hb dL_law_782 (by decide) ?_
                  refine lv_aload_n hx hb dL_law_786 rfl (lv_at hl 5 rfl) ?_
                  refine lv_iload hx hb dL_law_787 (lv_at hl 1 rfl) ?_
                  refine q_con hx hb dL_law_789 ?_
                  refine q_add hx hb dL_law_790 ?_
                  refine r_xld hx hb hX hbl hbA hS (i := i + 4) (z := x4) (by omega) hL ex4 dL_law_791 ?_
                  refine q_ieq (tgt := 799) hx hb dL_law_792 (by decide) (by omega) (fun c77 => ?_) (fun c77 => ?_)
                  · exact (show False by omega).elim
                  · refine q_con hx hb dL_law_795 ?_
                    refine lv_goto (tgt := 800) hx hb dL_law_796 (by decide) ?_
                    refine c_Vr (As := [.int (iI x1), .int (iI x2), .int (iI 1), .int (iI 1)]) (rest := []) (b := w 0) (C := RX3) (r := some (.int (iI r9))) (st1 := [.int (iI r9)]) fx hl (mok_act θ l S0 _ w r q dt sv th bc rf kn hm1 x1 x2 1 1 n9 k9 r9 (by first | assumption | omega | (dsimp only; first | assumption | omega) | exact Hid.mk (by first | assumption | omega) | exact Hid.mk ⟨fun _ => by first | assumption | omega, fun _ => by first | assumption | omega⟩) (by first | assumption | omega | (dsimp only; first | assumption | omega) | exact Hid.mk (by first | assumption | omega) | exact Hid.mk ⟨fun _ => by first | assumption | omega, fun _ => by first | assumption | omega⟩) (by first | assumption | omega | (dsimp only; first | assumption | omega) | exact Hid.mk (by first | assumption | omega) | exact Hid.mk ⟨fun _ => by first | assumption | omega, fun _ => by first | assumption | omega⟩) (by first | assumption | omega | (dsimp only; first | assumption | omega) | exact Hid.mk (by first | assumption | omega) | exact Hid.mk ⟨fun _ => by first | assumption | omega, fun _ => by first | assumption | omega⟩) (by first | assumption | omega | (dsimp only; first | assumption | omega) | exact Hid.mk (by first | assumption | omega) | exact Hid.mk ⟨fun _ => by first | assumption | omega, fun _ => by first | assumption | omega⟩) (by first | assumption | omega | (dsimp only; first | assumption | omega) | exact Hid.mk (by first | assumption | omega) | exact Hid.mk ⟨fun _ => by first | assumption | omega, fun _ => by first | assumption | omega⟩) (by first | assumption | omega | (dsimp only; first | assumption | omega) | exact Hid.mk (by first | assumption | omega) | exact Hid.mk ⟨fun _ => by first | assumption | omega, fun _ => by first | assumption | omega⟩) (by first | assumption | omega | (dsimp only; first | assumption | omega) | exact Hid.mk (by first | assumption | omega) | exact Hid.mk ⟨fun _ => by first | assumption | omega, fun _ => by first | assumption | omega⟩) (by first | assumption | omega | (dsimp only; first | assumption | omega) | exact Hid.mk (by first | assumption | omega) | exact Hid.mk ⟨fun _ => by first | assumption | omega, fun _ => by first | assumption | omega⟩) (by first | assumption | omega | (dsimp only; first | assumption | omega) | exact Hid.mk (by first | assumption | omega) | exact Hid.mk ⟨fun _ => by first | assumption | omega, fun _ => by first | assumption | omega⟩) (by first | assumption | omega | (dsimp only; first | assumption | omega) | exact Hid.mk (by first | assumption | omega) | exact Hid.mk ⟨fun _ => by first | assumption | omega, fun _ => by first | assumption | omega⟩) (by first | assumption | omega | (dsimp only; first | assumption | omega) | exact Hid.mk (by first | assumption | omega) | exact Hid.mk ⟨fun _ => by first | assumption | omega, fun _ => by first | assumption | omega⟩)) (ob_recv hK hm1.2.2.1.1 rfl) dL_law_800 k1203 k1204 k1205 k6 k1206 hd_X3_act rfl rfl ⟨by omega, by omega⟩ (Nat.le_of_ble_eq_true rfl) ⟨by (try dsimp only); omega, by (try dsimp only); omega⟩ hS (wa_b hm1.2.1 hzH1.2.1) (fun H78 locs hpH78 hszH78 hkH78 hS => ?_)
                    obtain ⟨r1, q1, hm2, nr, nq⟩ := hpH78
                    have hzH2 := hz0.at hAB hS
                    have hL2 := lw_mod hLX hzH2 hu hcw ho1 hfr hfq hm2 nr nq hkH78
                    refine lv_istore (lv' := [(6, .int (iI r9)), (5, .int (iI 0)), (4, .int (iI i)), (3, .ref o), (2, .ref (w 0)), (1, .ref (u 0)), (0, .ref b)]) hx hb dL_law_803 hl (by decide) rfl (fun ls hl => ?_)
                    refine lv_goto (tgt := 2331) hx hb dL_law_805 (by decide) ?_
                    exact kk _ _ _ _ _ ⟨_, _, _, _, _, _, _, _, _, _, hL2⟩ hS (by omega) (by omega) (lv_sub hl [2, 3, 4, 5, 6] rfl)
          · refine lv_aload_n hx hb dL_law_712 rfl (lv_at hl 3 rfl) ?_
            refine lv_aload_n hx hb dL_law_713 rfl (lv_at hl 4 rfl) ?_
            refine lv_iload hx hb dL_law_714 (lv_at hl 0 rfl) ?_
            refine q_con hx hb dL_law_716 ?_
            refine q_add hx hb dL_law_717 ?_
            refine r_xld hx hb hX hbl hbA hS (i := i + 1) (z := x1) (by omega) hL ex1 dL_law_718 ?_
            refine lv_aload_n hx hb dL_law_719 rfl (lv_at hl 4 rfl) ?_
            refine lv_iload hx hb dL_law_720 (lv_at hl 0 rfl) ?_
            refine q_con hx hb dL_law_722 ?_
            refine q_add hx hb dL_law_723 ?_
            refine r_xld hx hb hX hbl hbA hS (i := i + 2) (z := x2) (by omega) hL ex2 dL_law_724 ?_
            refine lv_aload_n hx hb dL_law_725 rfl (lv_at hl 4 rfl) ?_
            refine lv_iload hx hb dL_law_726 (lv_at hl 0 rfl) ?_
            refine q_con hx hb dL_law_728 ?_
            refine q_add hx hb dL_law_729 ?_
            refine r_xld hx hb hX hbl hbA hS (i := i + 3) (z := x3) (by omega) hL ex3 dL_law_730 ?_
            refine q_ieq (tgt := 738) hx hb dL_law_731 (by decide) (by omega) (fun c79 => ?_) (fun c79 => ?_)
            · exact (show False by omega).elim
            · refine q_con hx hb dL_law_734 ?_
              refine lv_goto (tgt := 739) hx hb dL_law_735 (by decide) ?_
              refine lv_aload_n hx hb dL_law_739 rfl (lv_at hl 4 rfl) ?_
              refine lv_iload hx hb dL_law_740 (lv_at hl 0 rfl) ?_
              refine q_con hx hb dL_law_742 ?_
              refine q_add hx hb dL_law_743 ?_
              refine r_xld hx hb hX hbl hbA hS (i := i + 4) (z := x4) (by omega) hL ex4 dL_law_744 ?_
              refine q_ieq (tgt := 752) hx hb dL_law_745 (by decide) (by omega) (fun c80 => ?_) (fun c80 => ?_)
              · exact (show False by omega).elim
              · refine q_con hx hb dL_law_748 ?_
                refine lv_goto (tgt := 753) hx hb dL_law_749 (by decide) ?_
                refine lv_aload_n hx hb dL_law_753 rfl (lv_at hl 1 rfl) ?_
                refine c_SWr (As := [.ref (u 0), .int (iI x1), .int (iI x2), .int (iI 1), .int (iI 1), .ref o]) (rest := []) (r := .int (iI 2)) fx hl (wn3_act θ l hl0 S0 _ u dt (fun j => sv j 0) (fun j => sv j 1) (fun j => sv j 2) bc rf kn hcr hjH hn o nv sv9 ho hLX.1 x1 x2 1 1 n9 k9 r9 (by first | assumption | omega | (dsimp only; first | assumption | omega) | exact Hid.mk (by first | assumption | omega) | exact Hid.mk ⟨fun _ => by first | assumption | omega, fun _ => by first | assumption | omega⟩) (by first | assumption | omega | (dsimp only; first | assumption | omega) | exact Hid.mk (by first | assumption | omega) | exact Hid.mk ⟨fun _ => by first | assumption | omega, fun _ => by first | assumption | omega⟩) (by first | assumption | omega | (dsimp only; first | assumption | omega) | exact Hid.mk (by first | assumption | omega) | exact Hid.mk ⟨fun _ => by first | assumption | omega, fun _ => by first | assumption | omega⟩) (by first | assumption | omega | (dsimp only; first | assumption | omega) | exact Hid.mk (by first | assumption | omega) | exact Hid.mk ⟨fun _ => by first | assumption | omega, fun _ => by first | assumption | omega⟩) (by first | assumption | omega | (dsimp only; first | assumption | omega) | exact Hid.mk (by first | assumption | omega) | exact Hid.mk ⟨fun _ => by first | assumption | omega, fun _ => by first | assumption | omega⟩) (by first | assumption | omega | (dsimp only; first | assumption | omega) | exact Hid.mk (by first | assumption | omega) | exact Hid.mk ⟨fun _ => by first | assumption | omega, fun _ => by first | assumption | omega⟩) (by first | assumption | omega | (dsimp only; first | assumption | omega) | exact Hid.mk (by first | assumption | omega) | exact Hid.mk ⟨fun _ => by first | assumption | omega, fun _ => by first | assumption | omega⟩) (by first | assumption | omega | (dsimp only; first | assumption | omega) | exact Hid.mk (by first | assumption | omega) | exact Hid.mk ⟨fun _ => by first | assumption | omega, fun _ => by first | assumption | omega⟩) (by first | assumption | omega | (dsimp only; first | assumption | omega) | exact Hid.mk (by first | assumption | omega) | exact Hid.mk ⟨fun _ => by first | assumption | omega, fun _ => by first | assumption | omega⟩) (by first | assumption | omega | (dsimp only; first | assumption | omega) | exact Hid.mk (by first | assumption | omega) | exact Hid.mk ⟨fun _ => by first | assumption | omega, fun _ => by first | assumption | omega⟩) (by first | assumption | omega | (dsimp only; first | assumption | omega) | exact Hid.mk (by first | assumption | omega) | exact Hid.mk ⟨fun _ => by first | assumption | omega, fun _ => by first | assumption | omega⟩) (by first | assumption | omega | (dsimp only; first | assumption | omega) | exact Hid.mk (by first | assumption | omega) | exact Hid.mk ⟨fun _ => by first | assumption | omega, fun _ => by first | assumption | omega⟩)) dL_law_754 k811 k812 k0 k813 hd_L_act rfl ⟨by omega, by omega⟩ (Nat.le_of_ble_eq_true rfl) ⟨by (try dsimp only); omega, by (try dsimp only); omega⟩ hS (fun x h => h.elim (fun h => h.elim (fun ⟨j, hj, e⟩ => e ▸ hu.2 j hj) (fun h => Nat.le_trans hzH.2.1 h)) (fun e => e ▸ hoθ)) (fun H81 locs hpH81 hszH81 hkH81 hS => ?_)
                obtain ⟨hcw, ho1⟩ := hpH81
                have hzH1 := hz0.at hAB hS
                have hjH1 := hj0.at hAB hS
                have hm1 := lw_cls hLX hw hzH1 hkH81
                refine lv_istore (lv' := [(5, .int (iI 2)), (4, .int (iI i)), (3, .ref o), (2, .ref (w 0)), (1, .ref (u 0)), (0, .ref b)]) hx hb dL_law_757 hl (by decide) rfl (fun ls hl => ?_)
                refine lv_aload_n hx hb dL_law_759 rfl (lv_at hl 3 rfl) ?_
                refine lv_aload_n hx hb dL_law_760 rfl (lv_at hl 5 rfl) ?_
                refine lv_iload hx hb dL_law_761 (lv_at hl 1 rfl) ?_
                refine q_con hx hb dL_law_763 ?_
                refine q_add hx hb dL_law_764 ?_
                refine r_xld hx hb hX hbl hbA hS (i := i + 1) (z := x1) (by omega) hL ex1 dL_law_765 ?_
                refine lv_aload_n hx hb dL_law_766 rfl (lv_at hl 5 rfl) ?_
                refine lv_iload hx hb dL_law_767 (lv_at hl 1 rfl) ?_
                refine q_con hx hb dL_law_769 ?_
                refine q_add hx hb dL_law_770 ?_
                refine r_xld hx hb hX hbl hbA hS (i := i + 2) (z := x2) (by omega) hL ex2 dL_law_771 ?_
                refine lv_aload_n hx hb dL_law_772 rfl (lv_at hl 5 rfl) ?_
                refine lv_iload hx hb dL_law_773 (lv_at hl 1 rfl) ?_
                refine q_con hx hb dL_law_775 ?_
                refine q_add hx hb dL_law_776 ?_
                refine r_xld hx hb hX hbl hbA hS (i := i + 3) (z := x3) (by omega) hL ex3 dL_law_777 ?_
                refine q_ieq (tgt := 785) hx hb dL_law_778 (by decide) (by omega) (fun c82 => ?_) (fun c82 => ?_)
                · exact (show False by omega).elim
                · refine q_con hx hb dL_law_781 ?_
                  refine lv_goto (tgt := 786) hx hb dL_law_782 (by decide) ?_
                  refine lv_aload_n hx hb dL_law_786 rfl (lv_at hl 5 rfl) ?_
                  refine lv_iload hx hb dL_law_787 (lv_at hl 1 rfl) ?_
                  refine q_con hx hb dL_law_789 ?_
                  refine q_add hx hb dL_law_790 ?_
                  refine r_xld hx hb hX hbl hbA hS (i := i + 4) (z := x4) (by omega) hL ex4 dL_law_791 ?_
                  refine q_ieq (tgt := 799) hx hb dL_law_792 (by decide) (by omega) (fun c83 => ?_) (fun c83 => ?_)
                  · exact (show False by omega).elim
                  · refine q_con hx hb dL_law_795 ?_
                    refine lv_goto (tgt := 800) hx hb dL_law_796 (by decide) ?_
                    refine c_Vr (As := [.int (iI x1), .int (iI x2), .int (iI 1), .int (iI 1)]) (rest := []) (b := w 0) (C := RX3) (r := some (.int (iI 0))) (st1 := [.int (iI 0)]) fx hl (mno3_act θ l S0 _ w r q dt sv th bc rf kn hm1 x1 x2 1 1 n9 k9 r9 (by first | assumption | omega | (dsimp only; first | assumption | omega) | exact Hid.mk (by first | assumption | omega) | exact Hid.mk ⟨fun _ => by first | assumption | omega, fun _ => by first | assumption | omega⟩) (by first | assumption | omega | (dsimp only; first | assumption | omega) | exact Hid.mk (by first | assumption | omega) | exact Hid.mk ⟨fun _ => by first | assumption | omega, fun _ => by first | assumption | omega⟩) (by first | assumption | omega | (dsimp only; first | assumption | omega) | exact Hid.mk (by first | assumption | omega) | exact Hid.mk ⟨fun _ => by first | assumption | omega, fun _ => by first | assumption | omega⟩) (by first | assumption | omega | (dsimp only; first | assumption | omega) | exact Hid.mk (by first | assumption | omega) | exact Hid.mk ⟨fun _ => by first | assumption | omega, fun _ => by first | assumption | omega⟩) (by first | assumption | omega | (dsimp only; first | assumption | omega) | exact Hid.mk (by first | assumption | omega) | exact Hid.mk ⟨fun _ => by first | assumption | omega, fun _ => by first | assumption | omega⟩) (by first | assumption | omega | (dsimp only; first | assumption | omega) | exact Hid.mk (by first | assumption | omega) | exact Hid.mk ⟨fun _ => by first | assumption | omega, fun _ => by first | assumption | omega⟩) (by first | assumption | omega | (dsimp only; first | assumption | omega) | exact Hid.mk (by first | assumption | omega) | exact Hid.mk ⟨fun _ => by first | assumption | omega, fun _ => by first | assumption | omega⟩) (by first | assumption | omega | (dsimp only; first | assumption | omega) | exact Hid.mk (by first | assumption | omega) | exact Hid.mk ⟨fun _ => by first | assumption | omega, fun _ => by first | assumption | omega⟩) (by first | assumption | omega | (dsimp only; first | assumption | omega) | exact Hid.mk (by first | assumption | omega) | exact Hid.mk ⟨fun _ => by first | assumption | omega, fun _ => by first | assumption | omega⟩) (by first | assumption | omega | (dsimp only; first | assumption | omega) | exact Hid.mk (by first | assumption | omega) | exact Hid.mk ⟨fun _ => by first | assumption | omega, fun _ => by first | assumption | omega⟩) (by first | assumption | omega | (dsimp only; first | assumption | omega) | exact Hid.mk (by first | assumption | omega) | exact Hid.mk ⟨fun _ => by first | assumption | omega, fun _ => by first | assumption | omega⟩) (by first | assumption | omega | (dsimp only; first | assumption | omega) | exact Hid.mk (by first | assumption | omega) | exact Hid.mk ⟨fun _ => by first | assumption | omega, fun _ => by first | assumption | omega⟩)) (ob_recv hK hm1.2.2.1.1 rfl) dL_law_800 k1203 k1204 k1205 k6 k1206 hd_X3_act rfl rfl ⟨by omega, by omega⟩ (Nat.le_of_ble_eq_true rfl) ⟨by (try dsimp only); omega, by (try dsimp only); omega⟩ hS (wa_b hm1.2.1 hzH1.2.1) (fun H84 locs hpH84 hszH84 hkH84 hS => ?_)
                    obtain ⟨r1, q1, hm2, nr, nq⟩ := hpH84
                    have hzH2 := hz0.at hAB hS
                    have hL2 := lw_mod hLX hzH2 hu hcw ho1 hfr hfq hm2 nr nq hkH84
                    refine lv_istore (lv' := [(6, .int (iI 0)), (5, .int (iI 2)), (4, .int (iI i)), (3, .ref o), (2, .ref (w 0)), (1, .ref (u 0)), (0, .ref b)]) hx hb dL_law_803 hl (by decide) rfl (fun ls hl => ?_)
                    refine lv_goto (tgt := 2331) hx hb dL_law_805 (by decide) ?_
                    exact kk _ _ _ _ _ ⟨_, _, _, _, _, _, _, _, _, _, hL2⟩ hS (by omega) (by omega) (lv_sub hl [2, 3, 4, 5, 6] rfl)
        · refine lv_aload_n hx hb dL_law_712 rfl (lv_at hl 3 rfl) ?_
          refine lv_aload_n hx hb dL_law_713 rfl (lv_at hl 4 rfl) ?_
          refine lv_iload hx hb dL_law_714 (lv_at hl 0 rfl) ?_
          refine q_con hx hb dL_law_716 ?_
          refine q_add hx hb dL_law_717 ?_
          refine r_xld hx hb hX hbl hbA hS (i := i + 1) (z := x1) (by omega) hL ex1 dL_law_718 ?_
          refine lv_aload_n hx hb dL_law_719 rfl (lv_at hl 4 rfl) ?_
          refine lv_iload hx hb dL_law_720 (lv_at hl 0 rfl) ?_
          refine q_con hx hb dL_law_722 ?_
          refine q_add hx hb dL_law_723 ?_
          refine r_xld hx hb hX hbl hbA hS (i := i + 2) (z := x2) (by omega) hL ex2 dL_law_724 ?_
          refine lv_aload_n hx hb dL_law_725 rfl (lv_at hl 4 rfl) ?_
          refine lv_iload hx hb dL_law_726 (lv_at hl 0 rfl) ?_
          refine q_con hx hb dL_law_728 ?_
          refine q_add hx hb dL_law_729 ?_
          refine r_xld hx hb hX hbl hbA hS (i := i + 3) (z := x3) (by omega) hL ex3 dL_law_730 ?_
          refine q_ieq (tgt := 738) hx hb dL_law_731 (by decide) (by omega) (fun c85 => ?_) (fun c85 => ?_)
          · exact (show False by omega).elim
          · refine q_con hx hb dL_law_734 ?_
            refine lv_goto (tgt := 739) hx hb dL_law_735 (by decide) ?_
            refine lv_aload_n hx hb dL_law_739 rfl (lv_at hl 4 rfl) ?_
            refine lv_iload hx hb dL_law_740 (lv_at hl 0 rfl) ?_
            refine q_con hx hb dL_law_742 ?_
            refine q_add hx hb dL_law_743 ?_
            refine r_xld hx hb hX hbl hbA hS (i := i + 4) (z := x4) (by omega) hL ex4 dL_law_744 ?_
            refine q_ieq (tgt := 752) hx hb dL_law_745 (by decide) (by omega) (fun c86 => ?_) (fun c86 => ?_)
            · exact (show False by omega).elim
            · refine q_con hx hb dL_law_748 ?_
              refine lv_goto (tgt := 753) hx hb dL_law_749 (by decide) ?_
              refine lv_aload_n hx hb dL_law_753 rfl (lv_at hl 1 rfl) ?_
              refine c_SWr (As := [.ref (u 0), .int (iI x1), .int (iI x2), .int (iI 1), .int (iI 1), .ref o]) (rest := []) (r := .int (iI 1)) fx hl (wn2_act θ l hl0 S0 _ u dt (fun j => sv j 0) (fun j => sv j 1) (fun j => sv j 2) bc rf kn hcr hjH hn o nv sv9 ho hLX.1 x1 x2 1 1 n9 k9 r9 (by first | assumption | omega | (dsimp only; first | assumption | omega) | exact Hid.mk (by first | assumption | omega) | exact Hid.mk ⟨fun _ => by first | assumption | omega, fun _ => by first | assumption | omega⟩) (by first | assumption | omega | (dsimp only; first | assumption | omega) | exact Hid.mk (by first | assumption | omega) | exact Hid.mk ⟨fun _ => by first | assumption | omega, fun _ => by first | assumption | omega⟩) (by first | assumption | omega | (dsimp only; first | assumption | omega) | exact Hid.mk (by first | assumption | omega) | exact Hid.mk ⟨fun _ => by first | assumption | omega, fun _ => by first | assumption | omega⟩) (by first | assumption | omega | (dsimp only; first | assumption | omega) | exact Hid.mk (by first | assumption | omega) | exact Hid.mk ⟨fun _ => by first | assumption | omega, fun _ => by first | assumption | omega⟩) (by first | assumption | omega | (dsimp only; first | assumption | omega) | exact Hid.mk (by first | assumption | omega) | exact Hid.mk ⟨fun _ => by first | assumption | omega, fun _ => by first | assumption | omega⟩) (by first | assumption | omega | (dsimp only; first | assumption | omega) | exact Hid.mk (by first | assumption | omega) | exact Hid.mk ⟨fun _ => by first | assumption | omega, fun _ => by first | assumption | omega⟩) (by first | assumption | omega | (dsimp only; first | assumption | omega) | exact Hid.mk (by first | assumption | omega) | exact Hid.mk ⟨fun _ => by first | assumption | omega, fun _ => by first | assumption | omega⟩) (by first | assumption | omega | (dsimp only; first | assumption | omega) | exact Hid.mk (by first | assumption | omega) | exact Hid.mk ⟨fun _ => by first | assumption | omega, fun _ => by first | assumption | omega⟩) (by first | assumption | omega | (dsimp only; first | assumption | omega) | exact Hid.mk (by first | assumption | omega) | exact Hid.mk ⟨fun _ => by first | assumption | omega, fun _ => by first | assumption | omega⟩) (by first | assumption | omega | (dsimp only; first | assumption | omega) | exact Hid.mk (by first | assumption | omega) | exact Hid.mk ⟨fun _ => by first | assumption | omega, fun _ => by first | assumption | omega⟩) (by first | assumption | omega | (dsimp only; first | assumption | omega) | exact Hid.mk (by first | assumption | omega) | exact Hid.mk ⟨fun _ => by first | assumption | omega, fun _ => by first | assumption | omega⟩)) dL_law_754 k811 k812 k0 k813 hd_L_act rfl ⟨by omega, by omega⟩ (Nat.le_of_ble_eq_true rfl) ⟨by (try dsimp only); omega, by (try dsimp only); omega⟩ hS (fun x h => h.elim (fun h => h.elim (fun ⟨j, hj, e⟩ => e ▸ hu.2 j hj) (fun h => Nat.le_trans hzH.2.1 h)) (fun e => e ▸ hoθ)) (fun H87 locs hpH87 hszH87 hkH87 hS => ?_)
              obtain ⟨hcw, ho1⟩ := hpH87
              have hzH1 := hz0.at hAB hS
              have hjH1 := hj0.at hAB hS
              have hm1 := lw_cls hLX hw hzH1 hkH87
              refine lv_istore (lv' := [(5, .int (iI 1)), (4, .int (iI i)), (3, .ref o), (2, .ref (w 0)), (1, .ref (u 0)), (0, .ref b)]) hx hb dL_law_757 hl (by decide) rfl (fun ls hl => ?_)
              refine lv_aload_n hx hb dL_law_759 rfl (lv_at hl 3 rfl) ?_
              refine lv_aload_n hx hb dL_law_760 rfl (lv_at hl 5 rfl) ?_
              refine lv_iload hx hb dL_law_761 (lv_at hl 1 rfl) ?_
              refine q_con hx hb dL_law_763 ?_
              refine q_add hx hb dL_law_764 ?_
              refine r_xld hx hb hX hbl hbA hS (i := i + 1) (z := x1) (by omega) hL ex1 dL_law_765 ?_
              refine lv_aload_n hx hb dL_law_766 rfl (lv_at hl 5 rfl) ?_
              refine lv_iload hx hb dL_law_767 (lv_at hl 1 rfl) ?_
              refine q_con hx hb dL_law_769 ?_
              refine q_add hx hb dL_law_770 ?_
              refine r_xld hx hb hX hbl hbA hS (i := i + 2) (z := x2) (by omega) hL ex2 dL_law_771 ?_
              refine lv_aload_n hx hb dL_law_772 rfl (lv_at hl 5 rfl) ?_
              refine lv_iload hx hb dL_law_773 (lv_at hl 1 rfl) ?_
              refine q_con hx hb dL_law_775 ?_
              refine q_add hx hb dL_law_776 ?_
              refine r_xld hx hb hX hbl hbA hS (i := i + 3) (z := x3) (by omega) hL ex3 dL_law_777 ?_
              refine q_ieq (tgt := 785) hx hb dL_law_778 (by decide) (by omega) (fun c88 => ?_) (fun c88 => ?_)
              · exact (show False by omega).elim
              · refine q_con hx hb dL_law_781 ?_
                refine lv_goto (tgt := 786) hx hb dL_law_782 (by decide) ?_
                refine lv_aload_n hx hb dL_law_786 rfl (lv_at hl 5 rfl) ?_
                refine lv_iload hx hb dL_law_787 (lv_at hl 1 rfl) ?_
                refine q_con hx hb dL_law_789 ?_
                refine q_add hx hb dL_law_790 ?_
                refine r_xld hx hb hX hbl hbA hS (i := i + 4) (z := x4) (by omega) hL ex4 dL_law_791 ?_
                refine q_ieq (tgt := 799) hx hb dL_law_792 (by decide) (by omega) (fun c89 => ?_) (fun c89 => ?_)
                · exact (show False by omega).elim
                · refine q_con hx hb dL_law_795 ?_
                  refine lv_goto (tgt := 800) hx hb dL_law_796 (by decide) ?_
                  refine c_Vr (As := [.int (iI x1), .int (iI x2), .int (iI 1), .int (iI 1)]) (rest := []) (b := w 0) (C := RX3) (r := some (.int (iI 0))) (st1 := [.int (iI 0)]) fx hl (mno2_act θ l S0 _ w r q dt sv th bc rf kn hm1 x1 x2 1 1 n9 k9 r9 (by first | assumption | omega | (dsimp only; first | assumption | omega) | exact Hid.mk (by first | assumption | omega) | exact Hid.mk ⟨fun _ => by first | assumption | omega, fun _ => by first | assumption | omega⟩) (by first | assumption | omega | (dsimp only; first | assumption | omega) | exact Hid.mk (by first | assumption | omega) | exact Hid.mk ⟨fun _ => by first | assumption | omega, fun _ => by first | assumption | omega⟩) (by first | assumption | omega | (dsimp only; first | assumption | omega) | exact Hid.mk (by first | assumption | omega) | exact Hid.mk ⟨fun _ => by first | assumption | omega, fun _ => by first | assumption | omega⟩) (by first | assumption | omega | (dsimp only; first | assumption | omega) | exact Hid.mk (by first | assumption | omega) | exact Hid.mk ⟨fun _ => by first | assumption | omega, fun _ => by first | assumption | omega⟩) (by first | assumption | omega | (dsimp only; first | assumption | omega) | exact Hid.mk (by first | assumption | omega) | exact Hid.mk ⟨fun _ => by first | assumption | omega, fun _ => by first | assumption | omega⟩) (by first | assumption | omega | (dsimp only; first | assumption | omega) | exact Hid.mk (by first | assumption | omega) | exact Hid.mk ⟨fun _ => by first | assumption | omega, fun _ => by first | assumption | omega⟩) (by first | assumption | omega | (dsimp only; first | assumption | omega) | exact Hid.mk (by first | assumption | omega) | exact Hid.mk ⟨fun _ => by first | assumption | omega, fun _ => by first | assumption | omega⟩) (by first | assumption | omega | (dsimp only; first | assumption | omega) | exact Hid.mk (by first | assumption | omega) | exact Hid.mk ⟨fun _ => by first | assumption | omega, fun _ => by first | assumption | omega⟩) (by first | assumption | omega | (dsimp only; first | assumption | omega) | exact Hid.mk (by first | assumption | omega) | exact Hid.mk ⟨fun _ => by first | assumption | omega, fun _ => by first | assumption | omega⟩) (by first | assumption | omega | (dsimp only; first | assumption | omega) | exact Hid.mk (by first | assumption | omega) | exact Hid.mk ⟨fun _ => by first | assumption | omega, fun _ => by first | assumption | omega⟩) (by first | assumption | omega | (dsimp only; first | assumption | omega) | exact Hid.mk (by first | assumption | omega) | exact Hid.mk ⟨fun _ => by first | assumption | omega, fun _ => by first | assumption | omega⟩)) (ob_recv hK hm1.2.2.1.1 rfl) dL_law_800 k1203 k1204 k1205 k6 k1206 hd_X3_act rfl rfl ⟨by omega, by omega⟩ (Nat.le_of_ble_eq_true rfl) ⟨by (try dsimp only); omega, by (try dsimp only); omega⟩ hS (wa_b hm1.2.1 hzH1.2.1) (fun H90 locs hpH90 hszH90 hkH90 hS => ?_)
                  obtain ⟨r1, q1, hm2, nr, nq⟩ := hpH90
                  have hzH2 := hz0.at hAB hS
                  have hL2 := lw_mod hLX hzH2 hu hcw ho1 hfr hfq hm2 nr nq hkH90
                  refine lv_istore (lv' := [(6, .int (iI 0)), (5, .int (iI 1)), (4, .int (iI i)), (3, .ref o), (2, .ref (w 0)), (1, .ref (u 0)), (0, .ref b)]) hx hb dL_law_803 hl (by decide) rfl (fun ls hl => ?_)
                  refine lv_goto (tgt := 2331) hx hb dL_law_805 (by decide) ?_
                  exact kk _ _ _ _ _ ⟨_, _, _, _, _, _, _, _, _, _, hL2⟩ hS (by omega) (by omega) (lv_sub hl [2, 3, 4, 5, 6] rfl)
      · refine lv_aload_n hx hb dL_law_712 rfl (lv_at hl 3 rfl) ?_
        refine lv_aload_n hx hb dL_law_713 rfl (lv_at hl 4 rfl) ?_
        refine lv_iload hx hb dL_law_714 (lv_at hl 0 rfl) ?_
        refine q_con hx hb dL_law_716 ?_
        refine q_add hx hb dL_law_717 ?_
        refine r_xld hx hb hX hbl hbA hS (i := i + 1) (z := x1) (by omega) hL ex1 dL_law_718 ?_
        refine lv_aload_n hx hb dL_law_719 rfl (lv_at hl 4 rfl) ?_
        refine lv_iload hx hb dL_law_720 (lv_at hl 0 rfl) ?_
        refine q_con hx hb dL_law_722 ?_
        refine q_add hx hb dL_law_723 ?_
        refine r_xld hx hb hX hbl hbA hS (i := i + 2) (z := x2) (by omega) hL ex2 dL_law_724 ?_
        refine lv_aload_n hx hb dL_law_725 rfl (lv_at hl 4 rfl) ?_
        refine lv_iload hx hb dL_law_726 (lv_at hl 0 rfl) ?_
        refine q_con hx hb dL_law_728 ?_
        refine q_add hx hb dL_law_729 ?_
        refine r_xld hx hb hX hbl hbA hS (i := i + 3) (z := x3) (by omega) hL ex3 dL_law_730 ?_
        refine q_ieq (tgt := 738) hx hb dL_law_731 (by decide) (by omega) (fun c91 => ?_) (fun c91 => ?_)
        · exact (show False by omega).elim
        · refine q_con hx hb dL_law_734 ?_
          refine lv_goto (tgt := 739) hx hb dL_law_735 (by decide) ?_
          refine lv_aload_n hx hb dL_law_739 rfl (lv_at hl 4 rfl) ?_
          refine lv_iload hx hb dL_law_740 (lv_at hl 0 rfl) ?_
          refine q_con hx hb dL_law_742 ?_
          refine q_add hx hb dL_law_743 ?_
          refine r_xld hx hb hX hbl hbA hS (i := i + 4) (z := x4) (by omega) hL ex4 dL_law_744 ?_
          refine q_ieq (tgt := 752) hx hb dL_law_745 (by decide) (by omega) (fun c92 => ?_) (fun c92 => ?_)
          · exact (show False by omega).elim
          · refine q_con hx hb dL_law_748 ?_
            refine lv_goto (tgt := 753) hx hb dL_law_749 (by decide) ?_
            refine lv_aload_n hx hb dL_law_753 rfl (lv_at hl 1 rfl) ?_
            refine c_SWr (As := [.ref (u 0), .int (iI x1), .int (iI x2), .int (iI 1), .int (iI 1), .ref o]) (rest := []) (r := .int (iI 1)) fx hl (wn1_act θ l hl0 S0 _ u dt (fun j => sv j 0) (fun j => sv j 1) (fun j => sv j 2) bc rf kn hcr hjH hn o nv sv9 ho hLX.1 x1 x2 1 1 n9 k9 r9 (by first | assumption | omega | (dsimp only; first | assumption | omega) | exact Hid.mk (by first | assumption | omega) | exact Hid.mk ⟨fun _ => by first | assumption | omega, fun _ => by first | assumption | omega⟩) (by first | assumption | omega | (dsimp only; first | assumption | omega) | exact Hid.mk (by first | assumption | omega) | exact Hid.mk ⟨fun _ => by first | assumption | omega, fun _ => by first | assumption | omega⟩) (by first | assumption | omega | (dsimp only; first | assumption | omega) | exact Hid.mk (by first | assumption | omega) | exact Hid.mk ⟨fun _ => by first | assumption | omega, fun _ => by first | assumption | omega⟩) (by first | assumption | omega | (dsimp only; first | assumption | omega) | exact Hid.mk (by first | assumption | omega) | exact Hid.mk ⟨fun _ => by first | assumption | omega, fun _ => by first | assumption | omega⟩) (by first | assumption | omega | (dsimp only; first | assumption | omega) | exact Hid.mk (by first | assumption | omega) | exact Hid.mk ⟨fun _ => by first | assumption | omega, fun _ => by first | assumption | omega⟩) (by first | assumption | omega | (dsimp only; first | assumption | omega) | exact Hid.mk (by first | assumption | omega) | exact Hid.mk ⟨fun _ => by first | assumption | omega, fun _ => by first | assumption | omega⟩) (by first | assumption | omega | (dsimp only; first | assumption | omega) | exact Hid.mk (by first | assumption | omega) | exact Hid.mk ⟨fun _ => by first | assumption | omega, fun _ => by first | assumption | omega⟩) (by first | assumption | omega | (dsimp only; first | assumption | omega) | exact Hid.mk (by first | assumption | omega) | exact Hid.mk ⟨fun _ => by first | assumption | omega, fun _ => by first | assumption | omega⟩) (by first | assumption | omega | (dsimp only; first | assumption | omega) | exact Hid.mk (by first | assumption | omega) | exact Hid.mk ⟨fun _ => by first | assumption | omega, fun _ => by first | assumption | omega⟩) (by first | assumption | omega | (dsimp only; first | assumption | omega) | exact Hid.mk (by first | assumption | omega) | exact Hid.mk ⟨fun _ => by first | assumption | omega, fun _ => by first | assumption | omega⟩)) dL_law_754 k811 k812 k0 k813 hd_L_act rfl ⟨by omega, by omega⟩ (Nat.le_of_ble_eq_true rfl) ⟨by (try dsimp only); omega, by (try dsimp only); omega⟩ hS (fun x h => h.elim (fun h => h.elim (fun ⟨j, hj, e⟩ => e ▸ hu.2 j hj) (fun h => Nat.le_trans hzH.2.1 h)) (fun e => e ▸ hoθ)) (fun H93 locs hpH93 hszH93 hkH93 hS => ?_)
            obtain ⟨hcw, ho1⟩ := hpH93
            have hzH1 := hz0.at hAB hS
            have hjH1 := hj0.at hAB hS
            have hm1 := lw_cls hLX hw hzH1 hkH93
            refine lv_istore (lv' := [(5, .int (iI 1)), (4, .int (iI i)), (3, .ref o), (2, .ref (w 0)), (1, .ref (u 0)), (0, .ref b)]) hx hb dL_law_757 hl (by decide) rfl (fun ls hl => ?_)
            refine lv_aload_n hx hb dL_law_759 rfl (lv_at hl 3 rfl) ?_
            refine lv_aload_n hx hb dL_law_760 rfl (lv_at hl 5 rfl) ?_
            refine lv_iload hx hb dL_law_761 (lv_at hl 1 rfl) ?_
            refine q_con hx hb dL_law_763 ?_
            refine q_add hx hb dL_law_764 ?_
            refine r_xld hx hb hX hbl hbA hS (i := i + 1) (z := x1) (by omega) hL ex1 dL_law_765 ?_
            refine lv_aload_n hx hb dL_law_766 rfl (lv_at hl 5 rfl) ?_
            refine lv_iload hx hb dL_law_767 (lv_at hl 1 rfl) ?_
            refine q_con hx hb dL_law_769 ?_
            refine q_add hx hb dL_law_770 ?_
            refine r_xld hx hb hX hbl hbA hS (i := i + 2) (z := x2) (by omega) hL ex2 dL_law_771 ?_
            refine lv_aload_n hx hb dL_law_772 rfl (lv_at hl 5 rfl) ?_
            refine lv_iload hx hb dL_law_773 (lv_at hl 1 rfl) ?_
            refine q_con hx hb dL_law_775 ?_
            refine q_add hx hb dL_law_776 ?_
            refine r_xld hx hb hX hbl hbA hS (i := i + 3) (z := x3) (by omega) hL ex3 dL_law_777 ?_
            refine q_ieq (tgt := 785) hx hb dL_law_778 (by decide) (by omega) (fun c94 => ?_) (fun c94 => ?_)
            · exact (show False by omega).elim
            · refine q_con hx hb dL_law_781 ?_
              refine lv_goto (tgt := 786) hx hb dL_law_782 (by decide) ?_
              refine lv_aload_n hx hb dL_law_786 rfl (lv_at hl 5 rfl) ?_
              refine lv_iload hx hb dL_law_787 (lv_at hl 1 rfl) ?_
              refine q_con hx hb dL_law_789 ?_
              refine q_add hx hb dL_law_790 ?_
              refine r_xld hx hb hX hbl hbA hS (i := i + 4) (z := x4) (by omega) hL ex4 dL_law_791 ?_
              refine q_ieq (tgt := 799) hx hb dL_law_792 (by decide) (by omega) (fun c95 => ?_) (fun c95 => ?_)
              · exact (show False by omega).elim
              · refine q_con hx hb dL_law_795 ?_
                refine lv_goto (tgt := 800) hx hb dL_law_796 (by decide) ?_
                refine c_Vr (As := [.int (iI x1), .int (iI x2), .int (iI 1), .int (iI 1)]) (rest := []) (b := w 0) (C := RX3) (r := some (.int (iI 0))) (st1 := [.int (iI 0)]) fx hl (mno1_act θ l S0 _ w r q dt sv th bc rf kn hm1 x1 x2 1 1 n9 k9 r9 (by first | assumption | omega | (dsimp only; first | assumption | omega) | exact Hid.mk (by first | assumption | omega) | exact Hid.mk ⟨fun _ => by first | assumption | omega, fun _ => by first | assumption | omega⟩) (by first | assumption | omega | (dsimp only; first | assumption | omega) | exact Hid.mk (by first | assumption | omega) | exact Hid.mk ⟨fun _ => by first | assumption | omega, fun _ => by first | assumption | omega⟩) (by first | assumption | omega | (dsimp only; first | assumption | omega) | exact Hid.mk (by first | assumption | omega) | exact Hid.mk ⟨fun _ => by first | assumption | omega, fun _ => by first | assumption | omega⟩) (by first | assumption | omega | (dsimp only; first | assumption | omega) | exact Hid.mk (by first | assumption | omega) | exact Hid.mk ⟨fun _ => by first | assumption | omega, fun _ => by first | assumption | omega⟩) (by first | assumption | omega | (dsimp only; first | assumption | omega) | exact Hid.mk (by first | assumption | omega) | exact Hid.mk ⟨fun _ => by first | assumption | omega, fun _ => by first | assumption | omega⟩) (by first | assumption | omega | (dsimp only; first | assumption | omega) | exact Hid.mk (by first | assumption | omega) | exact Hid.mk ⟨fun _ => by first | assumption | omega, fun _ => by first | assumption | omega⟩) (by first | assumption | omega | (dsimp only; first | assumption | omega) | exact Hid.mk (by first | assumption | omega) | exact Hid.mk ⟨fun _ => by first | assumption | omega, fun _ => by first | assumption | omega⟩) (by first | assumption | omega | (dsimp only; first | assumption | omega) | exact Hid.mk (by first | assumption | omega) | exact Hid.mk ⟨fun _ => by first | assumption | omega, fun _ => by first | assumption | omega⟩) (by first | assumption | omega | (dsimp only; first | assumption | omega) | exact Hid.mk (by first | assumption | omega) | exact Hid.mk ⟨fun _ => by first | assumption | omega, fun _ => by first | assumption | omega⟩) (by first | assumption | omega | (dsimp only; first | assumption | omega) | exact Hid.mk (by first | assumption | omega) | exact Hid.mk ⟨fun _ => by first | assumption | omega, fun _ => by first | assumption | omega⟩)) (ob_recv hK hm1.2.2.1.1 rfl) dL_law_800 k1203 k1204 k1205 k6 k1206 hd_X3_act rfl rfl ⟨by omega, by omega⟩ (Nat.le_of_ble_eq_true rfl) ⟨by (try dsimp only); omega, by (try dsimp only); omega⟩ hS (wa_b hm1.2.1 hzH1.2.1) (fun H96 locs hpH96 hszH96 hkH96 hS => ?_)
                obtain ⟨r1, q1, hm2, nr, nq⟩ := hpH96
                have hzH2 := hz0.at hAB hS
                have hL2 := lw_mod hLX hzH2 hu hcw ho1 hfr hfq hm2 nr nq hkH96
                refine lv_istore (lv' := [(6, .int (iI 0)), (5, .int (iI 1)), (4, .int (iI i)), (3, .ref o), (2, .ref (w 0)), (1, .ref (u 0)), (0, .ref b)]) hx hb dL_law_803 hl (by decide) rfl (fun ls hl => ?_)
                refine lv_goto (tgt := 2331) hx hb dL_law_805 (by decide) ?_
                exact kk _ _ _ _ _ ⟨_, _, _, _, _, _, _, _, _, _, hL2⟩ hS (by omega) (by omega) (lv_sub hl [2, 3, 4, 5, 6] rfl)

set_option maxHeartbeats 4000000 in
set_option maxRecDepth 100000 in
theorem lc_actOften {p : Program} {l : Launch} {e : Env} {R : Room} {s : State} {m : MethodId} {args : Array Value} {below : List Frame} {meth : Method} {c : Code} {Q : State → Prop} {θ : TH} {S0 : State} (fx : FX p m c cL_law 7 s args yL_law.cls S0) (hl0 : l.stackTraces = false) (hz0 : SZ θ S0 s.heap) (hj0 : SJ θ S0 s.heap) (hn : NX S0) {u w : Nat → Nat} {o b L : Nat} {xs : Nat → Int32} (hLX : LX u w o) (hoθ : θ.2.2.2 ≤ o) (hX : va_X b L xs s s.heap) (hbl : b < s.heap.size) (hbA : ¬ AJ θ b) (hL : L ≤ 2560) (hRF : 1000 ≤ R.frames ∧ 1000 ≤ R.locals) {H : Heap} {locs : List Loc} {cells slots : Nat} {ls : Array Slot} {i : Int} (hi : 0 ≤ i ∧ i + 5 ≤ (L : Int)) (hw : LWE θ S0 u w o H) (hS : va_S (AJ θ) s.heap H locs) (hRc : cells + 400 ≤ R.cells ∧ slots + 7000 ≤ R.slots) (hl : lv_has ls 7 [(4, .int (iI i)), (3, .ref o), (2, .ref (w 0)), (1, .ref (u 0)), (0, .ref b)]) (kk : LK p l e R s m args below meth c Q θ S0 u w o b i cells slots 2331) : W p l e R s m args below meth c H locs cells slots Q (F0 m 808 ls []) := by
  obtain ⟨hx, hb, hml, hown, hts⟩ := id fx.1
  have hAB : ∀ x : Nat, AJ θ x → θ.2.2.2 ≤ x := fun _ h => h
  obtain ⟨r, q, dt, sv, th, bc, rf, kn, nv, sv9, hw⟩ := hw
  obtain ⟨hcr, hmr, ho, hfr, hfq⟩ := id hw
  have hzH := hz0.at hAB hS
  have hjH := hj0.at hAB hS
  have hK := sz_K fx.2 hz0
  have hu := hcr.2.1
  obtain ⟨x1, ex1⟩ : ∃ z : Int, z = (xs (i + 1).toNat).toInt := ⟨_, rfl⟩
  have bx1 := x32_b ex1
  obtain ⟨x2, ex2⟩ : ∃ z : Int, z = (xs (i + 2).toNat).toInt := ⟨_, rfl⟩
  have bx2 := x32_b ex2
  obtain ⟨x3, ex3⟩ : ∃ z : Int, z = (xs (i + 3).toNat).toInt := ⟨_, rfl⟩
  have bx3 := x32_b ex3
  obtain ⟨n9, en9⟩ : ∃ z : Int, z = 12 * sv x2.toNat 0 + sv x2.toNat 1 := ⟨_, rfl⟩
  by_cases hc1 : 0 ≤ x1 ∧ x1 < 6
  · by_cases hc2 : 0 ≤ x2 ∧ x2 < 3
    · by_cases hc3 : 0 ≤ x3 ∧ x3 ≤ 24
      · by_cases hc4 : -4371587 ≤ (itA (dt x1.toNat) n9 (sv x2.toNat 2) x3.toNat) ∧ (itA (dt x1.toNat) n9 (sv x2.toNat 2) x3.toNat) ≤ 2932896
        · refine lv_aload_n hx hb dL_law_808 rfl (lv_at hl 3 rfl) ?_
          refine lv_aload_n hx hb dL_law_809 rfl (lv_at hl 4 rfl) ?_
          refine lv_iload hx hb dL_law_810 (lv_at hl 0 rfl) ?_
          refine q_con hx hb dL_law_812 ?_
          refine q_add hx hb dL_law_813 ?_
          refine r_xld hx hb hX hbl hbA hS (i := i + 1) (z := x1) (by omega) hL ex1 dL_law_814 ?_
          refine lv_aload_n hx hb dL_law_815 rfl (lv_at hl 4 rfl) ?_
          refine lv_iload hx hb dL_law_816 (lv_at hl 0 rfl) ?_
          refine q_con hx hb dL_law_818 ?_
          refine q_add hx hb dL_law_819 ?_
          refine r_xld hx hb hX hbl hbA hS (i := i + 2) (z := x2) (by omega) hL ex2 dL_law_820 ?_
          refine lv_aload_n hx hb dL_law_821 rfl (lv_at hl 4 rfl) ?_
          refine lv_iload hx hb dL_law_822 (lv_at hl 0 rfl) ?_
          refine q_con hx hb dL_law_824 ?_
          refine q_add hx hb dL_law_825 ?_
          refine r_xld hx hb hX hbl hbA hS (i := i + 3) (z := x3) (by omega) hL ex3 dL_law_826 ?_
          refine lv_aload_n hx hb dL_law_827 rfl (lv_at hl 1 rfl) ?_
          refine c_SWr (As := [.ref (u 0), .int (iI x1), .int (iI x2), .int (iI x3), .ref o]) (rest := []) (r := .int (iI 0)) fx hl (wr_actOften θ l hl0 S0 _ u dt (fun j => sv j 0) (fun j => sv j 1) (fun j => sv j 2) bc rf kn hcr hjH hn o nv sv9 ho hLX.1 x1 x2 x3 n9 (by first | assumption | omega | (dsimp only; first | assumption | omega) | exact Hid.mk (by first | assumption | omega) | exact Hid.mk ⟨fun _ => by first | assumption | omega, fun _ => by first | assumption | omega⟩) (by first | assumption | omega | (dsimp only; first | assumption | omega) | exact Hid.mk (by first | assumption | omega) | exact Hid.mk ⟨fun _ => by first | assumption | omega, fun _ => by first | assumption | omega⟩) (by first | assumption | omega | (dsimp only; first | assumption | omega) | exact Hid.mk (by first | assumption | omega) | exact Hid.mk ⟨fun _ => by first | assumption | omega, fun _ => by first | assumption | omega⟩) (by first | assumption | omega | (dsimp only; first | assumption | omega) | exact Hid.mk (by first | assumption | omega) | exact Hid.mk ⟨fun _ => by first | assumption | omega, fun _ => by first | assumption | omega⟩) (by first | assumption | omega | (dsimp only; first | assumption | omega) | exact Hid.mk (by first | assumption | omega) | exact Hid.mk ⟨fun _ => by first | assumption | omega, fun _ => by first | assumption | omega⟩) (by first | assumption | omega | (dsimp only; first | assumption | omega) | exact Hid.mk (by first | assumption | omega) | exact Hid.mk ⟨fun _ => by first | assumption | omega, fun _ => by first | assumption | omega⟩) (by first | assumption | omega | (dsimp only; first | assumption | omega) | exact Hid.mk (by first | assumption | omega) | exact Hid.mk ⟨fun _ => by first | assumption | omega, fun _ => by first | assumption | omega⟩) (by first | assumption | omega | (dsimp only; first | assumption | omega) | exact Hid.mk (by first | assumption | omega) | exact Hid.mk ⟨fun _ => by first | assumption | omega, fun _ => by first | assumption | omega⟩)) dL_law_828 k818 k819 k0 k820 hd_L_actOften rfl ⟨by omega, by omega⟩ (Nat.le_of_ble_eq_true rfl) ⟨by (try dsimp only); omega, by (try dsimp only); omega⟩ hS (fun x h => h.elim (fun h => h.elim (fun ⟨j, hj, e⟩ => e ▸ hu.2 j hj) (fun h => Nat.le_trans hzH.2.1 h)) (fun e => e ▸ hoθ)) (fun H1 locs hpH1 hszH1 hkH1 hS => ?_)
          obtain ⟨hcw, ho1⟩ := hpH1
          have hzH1 := hz0.at hAB hS
          have hjH1 := hj0.at hAB hS
          have hm1 := lw_cls hLX hw hzH1 hkH1
          refine lv_istore (lv' := [(5, .int (iI 0)), (4, .int (iI i)), (3, .ref o), (2, .ref (w 0)), (1, .ref (u 0)), (0, .ref b)]) hx hb dL_law_831 hl (by decide) rfl (fun ls hl => ?_)
          refine lv_aload_n hx hb dL_law_833 rfl (lv_at hl 3 rfl) ?_
          refine lv_aload_n hx hb dL_law_834 rfl (lv_at hl 5 rfl) ?_
          refine lv_iload hx hb dL_law_835 (lv_at hl 1 rfl) ?_
          refine q_con hx hb dL_law_837 ?_
          refine q_add hx hb dL_law_838 ?_
          refine r_xld hx hb hX hbl hbA hS (i := i + 1) (z := x1) (by omega) hL ex1 dL_law_839 ?_
          refine lv_aload_n hx hb dL_law_840 rfl (lv_at hl 5 rfl) ?_
          refine lv_iload hx hb dL_law_841 (lv_at hl 1 rfl) ?_
          refine q_con hx hb dL_law_843 ?_
          refine q_add hx hb dL_law_844 ?_
          refine r_xld hx hb hX hbl hbA hS (i := i + 2) (z := x2) (by omega) hL ex2 dL_law_845 ?_
          refine lv_aload_n hx hb dL_law_846 rfl (lv_at hl 5 rfl) ?_
          refine lv_iload hx hb dL_law_847 (lv_at hl 1 rfl) ?_
          refine q_con hx hb dL_law_849 ?_
          refine q_add hx hb dL_law_850 ?_
          refine r_xld hx hb hX hbl hbA hS (i := i + 3) (z := x3) (by omega) hL ex3 dL_law_851 ?_
          refine c_Vr (As := [.int (iI x1), .int (iI x2), .int (iI x3)]) (rest := []) (b := w 0) (C := RX3) (r := some (.int (iI (itA (dt x1.toNat) n9 (sv x2.toNat 2) x3.toNat)))) (st1 := [.int (iI (itA (dt x1.toNat) n9 (sv x2.toNat 2) x3.toNat))]) fx hl (mok_actOften θ l S0 _ w r q dt sv th bc rf kn hm1 x1 x2 x3 n9 (by first | assumption | omega | (dsimp only; first | assumption | omega) | exact Hid.mk (by first | assumption | omega) | exact Hid.mk ⟨fun _ => by first | assumption | omega, fun _ => by first | assumption | omega⟩) (by first | assumption | omega | (dsimp only; first | assumption | omega) | exact Hid.mk (by first | assumption | omega) | exact Hid.mk ⟨fun _ => by first | assumption | omega, fun _ => by first | assumption | omega⟩) (by first | assumption | omega | (dsimp only; first | assumption | omega) | exact Hid.mk (by first | assumption | omega) | exact Hid.mk ⟨fun _ => by first | assumption | omega, fun _ => by first | assumption | omega⟩) (by first | assumption | omega | (dsimp only; first | assumption | omega) | exact Hid.mk (by first | assumption | omega) | exact Hid.mk ⟨fun _ => by first | assumption | omega, fun _ => by first | assumption | omega⟩) (by first | assumption | omega | (dsimp only; first | assumption | omega) | exact Hid.mk (by first | assumption | omega) | exact Hid.mk ⟨fun _ => by first | assumption | omega, fun _ => by first | assumption | omega⟩) (by first | assumption | omega | (dsimp only; first | assumption | omega) | exact Hid.mk (by first | assumption | omega) | exact Hid.mk ⟨fun _ => by first | assumption | omega, fun _ => by first | assumption | omega⟩) (by first | assumption | omega | (dsimp only; first | assumption | omega) | exact Hid.mk (by first | assumption | omega) | exact Hid.mk ⟨fun _ => by first | assumption | omega, fun _ => by first | assumption | omega⟩) (by first | assumption | omega | (dsimp only; first | assumption | omega) | exact Hid.mk (by first | assumption | omega) | exact Hid.mk ⟨fun _ => by first | assumption | omega, fun _ => by first | assumption | omega⟩)) (ob_recv hK hm1.2.2.1.1 rfl) dL_law_852 k1218 k1219 k1220 k6 k1221 hd_X3_actOften rfl rfl ⟨by omega, by omega⟩ (Nat.le_of_ble_eq_true rfl) ⟨by (try dsimp only); omega, by (try dsimp only); omega⟩ hS (wa_b hm1.2.1 hzH1.2.1) (fun H2 locs hpH2 hszH2 hkH2 hS => ?_)
          obtain ⟨r1, q1, hm2, nr, nq⟩ := hpH2
          have hzH2 := hz0.at hAB hS
          have hL2 := lw_mod hLX hzH2 hu hcw ho1 hfr hfq hm2 nr nq hkH2
          refine lv_istore (lv' := [(6, .int (iI (itA (dt x1.toNat) n9 (sv x2.toNat 2) x3.toNat))), (5, .int (iI 0)), (4, .int (iI i)), (3, .ref o), (2, .ref (w 0)), (1, .ref (u 0)), (0, .ref b)]) hx hb dL_law_855 hl (by decide) rfl (fun ls hl => ?_)
          refine lv_goto (tgt := 2331) hx hb dL_law_857 (by decide) ?_
          exact kk _ _ _ _ _ ⟨_, _, _, _, _, _, _, _, _, _, hL2⟩ hS (by omega) (by omega) (lv_sub hl [2, 3, 4, 5, 6] rfl)
        · refine lv_aload_n hx hb dL_law_808 rfl (lv_at hl 3 rfl) ?_
          refine lv_aload_n hx hb dL_law_809 rfl (lv_at hl 4 rfl) ?_
          refine lv_iload hx hb dL_law_810 (lv_at hl 0 rfl) ?_
          refine q_con hx hb dL_law_812 ?_
          refine q_add hx hb dL_law_813 ?_
          refine r_xld hx hb hX hbl hbA hS (i := i + 1) (z := x1) (by omega) hL ex1 dL_law_814 ?_
          refine lv_aload_n hx hb dL_law_815 rfl (lv_at hl 4 rfl) ?_
          refine lv_iload hx hb dL_law_816 (lv_at hl 0 rfl) ?_
          refine q_con hx hb dL_law_818 ?_
          refine q_add hx hb dL_law_819 ?_
          refine r_xld hx hb hX hbl hbA hS (i := i + 2) (z := x2) (by omega) hL ex2 dL_law_820 ?_
          refine lv_aload_n hx hb dL_law_821 rfl (lv_at hl 4 rfl) ?_
          refine lv_iload hx hb dL_law_822 (lv_at hl 0 rfl) ?_
          refine q_con hx hb dL_law_824 ?_
          refine q_add hx hb dL_law_825 ?_
          refine r_xld hx hb hX hbl hbA hS (i := i + 3) (z := x3) (by omega) hL ex3 dL_law_826 ?_
          refine lv_aload_n hx hb dL_law_827 rfl (lv_at hl 1 rfl) ?_
          refine c_SWr (As := [.ref (u 0), .int (iI x1), .int (iI x2), .int (iI x3), .ref o]) (rest := []) (r := .int (iI 3)) fx hl (wn4_actOften θ l hl0 S0 _ u dt (fun j => sv j 0) (fun j => sv j 1) (fun j => sv j 2) bc rf kn hcr hjH hn o nv sv9 ho hLX.1 x1 x2 x3 n9 (by first | assumption | omega | (dsimp only; first | assumption | omega) | exact Hid.mk (by first | assumption | omega) | exact Hid.mk ⟨fun _ => by first | assumption | omega, fun _ => by first | assumption | omega⟩) (by first | assumption | omega | (dsimp only; first | assumption | omega) | exact Hid.mk (by first | assumption | omega) | exact Hid.mk ⟨fun _ => by first | assumption | omega, fun _ => by first | assumption | omega⟩) (by first | assumption | omega | (dsimp only; first | assumption | omega) | exact Hid.mk (by first | assumption | omega) | exact Hid.mk ⟨fun _ => by first | assumption | omega, fun _ => by first | assumption | omega⟩) (by first | assumption | omega | (dsimp only; first | assumption | omega) | exact Hid.mk (by first | assumption | omega) | exact Hid.mk ⟨fun _ => by first | assumption | omega, fun _ => by first | assumption | omega⟩) (by first | assumption | omega | (dsimp only; first | assumption | omega) | exact Hid.mk (by first | assumption | omega) | exact Hid.mk ⟨fun _ => by first | assumption | omega, fun _ => by first | assumption | omega⟩) (by first | assumption | omega | (dsimp only; first | assumption | omega) | exact Hid.mk (by first | assumption | omega) | exact Hid.mk ⟨fun _ => by first | assumption | omega, fun _ => by first | assumption | omega⟩) (by first | assumption | omega | (dsimp only; first | assumption | omega) | exact Hid.mk (by first | assumption | omega) | exact Hid.mk ⟨fun _ => by first | assumption | omega, fun _ => by first | assumption | omega⟩) (by first | assumption | omega | (dsimp only; first | assumption | omega) | exact Hid.mk (by first | assumption | omega) | exact Hid.mk ⟨fun _ => by first | assumption | omega, fun _ => by first | assumption | omega⟩)) dL_law_828 k818 k819 k0 k820 hd_L_actOften rfl ⟨by omega, by omega⟩ (Nat.le_of_ble_eq_true rfl) ⟨by (try dsimp only); omega, by (try dsimp only); omega⟩ hS (fun x h => h.elim (fun h => h.elim (fun ⟨j, hj, e⟩ => e ▸ hu.2 j hj) (fun h => Nat.le_trans hzH.2.1 h)) (fun e => e ▸ hoθ)) (fun H3 locs hpH3 hszH3 hkH3 hS => ?_)
          obtain ⟨hcw, ho1⟩ := hpH3
          have hzH1 := hz0.at hAB hS
          have hjH1 := hj0.at hAB hS
          have hm1 := lw_cls hLX hw hzH1 hkH3
          refine lv_istore (lv' := [(5, .int (iI 3)), (4, .int (iI i)), (3, .ref o), (2, .ref (w 0)), (1, .ref (u 0)), (0, .ref b)]) hx hb dL_law_831 hl (by decide) rfl (fun ls hl => ?_)
          refine lv_aload_n hx hb dL_law_833 rfl (lv_at hl 3 rfl) ?_
          refine lv_aload_n hx hb dL_law_834 rfl (lv_at hl 5 rfl) ?_
          refine lv_iload hx hb dL_law_835 (lv_at hl 1 rfl) ?_
          refine q_con hx hb dL_law_837 ?_
          refine q_add hx hb dL_law_838 ?_
          refine r_xld hx hb hX hbl hbA hS (i := i + 1) (z := x1) (by omega) hL ex1 dL_law_839 ?_
          refine lv_aload_n hx hb dL_law_840 rfl (lv_at hl 5 rfl) ?_
          refine lv_iload hx hb dL_law_841 (lv_at hl 1 rfl) ?_
          refine q_con hx hb dL_law_843 ?_
          refine q_add hx hb dL_law_844 ?_
          refine r_xld hx hb hX hbl hbA hS (i := i + 2) (z := x2) (by omega) hL ex2 dL_law_845 ?_
          refine lv_aload_n hx hb dL_law_846 rfl (lv_at hl 5 rfl) ?_
          refine lv_iload hx hb dL_law_847 (lv_at hl 1 rfl) ?_
          refine q_con hx hb dL_law_849 ?_
          refine q_add hx hb dL_law_850 ?_
          refine r_xld hx hb hX hbl hbA hS (i := i + 3) (z := x3) (by omega) hL ex3 dL_law_851 ?_
          refine c_Vr (As := [.int (iI x1), .int (iI x2), .int (iI x3)]) (rest := []) (b := w 0) (C := RX3) (r := some (.int (iI 0))) (st1 := [.int (iI 0)]) fx hl (mno4_actOften θ l S0 _ w r q dt sv th bc rf kn hm1 x1 x2 x3 n9 (by first | assumption | omega | (dsimp only; first | assumption | omega) | exact Hid.mk (by first | assumption | omega) | exact Hid.mk ⟨fun _ => by first | assumption | omega, fun _ => by first | assumption | omega⟩) (by first | assumption | omega | (dsimp only; first | assumption | omega) | exact Hid.mk (by first | assumption | omega) | exact Hid.mk ⟨fun _ => by first | assumption | omega, fun _ => by first | assumption | omega⟩) (by first | assumption | omega | (dsimp only; first | assumption | omega) | exact Hid.mk (by first | assumption | omega) | exact Hid.mk ⟨fun _ => by first | assumption | omega, fun _ => by first | assumption | omega⟩) (by first | assumption | omega | (dsimp only; first | assumption | omega) | exact Hid.mk (by first | assumption | omega) | exact Hid.mk ⟨fun _ => by first | assumption | omega, fun _ => by first | assumption | omega⟩) (by first | assumption | omega | (dsimp only; first | assumption | omega) | exact Hid.mk (by first | assumption | omega) | exact Hid.mk ⟨fun _ => by first | assumption | omega, fun _ => by first | assumption | omega⟩) (by first | assumption | omega | (dsimp only; first | assumption | omega) | exact Hid.mk (by first | assumption | omega) | exact Hid.mk ⟨fun _ => by first | assumption | omega, fun _ => by first | assumption | omega⟩) (by first | assumption | omega | (dsimp only; first | assumption | omega) | exact Hid.mk (by first | assumption | omega) | exact Hid.mk ⟨fun _ => by first | assumption | omega, fun _ => by first | assumption | omega⟩) (by first | assumption | omega | (dsimp only; first | assumption | omega) | exact Hid.mk (by first | assumption | omega) | exact Hid.mk ⟨fun _ => by first | assumption | omega, fun _ => by first | assumption | omega⟩)) (ob_recv hK hm1.2.2.1.1 rfl) dL_law_852 k1218 k1219 k1220 k6 k1221 hd_X3_actOften rfl rfl ⟨by omega, by omega⟩ (Nat.le_of_ble_eq_true rfl) ⟨by (try dsimp only); omega, by (try dsimp only); omega⟩ hS (wa_b hm1.2.1 hzH1.2.1) (fun H4 locs hpH4 hszH4 hkH4 hS => ?_)
          obtain ⟨r1, q1, hm2, nr, nq⟩ := hpH4
          have hzH2 := hz0.at hAB hS
          have hL2 := lw_mod hLX hzH2 hu hcw ho1 hfr hfq hm2 nr nq hkH4
          refine lv_istore (lv' := [(6, .int (iI 0)), (5, .int (iI 3)), (4, .int (iI i)), (3, .ref o), (2, .ref (w 0)), (1, .ref (u 0)), (0, .ref b)]) hx hb dL_law_855 hl (by decide) rfl (fun ls hl => ?_)
          refine lv_goto (tgt := 2331) hx hb dL_law_857 (by decide) ?_
          exact kk _ _ _ _ _ ⟨_, _, _, _, _, _, _, _, _, _, hL2⟩ hS (by omega) (by omega) (lv_sub hl [2, 3, 4, 5, 6] rfl)
      · refine lv_aload_n hx hb dL_law_808 rfl (lv_at hl 3 rfl) ?_
        refine lv_aload_n hx hb dL_law_809 rfl (lv_at hl 4 rfl) ?_
        refine lv_iload hx hb dL_law_810 (lv_at hl 0 rfl) ?_
        refine q_con hx hb dL_law_812 ?_
        refine q_add hx hb dL_law_813 ?_
        refine r_xld hx hb hX hbl hbA hS (i := i + 1) (z := x1) (by omega) hL ex1 dL_law_814 ?_
        refine lv_aload_n hx hb dL_law_815 rfl (lv_at hl 4 rfl) ?_
        refine lv_iload hx hb dL_law_816 (lv_at hl 0 rfl) ?_
        refine q_con hx hb dL_law_818 ?_
        refine q_add hx hb dL_law_819 ?_
        refine r_xld hx hb hX hbl hbA hS (i := i + 2) (z := x2) (by omega) hL ex2 dL_law_820 ?_
        refine lv_aload_n hx hb dL_law_821 rfl (lv_at hl 4 rfl) ?_
        refine lv_iload hx hb dL_law_822 (lv_at hl 0 rfl) ?_
        refine q_con hx hb dL_law_824 ?_
        refine q_add hx hb dL_law_825 ?_
        refine r_xld hx hb hX hbl hbA hS (i := i + 3) (z := x3) (by omega) hL ex3 dL_law_826 ?_
        refine lv_aload_n hx hb dL_law_827 rfl (lv_at hl 1 rfl) ?_
        refine c_SWr (As := [.ref (u 0), .int (iI x1), .int (iI x2), .int (iI x3), .ref o]) (rest := []) (r := .int (iI 2)) fx hl (wn3_actOften θ l hl0 S0 _ u dt (fun j => sv j 0) (fun j => sv j 1) (fun j => sv j 2) bc rf kn hcr hjH hn o nv sv9 ho hLX.1 x1 x2 x3 n9 (by first | assumption | omega | (dsimp only; first | assumption | omega) | exact Hid.mk (by first | assumption | omega) | exact Hid.mk ⟨fun _ => by first | assumption | omega, fun _ => by first | assumption | omega⟩) (by first | assumption | omega | (dsimp only; first | assumption | omega) | exact Hid.mk (by first | assumption | omega) | exact Hid.mk ⟨fun _ => by first | assumption | omega, fun _ => by first | assumption | omega⟩) (by first | assumption | omega | (dsimp only; first | assumption | omega) | exact Hid.mk (by first | assumption | omega) | exact Hid.mk ⟨fun _ => by first | assumption | omega, fun _ => by first | assumption | omega⟩) (by first | assumption | omega | (dsimp only; first | assumption | omega) | exact Hid.mk (by first | assumption | omega) | exact Hid.mk ⟨fun _ => by first | assumption | omega, fun _ => by first | assumption | omega⟩) (by first | assumption | omega | (dsimp only; first | assumption | omega) | exact Hid.mk (by first | assumption | omega) | exact Hid.mk ⟨fun _ => by first | assumption | omega, fun _ => by first | assumption | omega⟩) (by first | assumption | omega | (dsimp only; first | assumption | omega) | exact Hid.mk (by first | assumption | omega) | exact Hid.mk ⟨fun _ => by first | assumption | omega, fun _ => by first | assumption | omega⟩) (by first | assumption | omega | (dsimp only; first | assumption | omega) | exact Hid.mk (by first | assumption | omega) | exact Hid.mk ⟨fun _ => by first | assumption | omega, fun _ => by first | assumption | omega⟩)) dL_law_828 k818 k819 k0 k820 hd_L_actOften rfl ⟨by omega, by omega⟩ (Nat.le_of_ble_eq_true rfl) ⟨by (try dsimp only); omega, by (try dsimp only); omega⟩ hS (fun x h => h.elim (fun h => h.elim (fun ⟨j, hj, e⟩ => e ▸ hu.2 j hj) (fun h => Nat.le_trans hzH.2.1 h)) (fun e => e ▸ hoθ)) (fun H5 locs hpH5 hszH5 hkH5 hS => ?_)
        obtain ⟨hcw, ho1⟩ := hpH5
        have hzH1 := hz0.at hAB hS
        have hjH1 := hj0.at hAB hS
        have hm1 := lw_cls hLX hw hzH1 hkH5
        refine lv_istore (lv' := [(5, .int (iI 2)), (4, .int (iI i)), (3, .ref o), (2, .ref (w 0)), (1, .ref (u 0)), (0, .ref b)]) hx hb dL_law_831 hl (by decide) rfl (fun ls hl => ?_)
        refine lv_aload_n hx hb dL_law_833 rfl (lv_at hl 3 rfl) ?_
        refine lv_aload_n hx hb dL_law_834 rfl (lv_at hl 5 rfl) ?_
        refine lv_iload hx hb dL_law_835 (lv_at hl 1 rfl) ?_
        refine q_con hx hb dL_law_837 ?_
        refine q_add hx hb dL_law_838 ?_
        refine r_xld hx hb hX hbl hbA hS (i := i + 1) (z := x1) (by omega) hL ex1 dL_law_839 ?_
        refine lv_aload_n hx hb dL_law_840 rfl (lv_at hl 5 rfl) ?_
        refine lv_iload hx hb dL_law_841 (lv_at hl 1 rfl) ?_
        refine q_con hx hb dL_law_843 ?_
        refine q_add hx hb dL_law_844 ?_
        refine r_xld hx hb hX hbl hbA hS (i := i + 2) (z := x2) (by omega) hL ex2 dL_law_845 ?_
        refine lv_aload_n hx hb dL_law_846 rfl (lv_at hl 5 rfl) ?_
        refine lv_iload hx hb dL_law_847 (lv_at hl 1 rfl) ?_
        refine q_con hx hb dL_law_849 ?_
        refine q_add hx hb dL_law_850 ?_
        refine r_xld hx hb hX hbl hbA hS (i := i + 3) (z := x3) (by omega) hL ex3 dL_law_851 ?_
        refine c_Vr (As := [.int (iI x1), .int (iI x2), .int (iI x3)]) (rest := []) (b := w 0) (C := RX3) (r := some (.int (iI 0))) (st1 := [.int (iI 0)]) fx hl (mno3_actOften θ l S0 _ w r q dt sv th bc rf kn hm1 x1 x2 x3 n9 (by first | assumption | omega | (dsimp only; first | assumption | omega) | exact Hid.mk (by first | assumption | omega) | exact Hid.mk ⟨fun _ => by first | assumption | omega, fun _ => by first | assumption | omega⟩) (by first | assumption | omega | (dsimp only; first | assumption | omega) | exact Hid.mk (by first | assumption | omega) | exact Hid.mk ⟨fun _ => by first | assumption | omega, fun _ => by first | assumption | omega⟩) (by first | assumption | omega | (dsimp only; first | assumption | omega) | exact Hid.mk (by first | assumption | omega) | exact Hid.mk ⟨fun _ => by first | assumption | omega, fun _ => by first | assumption | omega⟩) (by first | assumption | omega | (dsimp only; first | assumption | omega) | exact Hid.mk (by first | assumption | omega) | exact Hid.mk ⟨fun _ => by first | assumption | omega, fun _ => by first | assumption | omega⟩) (by first | assumption | omega | (dsimp only; first | assumption | omega) | exact Hid.mk (by first | assumption | omega) | exact Hid.mk ⟨fun _ => by first | assumption | omega, fun _ => by first | assumption | omega⟩) (by first | assumption | omega | (dsimp only; first | assumption | omega) | exact Hid.mk (by first | assumption | omega) | exact Hid.mk ⟨fun _ => by first | assumption | omega, fun _ => by first | assumption | omega⟩) (by first | assumption | omega | (dsimp only; first | assumption | omega) | exact Hid.mk (by first | assumption | omega) | exact Hid.mk ⟨fun _ => by first | assumption | omega, fun _ => by first | assumption | omega⟩)) (ob_recv hK hm1.2.2.1.1 rfl) dL_law_852 k1218 k1219 k1220 k6 k1221 hd_X3_actOften rfl rfl ⟨by omega, by omega⟩ (Nat.le_of_ble_eq_true rfl) ⟨by (try dsimp only); omega, by (try dsimp only); omega⟩ hS (wa_b hm1.2.1 hzH1.2.1) (fun H6 locs hpH6 hszH6 hkH6 hS => ?_)
        obtain ⟨r1, q1, hm2, nr, nq⟩ := hpH6
        have hzH2 := hz0.at hAB hS
        have hL2 := lw_mod hLX hzH2 hu hcw ho1 hfr hfq hm2 nr nq hkH6
        refine lv_istore (lv' := [(6, .int (iI 0)), (5, .int (iI 2)), (4, .int (iI i)), (3, .ref o), (2, .ref (w 0)), (1, .ref (u 0)), (0, .ref b)]) hx hb dL_law_855 hl (by decide) rfl (fun ls hl => ?_)
        refine lv_goto (tgt := 2331) hx hb dL_law_857 (by decide) ?_
        exact kk _ _ _ _ _ ⟨_, _, _, _, _, _, _, _, _, _, hL2⟩ hS (by omega) (by omega) (lv_sub hl [2, 3, 4, 5, 6] rfl)
    · refine lv_aload_n hx hb dL_law_808 rfl (lv_at hl 3 rfl) ?_
      refine lv_aload_n hx hb dL_law_809 rfl (lv_at hl 4 rfl) ?_
      refine lv_iload hx hb dL_law_810 (lv_at hl 0 rfl) ?_
      refine q_con hx hb dL_law_812 ?_
      refine q_add hx hb dL_law_813 ?_
      refine r_xld hx hb hX hbl hbA hS (i := i + 1) (z := x1) (by omega) hL ex1 dL_law_814 ?_
      refine lv_aload_n hx hb dL_law_815 rfl (lv_at hl 4 rfl) ?_
      refine lv_iload hx hb dL_law_816 (lv_at hl 0 rfl) ?_
      refine q_con hx hb dL_law_818 ?_
      refine q_add hx hb dL_law_819 ?_
      refine r_xld hx hb hX hbl hbA hS (i := i + 2) (z := x2) (by omega) hL ex2 dL_law_820 ?_
      refine lv_aload_n hx hb dL_law_821 rfl (lv_at hl 4 rfl) ?_
      refine lv_iload hx hb dL_law_822 (lv_at hl 0 rfl) ?_
      refine q_con hx hb dL_law_824 ?_
      refine q_add hx hb dL_law_825 ?_
      refine r_xld hx hb hX hbl hbA hS (i := i + 3) (z := x3) (by omega) hL ex3 dL_law_826 ?_
      refine lv_aload_n hx hb dL_law_827 rfl (lv_at hl 1 rfl) ?_
      refine c_SWr (As := [.ref (u 0), .int (iI x1), .int (iI x2), .int (iI x3), .ref o]) (rest := []) (r := .int (iI 1)) fx hl (wn2_actOften θ l hl0 S0 _ u dt (fun j => sv j 0) (fun j => sv j 1) (fun j => sv j 2) bc rf kn hcr hjH hn o nv sv9 ho hLX.1 x1 x2 x3 n9 (by first | assumption | omega | (dsimp only; first | assumption | omega) | exact Hid.mk (by first | assumption | omega) | exact Hid.mk ⟨fun _ => by first | assumption | omega, fun _ => by first | assumption | omega⟩) (by first | assumption | omega | (dsimp only; first | assumption | omega) | exact Hid.mk (by first | assumption | omega) | exact Hid.mk ⟨fun _ => by first | assumption | omega, fun _ => by first | assumption | omega⟩) (by first | assumption | omega | (dsimp only; first | assumption | omega) | exact Hid.mk (by first | assumption | omega) | exact Hid.mk ⟨fun _ => by first | assumption | omega, fun _ => by first | assumption | omega⟩) (by first | assumption | omega | (dsimp only; first | assumption | omega) | exact Hid.mk (by first | assumption | omega) | exact Hid.mk ⟨fun _ => by first | assumption | omega, fun _ => by first | assumption | omega⟩) (by first | assumption | omega | (dsimp only; first | assumption | omega) | exact Hid.mk (by first | assumption | omega) | exact Hid.mk ⟨fun _ => by first | assumption | omega, fun _ => by first | assumption | omega⟩) (by first | assumption | omega | (dsimp only; first | assumption | omega) | exact Hid.mk (by first | assumption | omega) | exact Hid.mk ⟨fun _ => by first | assumption | omega, fun _ => by first | assumption | omega⟩)) dL_law_828 k818 k819 k0 k820 hd_L_actOften rfl ⟨by omega, by omega⟩ (Nat.le_of_ble_eq_true rfl) ⟨by (try dsimp only); omega, by (try dsimp only); omega⟩ hS (fun x h => h.elim (fun h => h.elim (fun ⟨j, hj, e⟩ => e ▸ hu.2 j hj) (fun h => Nat.le_trans hzH.2.1 h)) (fun e => e ▸ hoθ)) (fun H7 locs hpH7 hszH7 hkH7 hS => ?_)
      obtain ⟨hcw, ho1⟩ := hpH7
      have hzH1 := hz0.at hAB hS
      have hjH1 := hj0.at hAB hS
      have hm1 := lw_cls hLX hw hzH1 hkH7
      refine lv_istore (lv' := [(5, .int (iI 1)), (4, .int (iI i)), (3, .ref o), (2, .ref (w 0)), (1, .ref (u 0)), (0, .ref b)]) hx hb dL_law_831 hl (by decide) rfl (fun ls hl => ?_)
      refine lv_aload_n hx hb dL_law_833 rfl (lv_at hl 3 rfl) ?_
      refine lv_aload_n hx hb dL_law_834 rfl (lv_at hl 5 rfl) ?_
      refine lv_iload hx hb dL_law_835 (lv_at hl 1 rfl) ?_
      refine q_con hx hb dL_law_837 ?_
      refine q_add hx hb dL_law_838 ?_
      refine r_xld hx hb hX hbl hbA hS (i := i + 1) (z := x1) (by omega) hL ex1 dL_law_839 ?_
      refine lv_aload_n hx hb dL_law_840 rfl (lv_at hl 5 rfl) ?_
      refine lv_iload hx hb dL_law_841 (lv_at hl 1 rfl) ?_
      refine q_con hx hb dL_law_843 ?_
      refine q_add hx hb dL_law_844 ?_
      refine r_xld hx hb hX hbl hbA hS (i := i + 2) (z := x2) (by omega) hL ex2 dL_law_845 ?_
      refine lv_aload_n hx hb dL_law_846 rfl (lv_at hl 5 rfl) ?_
      refine lv_iload hx hb dL_law_847 (lv_at hl 1 rfl) ?_
      refine q_con hx hb dL_law_849 ?_
      refine q_add hx hb dL_law_850 ?_
      refine r_xld hx hb hX hbl hbA hS (i := i + 3) (z := x3) (by omega) hL ex3 dL_law_851 ?_
      refine c_Vr (As := [.int (iI x1), .int (iI x2), .int (iI x3)]) (rest := []) (b := w 0) (C := RX3) (r := some (.int (iI 0))) (st1 := [.int (iI 0)]) fx hl (mno2_actOften θ l S0 _ w r q dt sv th bc rf kn hm1 x1 x2 x3 n9 (by first | assumption | omega | (dsimp only; first | assumption | omega) | exact Hid.mk (by first | assumption | omega) | exact Hid.mk ⟨fun _ => by first | assumption | omega, fun _ => by first | assumption | omega⟩) (by first | assumption | omega | (dsimp only; first | assumption | omega) | exact Hid.mk (by first | assumption | omega) | exact Hid.mk ⟨fun _ => by first | assumption | omega, fun _ => by first | assumption | omega⟩) (by first | assumption | omega | (dsimp only; first | assumption | omega) | exact Hid.mk (by first | assumption | omega) | exact Hid.mk ⟨fun _ => by first | assumption | omega, fun _ => by first | assumption | omega⟩) (by first | assumption | omega | (dsimp only; first | assumption | omega) | exact Hid.mk (by first | assumption | omega) | exact Hid.mk ⟨fun _ => by first | assumption | omega, fun _ => by first | assumption | omega⟩) (by first | assumption | omega | (dsimp only; first | assumption | omega) | exact Hid.mk (by first | assumption | omega) | exact Hid.mk ⟨fun _ => by first | assumption | omega, fun _ => by first | assumption | omega⟩) (by first | assumption | omega | (dsimp only; first | assumption | omega) | exact Hid.mk (by first | assumption | omega) | exact Hid.mk ⟨fun _ => by first | assumption | omega, fun _ => by first | assumption | omega⟩)) (ob_recv hK hm1.2.2.1.1 rfl) dL_law_852 k1218 k1219 k1220 k6 k1221 hd_X3_actOften rfl rfl ⟨by omega, by omega⟩ (Nat.le_of_ble_eq_true rfl) ⟨by (try dsimp only); omega, by (try dsimp only); omega⟩ hS (wa_b hm1.2.1 hzH1.2.1) (fun H8 locs hpH8 hszH8 hkH8 hS => ?_)
      obtain ⟨r1, q1, hm2, nr, nq⟩ := hpH8
      have hzH2 := hz0.at hAB hS
      have hL2 := lw_mod hLX hzH2 hu hcw ho1 hfr hfq hm2 nr nq hkH8
      refine lv_istore (lv' := [(6, .int (iI 0)), (5, .int (iI 1)), (4, .int (iI i)), (3, .ref o), (2, .ref (w 0)), (1, .ref (u 0)), (0, .ref b)]) hx hb dL_law_855 hl (by decide) rfl (fun ls hl => ?_)
      refine lv_goto (tgt := 2331) hx hb dL_law_857 (by decide) ?_
      exact kk _ _ _ _ _ ⟨_, _, _, _, _, _, _, _, _, _, hL2⟩ hS (by omega) (by omega) (lv_sub hl [2, 3, 4, 5, 6] rfl)
  · refine lv_aload_n hx hb dL_law_808 rfl (lv_at hl 3 rfl) ?_
    refine lv_aload_n hx hb dL_law_809 rfl (lv_at hl 4 rfl) ?_
    refine lv_iload hx hb dL_law_810 (lv_at hl 0 rfl) ?_
    refine q_con hx hb dL_law_812 ?_
    refine q_add hx hb dL_law_813 ?_
    refine r_xld hx hb hX hbl hbA hS (i := i + 1) (z := x1) (by omega) hL ex1 dL_law_814 ?_
    refine lv_aload_n hx hb dL_law_815 rfl (lv_at hl 4 rfl) ?_
    refine lv_iload hx hb dL_law_816 (lv_at hl 0 rfl) ?_
    refine q_con hx hb dL_law_818 ?_
    refine q_add hx hb dL_law_819 ?_
    refine r_xld hx hb hX hbl hbA hS (i := i + 2) (z := x2) (by omega) hL ex2 dL_law_820 ?_
    refine lv_aload_n hx hb dL_law_821 rfl (lv_at hl 4 rfl) ?_
    refine lv_iload hx hb dL_law_822 (lv_at hl 0 rfl) ?_
    refine q_con hx hb dL_law_824 ?_
    refine q_add hx hb dL_law_825 ?_
    refine r_xld hx hb hX hbl hbA hS (i := i + 3) (z := x3) (by omega) hL ex3 dL_law_826 ?_
    refine lv_aload_n hx hb dL_law_827 rfl (lv_at hl 1 rfl) ?_
    refine c_SWr (As := [.ref (u 0), .int (iI x1), .int (iI x2), .int (iI x3), .ref o]) (rest := []) (r := .int (iI 1)) fx hl (wn1_actOften θ l hl0 S0 _ u dt (fun j => sv j 0) (fun j => sv j 1) (fun j => sv j 2) bc rf kn hcr hjH hn o nv sv9 ho hLX.1 x1 x2 x3 n9 (by first | assumption | omega | (dsimp only; first | assumption | omega) | exact Hid.mk (by first | assumption | omega) | exact Hid.mk ⟨fun _ => by first | assumption | omega, fun _ => by first | assumption | omega⟩) (by first | assumption | omega | (dsimp only; first | assumption | omega) | exact Hid.mk (by first | assumption | omega) | exact Hid.mk ⟨fun _ => by first | assumption | omega, fun _ => by first | assumption | omega⟩) (by first | assumption | omega | (dsimp only; first | assumption | omega) | exact Hid.mk (by first | assumption | omega) | exact Hid.mk ⟨fun _ => by first | assumption | omega, fun _ => by first | assumption | omega⟩) (by first | assumption | omega | (dsimp only; first | assumption | omega) | exact Hid.mk (by first | assumption | omega) | exact Hid.mk ⟨fun _ => by first | assumption | omega, fun _ => by first | assumption | omega⟩) (by first | assumption | omega | (dsimp only; first | assumption | omega) | exact Hid.mk (by first | assumption | omega) | exact Hid.mk ⟨fun _ => by first | assumption | omega, fun _ => by first | assumption | omega⟩)) dL_law_828 k818 k819 k0 k820 hd_L_actOften rfl ⟨by omega, by omega⟩ (Nat.le_of_ble_eq_true rfl) ⟨by (try dsimp only); omega, by (try dsimp only); omega⟩ hS (fun x h => h.elim (fun h => h.elim (fun ⟨j, hj, e⟩ => e ▸ hu.2 j hj) (fun h => Nat.le_trans hzH.2.1 h)) (fun e => e ▸ hoθ)) (fun H9 locs hpH9 hszH9 hkH9 hS => ?_)
    obtain ⟨hcw, ho1⟩ := hpH9
    have hzH1 := hz0.at hAB hS
    have hjH1 := hj0.at hAB hS
    have hm1 := lw_cls hLX hw hzH1 hkH9
    refine lv_istore (lv' := [(5, .int (iI 1)), (4, .int (iI i)), (3, .ref o), (2, .ref (w 0)), (1, .ref (u 0)), (0, .ref b)]) hx hb dL_law_831 hl (by decide) rfl (fun ls hl => ?_)
    refine lv_aload_n hx hb dL_law_833 rfl (lv_at hl 3 rfl) ?_
    refine lv_aload_n hx hb dL_law_834 rfl (lv_at hl 5 rfl) ?_
    refine lv_iload hx hb dL_law_835 (lv_at hl 1 rfl) ?_
    refine q_con hx hb dL_law_837 ?_
    refine q_add hx hb dL_law_838 ?_
    refine r_xld hx hb hX hbl hbA hS (i := i + 1) (z := x1) (by omega) hL ex1 dL_law_839 ?_
    refine lv_aload_n hx hb dL_law_840 rfl (lv_at hl 5 rfl) ?_
    refine lv_iload hx hb dL_law_841 (lv_at hl 1 rfl) ?_
    refine q_con hx hb dL_law_843 ?_
    refine q_add hx hb dL_law_844 ?_
    refine r_xld hx hb hX hbl hbA hS (i := i + 2) (z := x2) (by omega) hL ex2 dL_law_845 ?_
    refine lv_aload_n hx hb dL_law_846 rfl (lv_at hl 5 rfl) ?_
    refine lv_iload hx hb dL_law_847 (lv_at hl 1 rfl) ?_
    refine q_con hx hb dL_law_849 ?_
    refine q_add hx hb dL_law_850 ?_
    refine r_xld hx hb hX hbl hbA hS (i := i + 3) (z := x3) (by omega) hL ex3 dL_law_851 ?_
    refine c_Vr (As := [.int (iI x1), .int (iI x2), .int (iI x3)]) (rest := []) (b := w 0) (C := RX3) (r := some (.int (iI 0))) (st1 := [.int (iI 0)]) fx hl (mno1_actOften θ l S0 _ w r q dt sv th bc rf kn hm1 x1 x2 x3 n9 (by first | assumption | omega | (dsimp only; first | assumption | omega) | exact Hid.mk (by first | assumption | omega) | exact Hid.mk ⟨fun _ => by first | assumption | omega, fun _ => by first | assumption | omega⟩) (by first | assumption | omega | (dsimp only; first | assumption | omega) | exact Hid.mk (by first | assumption | omega) | exact Hid.mk ⟨fun _ => by first | assumption | omega, fun _ => by first | assumption | omega⟩) (by first | assumption | omega | (dsimp only; first | assumption | omega) | exact Hid.mk (by first | assumption | omega) | exact Hid.mk ⟨fun _ => by first | assumption | omega, fun _ => by first | assumption | omega⟩) (by first | assumption | omega | (dsimp only; first | assumption | omega) | exact Hid.mk (by first | assumption | omega) | exact Hid.mk ⟨fun _ => by first | assumption | omega, fun _ => by first | assumption | omega⟩) (by first | assumption | omega | (dsimp only; first | assumption | omega) | exact Hid.mk (by first | assumption | omega) | exact Hid.mk ⟨fun _ => by first | assumption | omega, fun _ => by first | assumption | omega⟩)) (ob_recv hK hm1.2.2.1.1 rfl) dL_law_852 k1218 k1219 k1220 k6 k1221 hd_X3_actOften rfl rfl ⟨by omega, by omega⟩ (Nat.le_of_ble_eq_true rfl) ⟨by (try dsimp only); omega, by (try dsimp only); omega⟩ hS (wa_b hm1.2.1 hzH1.2.1) (fun H10 locs hpH10 hszH10 hkH10 hS => ?_)
    obtain ⟨r1, q1, hm2, nr, nq⟩ := hpH10
    have hzH2 := hz0.at hAB hS
    have hL2 := lw_mod hLX hzH2 hu hcw ho1 hfr hfq hm2 nr nq hkH10
    refine lv_istore (lv' := [(6, .int (iI 0)), (5, .int (iI 1)), (4, .int (iI i)), (3, .ref o), (2, .ref (w 0)), (1, .ref (u 0)), (0, .ref b)]) hx hb dL_law_855 hl (by decide) rfl (fun ls hl => ?_)
    refine lv_goto (tgt := 2331) hx hb dL_law_857 (by decide) ?_
    exact kk _ _ _ _ _ ⟨_, _, _, _, _, _, _, _, _, _, hL2⟩ hS (by omega) (by omega) (lv_sub hl [2, 3, 4, 5, 6] rfl)

set_option maxHeartbeats 4000000 in
set_option maxRecDepth 100000 in
theorem lc_span {p : Program} {l : Launch} {e : Env} {R : Room} {s : State} {m : MethodId} {args : Array Value} {below : List Frame} {meth : Method} {c : Code} {Q : State → Prop} {θ : TH} {S0 : State} (fx : FX p m c cL_law 7 s args yL_law.cls S0) (hl0 : l.stackTraces = false) (hz0 : SZ θ S0 s.heap) (hj0 : SJ θ S0 s.heap) (hn : NX S0) {u w : Nat → Nat} {o b L : Nat} {xs : Nat → Int32} (hLX : LX u w o) (hoθ : θ.2.2.2 ≤ o) (hX : va_X b L xs s s.heap) (hbl : b < s.heap.size) (hbA : ¬ AJ θ b) (hL : L ≤ 2560) (hRF : 1000 ≤ R.frames ∧ 1000 ≤ R.locals) {H : Heap} {locs : List Loc} {cells slots : Nat} {ls : Array Slot} {i : Int} (hi : 0 ≤ i ∧ i + 5 ≤ (L : Int)) (hw : LWE θ S0 u w o H) (hS : va_S (AJ θ) s.heap H locs) (hRc : cells + 400 ≤ R.cells ∧ slots + 7000 ≤ R.slots) (hl : lv_has ls 7 [(4, .int (iI i)), (3, .ref o), (2, .ref (w 0)), (1, .ref (u 0)), (0, .ref b)]) (kk : LK p l e R s m args below meth c Q θ S0 u w o b i cells slots 2331) : W p l e R s m args below meth c H locs cells slots Q (F0 m 860 ls []) := by
  obtain ⟨hx, hb, hml, hown, hts⟩ := id fx.1
  have hAB : ∀ x : Nat, AJ θ x → θ.2.2.2 ≤ x := fun _ h => h
  obtain ⟨r, q, dt, sv, th, bc, rf, kn, nv, sv9, hw⟩ := hw
  obtain ⟨hcr, hmr, ho, hfr, hfq⟩ := id hw
  have hzH := hz0.at hAB hS
  have hjH := hj0.at hAB hS
  have hK := sz_K fx.2 hz0
  have hu := hcr.2.1
  obtain ⟨x1, ex1⟩ : ∃ z : Int, z = (xs (i + 1).toNat).toInt := ⟨_, rfl⟩
  have bx1 := x32_b ex1
  obtain ⟨x2, ex2⟩ : ∃ z : Int, z = (xs (i + 2).toNat).toInt := ⟨_, rfl⟩
  have bx2 := x32_b ex2
  obtain ⟨x3, ex3⟩ : ∃ z : Int, z = (xs (i + 3).toNat).toInt := ⟨_, rfl⟩
  have bx3 := x32_b ex3
  obtain ⟨x4, ex4⟩ : ∃ z : Int, z = (xs (i + 4).toNat).toInt := ⟨_, rfl⟩
  have bx4 := x32_b ex4
  by_cases hc1 : 0 ≤ x1 ∧ x1 < 3
  · by_cases hc2 : -20000 ≤ x2 ∧ x2 ≤ 20000
    · by_cases hc3 : -240000 ≤ x3 ∧ x3 ≤ 240000
      · by_cases hc4 : -100000 ≤ x4 ∧ x4 ≤ 100000
        · refine lv_aload_n hx hb dL_law_860 rfl (lv_at hl 3 rfl) ?_
          refine lv_aload_n hx hb dL_law_861 rfl (lv_at hl 4 rfl) ?_
          refine lv_iload hx hb dL_law_862 (lv_at hl 0 rfl) ?_
          refine q_con hx hb dL_law_864 ?_
          refine q_add hx hb dL_law_865 ?_
          refine r_xld hx hb hX hbl hbA hS (i := i + 1) (z := x1) (by omega) hL ex1 dL_law_866 ?_
          refine lv_aload_n hx hb dL_law_867 rfl (lv_at hl 4 rfl) ?_
          refine lv_iload hx hb dL_law_868 (lv_at hl 0 rfl) ?_
          refine q_con hx hb dL_law_870 ?_
          refine q_add hx hb dL_law_871 ?_
          refine r_xld hx hb hX hbl hbA hS (i := i + 2) (z := x2) (by omega) hL ex2 dL_law_872 ?_
          refine lv_aload_n hx hb dL_law_873 rfl (lv_at hl 4 rfl) ?_
          refine lv_iload hx hb dL_law_874 (lv_at hl 0 rfl) ?_
          refine q_con hx hb dL_law_876 ?_
          refine q_add hx hb dL_law_877 ?_
          refine r_xld hx hb hX hbl hbA hS (i := i + 3) (z := x3) (by omega) hL ex3 dL_law_878 ?_
          refine lv_aload_n hx hb dL_law_879 rfl (lv_at hl 4 rfl) ?_
          refine lv_iload hx hb dL_law_880 (lv_at hl 0 rfl) ?_
          refine q_con hx hb dL_law_882 ?_
          refine q_add hx hb dL_law_883 ?_
          refine r_xld hx hb hX hbl hbA hS (i := i + 4) (z := x4) (by omega) hL ex4 dL_law_884 ?_
          refine lv_aload_n hx hb dL_law_885 rfl (lv_at hl 1 rfl) ?_
          refine c_SWr (As := [.ref (u 0), .int (iI x1), .int (iI x2), .int (iI x3), .int (iI x4), .ref o]) (rest := []) (r := .int (iI 0)) fx hl (wr_span θ l hl0 S0 _ u dt (fun j => sv j 0) (fun j => sv j 1) (fun j => sv j 2) bc rf kn hcr hjH hn o nv sv9 ho hLX.1 x1 x2 x3 x4 (by first | assumption | omega | (dsimp only; first | assumption | omega) | exact Hid.mk (by first | assumption | omega) | exact Hid.mk ⟨fun _ => by first | assumption | omega, fun _ => by first | assumption | omega⟩) (by first | assumption | omega | (dsimp only; first | assumption | omega) | exact Hid.mk (by first | assumption | omega) | exact Hid.mk ⟨fun _ => by first | assumption | omega, fun _ => by first | assumption | omega⟩) (by first | assumption | omega | (dsimp only; first | assumption | omega) | exact Hid.mk (by first | assumption | omega) | exact Hid.mk ⟨fun _ => by first | assumption | omega, fun _ => by first | assumption | omega⟩) (by first | assumption | omega | (dsimp only; first | assumption | omega) | exact Hid.mk (by first | assumption | omega) | exact Hid.mk ⟨fun _ => by first | assumption | omega, fun _ => by first | assumption | omega⟩) (by first | assumption | omega | (dsimp only; first | assumption | omega) | exact Hid.mk (by first | assumption | omega) | exact Hid.mk ⟨fun _ => by first | assumption | omega, fun _ => by first | assumption | omega⟩) (by first | assumption | omega | (dsimp only; first | assumption | omega) | exact Hid.mk (by first | assumption | omega) | exact Hid.mk ⟨fun _ => by first | assumption | omega, fun _ => by first | assumption | omega⟩) (by first | assumption | omega | (dsimp only; first | assumption | omega) | exact Hid.mk (by first | assumption | omega) | exact Hid.mk ⟨fun _ => by first | assumption | omega, fun _ => by first | assumption | omega⟩) (by first | assumption | omega | (dsimp only; first | assumption | omega) | exact Hid.mk (by first | assumption | omega) | exact Hid.mk ⟨fun _ => by first | assumption | omega, fun _ => by first | assumption | omega⟩)) dL_law_886 k825 k826 k0 k827 hd_L_span rfl ⟨by omega, by omega⟩ (Nat.le_of_ble_eq_true rfl) ⟨by (try dsimp only); omega, by (try dsimp only); omega⟩ hS (fun x h => h.elim (fun h => h.elim (fun ⟨j, hj, e⟩ => e ▸ hu.2 j hj) (fun h => Nat.le_trans hzH.2.1 h)) (fun e => e ▸ hoθ)) (fun H1 locs hpH1 hszH1 hkH1 hS => ?_)
          obtain ⟨hcw, ho1⟩ := hpH1
          have hzH1 := hz0.at hAB hS
          have hjH1 := hj0.at hAB hS
          have hm1 := lw_cls hLX hw hzH1 hkH1
          refine lv_istore (lv' := [(5, .int (iI 0)), (4, .int (iI i)), (3, .ref o), (2, .ref (w 0)), (1, .ref (u 0)), (0, .ref b)]) hx hb dL_law_889 hl (by decide) rfl (fun ls hl => ?_)
          refine lv_aload_n hx hb dL_law_891 rfl (lv_at hl 3 rfl) ?_
          refine lv_aload_n hx hb dL_law_892 rfl (lv_at hl 5 rfl) ?_
          refine lv_iload hx hb dL_law_893 (lv_at hl 1 rfl) ?_
          refine q_con hx hb dL_law_895 ?_
          refine q_add hx hb dL_law_896 ?_
          refine r_xld hx hb hX hbl hbA hS (i := i + 1) (z := x1) (by omega) hL ex1 dL_law_897 ?_
          refine lv_aload_n hx hb dL_law_898 rfl (lv_at hl 5 rfl) ?_
          refine lv_iload hx hb dL_law_899 (lv_at hl 1 rfl) ?_
          refine q_con hx hb dL_law_901 ?_
          refine q_add hx hb dL_law_902 ?_
          refine r_xld hx hb hX hbl hbA hS (i := i + 2) (z := x2) (by omega) hL ex2 dL_law_903 ?_
          refine lv_aload_n hx hb dL_law_904 rfl (lv_at hl 5 rfl) ?_
          refine lv_iload hx hb dL_law_905 (lv_at hl 1 rfl) ?_
          refine q_con hx hb dL_law_907 ?_
          refine q_add hx hb dL_law_908 ?_
          refine r_xld hx hb hX hbl hbA hS (i := i + 3) (z := x3) (by omega) hL ex3 dL_law_909 ?_
          refine lv_aload_n hx hb dL_law_910 rfl (lv_at hl 5 rfl) ?_
          refine lv_iload hx hb dL_law_911 (lv_at hl 1 rfl) ?_
          refine q_con hx hb dL_law_913 ?_
          refine q_add hx hb dL_law_914 ?_
          refine r_xld hx hb hX hbl hbA hS (i := i + 4) (z := x4) (by omega) hL ex4 dL_law_915 ?_
          refine c_Vr (As := [.int (iI x1), .int (iI x2), .int (iI x3), .int (iI x4)]) (rest := []) (b := w 0) (C := RX3) (r := some (.int (iI (12 * x2 + x3)))) (st1 := [.int (iI (12 * x2 + x3))]) fx hl (mok_span θ l S0 _ w r q dt sv th bc rf kn hm1 x1 x2 x3 x4 (by first | assumption | omega | (dsimp only; first | assumption | omega) | exact Hid.mk (by first | assumption | omega) | exact Hid.mk ⟨fun _ => by first | assumption | omega, fun _ => by first | assumption | omega⟩) (by first | assumption | omega | (dsimp only; first | assumption | omega) | exact Hid.mk (by first | assumption | omega) | exact Hid.mk ⟨fun _ => by first | assumption | omega, fun _ => by first | assumption | omega⟩) (by first | assumption | omega | (dsimp only; first | assumption | omega) | exact Hid.mk (by first | assumption | omega) | exact Hid.mk ⟨fun _ => by first | assumption | omega, fun _ => by first | assumption | omega⟩) (by first | assumption | omega | (dsimp only; first | assumption | omega) | exact Hid.mk (by first | assumption | omega) | exact Hid.mk ⟨fun _ => by first | assumption | omega, fun _ => by first | assumption | omega⟩) (by first | assumption | omega | (dsimp only; first | assumption | omega) | exact Hid.mk (by first | assumption | omega) | exact Hid.mk ⟨fun _ => by first | assumption | omega, fun _ => by first | assumption | omega⟩) (by first | assumption | omega | (dsimp only; first | assumption | omega) | exact Hid.mk (by first | assumption | omega) | exact Hid.mk ⟨fun _ => by first | assumption | omega, fun _ => by first | assumption | omega⟩) (by first | assumption | omega | (dsimp only; first | assumption | omega) | exact Hid.mk (by first | assumption | omega) | exact Hid.mk ⟨fun _ => by first | assumption | omega, fun _ => by first | assumption | omega⟩) (by first | assumption | omega | (dsimp only; first | assumption | omega) | exact Hid.mk (by first | assumption | omega) | exact Hid.mk ⟨fun _ => by first | assumption | omega, fun _ => by first | assumption | omega⟩)) (ob_recv hK hm1.2.2.1.1 rfl) dL_law_916 k1222 k1223 k1224 k6 k1225 hd_X3_span rfl rfl ⟨by omega, by omega⟩ (Nat.le_of_ble_eq_true rfl) ⟨by (try dsimp only); omega, by (try dsimp only); omega⟩ hS (wa_b hm1.2.1 hzH1.2.1) (fun H2 locs hpH2 hszH2 hkH2 hS => ?_)
          obtain ⟨r1, q1, hm2, nr, nq⟩ := hpH2
          have hzH2 := hz0.at hAB hS
          have hcw : CW θ u H1 dt (fun j => up sv x1.toNat (tri x2 x3 x4) j 0) (fun j => up sv x1.toNat (tri x2 x3 x4) j 1) (fun j => up sv x1.toNat (tri x2 x3 x4) j 2) (bc + 1) rf kn := by rw [← up_tri0 sv x1.toNat x2 x3 x4, ← up_tri1 sv x1.toNat x2 x3 x4, ← up_tri2 sv x1.toNat x2 x3 x4]; exact hcw
          have hL2 := lw_mod hLX hzH2 hu hcw ho1 hfr hfq hm2 nr nq hkH2
          refine q_nm (fun z3 ez3 => ?_)
          refine lv_istore (lv' := [(6, .int (iI z3)), (5, .int (iI 0)), (4, .int (iI i)), (3, .ref o), (2, .ref (w 0)), (1, .ref (u 0)), (0, .ref b)]) hx hb dL_law_919 hl (by decide) rfl (fun ls hl => ?_)
          refine lv_goto (tgt := 2331) hx hb dL_law_921 (by decide) ?_
          exact kk _ _ _ _ _ ⟨_, _, _, _, _, _, _, _, _, _, hL2⟩ hS (by omega) (by omega) (lv_sub hl [2, 3, 4, 5, 6] rfl)
        · refine lv_aload_n hx hb dL_law_860 rfl (lv_at hl 3 rfl) ?_
          refine lv_aload_n hx hb dL_law_861 rfl (lv_at hl 4 rfl) ?_
          refine lv_iload hx hb dL_law_862 (lv_at hl 0 rfl) ?_
          refine q_con hx hb dL_law_864 ?_
          refine q_add hx hb dL_law_865 ?_
          refine r_xld hx hb hX hbl hbA hS (i := i + 1) (z := x1) (by omega) hL ex1 dL_law_866 ?_
          refine lv_aload_n hx hb dL_law_867 rfl (lv_at hl 4 rfl) ?_
          refine lv_iload hx hb dL_law_868 (lv_at hl 0 rfl) ?_
          refine q_con hx hb dL_law_870 ?_
          refine q_add hx hb dL_law_871 ?_
          refine r_xld hx hb hX hbl hbA hS (i := i + 2) (z := x2) (by omega) hL ex2 dL_law_872 ?_
          refine lv_aload_n hx hb dL_law_873 rfl (lv_at hl 4 rfl) ?_
          refine lv_iload hx hb dL_law_874 (lv_at hl 0 rfl) ?_
          refine q_con hx hb dL_law_876 ?_
          refine q_add hx hb dL_law_877 ?_
          refine r_xld hx hb hX hbl hbA hS (i := i + 3) (z := x3) (by omega) hL ex3 dL_law_878 ?_
          refine lv_aload_n hx hb dL_law_879 rfl (lv_at hl 4 rfl) ?_
          refine lv_iload hx hb dL_law_880 (lv_at hl 0 rfl) ?_
          refine q_con hx hb dL_law_882 ?_
          refine q_add hx hb dL_law_883 ?_
          refine r_xld hx hb hX hbl hbA hS (i := i + 4) (z := x4) (by omega) hL ex4 dL_law_884 ?_
          refine lv_aload_n hx hb dL_law_885 rfl (lv_at hl 1 rfl) ?_
          refine c_SWr (As := [.ref (u 0), .int (iI x1), .int (iI x2), .int (iI x3), .int (iI x4), .ref o]) (rest := []) (r := .int (iI 2)) fx hl (wn4_span θ l hl0 S0 _ u dt (fun j => sv j 0) (fun j => sv j 1) (fun j => sv j 2) bc rf kn hcr hjH hn o nv sv9 ho hLX.1 x1 x2 x3 x4 (by first | assumption | omega | (dsimp only; first | assumption | omega) | exact Hid.mk (by first | assumption | omega) | exact Hid.mk ⟨fun _ => by first | assumption | omega, fun _ => by first | assumption | omega⟩) (by first | assumption | omega | (dsimp only; first | assumption | omega) | exact Hid.mk (by first | assumption | omega) | exact Hid.mk ⟨fun _ => by first | assumption | omega, fun _ => by first | assumption | omega⟩) (by first | assumption | omega | (dsimp only; first | assumption | omega) | exact Hid.mk (by first | assumption | omega) | exact Hid.mk ⟨fun _ => by first | assumption | omega, fun _ => by first | assumption | omega⟩) (by first | assumption | omega | (dsimp only; first | assumption | omega) | exact Hid.mk (by first | assumption | omega) | exact Hid.mk ⟨fun _ => by first | assumption | omega, fun _ => by first | assumption | omega⟩) (by first | assumption | omega | (dsimp only; first | assumption | omega) | exact Hid.mk (by first | assumption | omega) | exact Hid.mk ⟨fun _ => by first | assumption | omega, fun _ => by first | assumption | omega⟩) (by first | assumption | omega | (dsimp only; first | assumption | omega) | exact Hid.mk (by first | assumption | omega) | exact Hid.mk ⟨fun _ => by first | assumption | omega, fun _ => by first | assumption | omega⟩) (by first | assumption | omega | (dsimp only; first | assumption | omega) | exact Hid.mk (by first | assumption | omega) | exact Hid.mk ⟨fun _ => by first | assumption | omega, fun _ => by first | assumption | omega⟩) (by first | assumption | omega | (dsimp only; first | assumption | omega) | exact Hid.mk (by first | assumption | omega) | exact Hid.mk ⟨fun _ => by first | assumption | omega, fun _ => by first | assumption | omega⟩)) dL_law_886 k825 k826 k0 k827 hd_L_span rfl ⟨by omega, by omega⟩ (Nat.le_of_ble_eq_true rfl) ⟨by (try dsimp only); omega, by (try dsimp only); omega⟩ hS (fun x h => h.elim (fun h => h.elim (fun ⟨j, hj, e⟩ => e ▸ hu.2 j hj) (fun h => Nat.le_trans hzH.2.1 h)) (fun e => e ▸ hoθ)) (fun H4 locs hpH4 hszH4 hkH4 hS => ?_)
          obtain ⟨hcw, ho1⟩ := hpH4
          have hzH1 := hz0.at hAB hS
          have hjH1 := hj0.at hAB hS
          have hm1 := lw_cls hLX hw hzH1 hkH4
          refine lv_istore (lv' := [(5, .int (iI 2)), (4, .int (iI i)), (3, .ref o), (2, .ref (w 0)), (1, .ref (u 0)), (0, .ref b)]) hx hb dL_law_889 hl (by decide) rfl (fun ls hl => ?_)
          refine lv_aload_n hx hb dL_law_891 rfl (lv_at hl 3 rfl) ?_
          refine lv_aload_n hx hb dL_law_892 rfl (lv_at hl 5 rfl) ?_
          refine lv_iload hx hb dL_law_893 (lv_at hl 1 rfl) ?_
          refine q_con hx hb dL_law_895 ?_
          refine q_add hx hb dL_law_896 ?_
          refine r_xld hx hb hX hbl hbA hS (i := i + 1) (z := x1) (by omega) hL ex1 dL_law_897 ?_
          refine lv_aload_n hx hb dL_law_898 rfl (lv_at hl 5 rfl) ?_
          refine lv_iload hx hb dL_law_899 (lv_at hl 1 rfl) ?_
          refine q_con hx hb dL_law_901 ?_
          refine q_add hx hb dL_law_902 ?_
          refine r_xld hx hb hX hbl hbA hS (i := i + 2) (z := x2) (by omega) hL ex2 dL_law_903 ?_
          refine lv_aload_n hx hb dL_law_904 rfl (lv_at hl 5 rfl) ?_
          refine lv_iload hx hb dL_law_905 (lv_at hl 1 rfl) ?_
          refine q_con hx hb dL_law_907 ?_
          refine q_add hx hb dL_law_908 ?_
          refine r_xld hx hb hX hbl hbA hS (i := i + 3) (z := x3) (by omega) hL ex3 dL_law_909 ?_
          refine lv_aload_n hx hb dL_law_910 rfl (lv_at hl 5 rfl) ?_
          refine lv_iload hx hb dL_law_911 (lv_at hl 1 rfl) ?_
          refine q_con hx hb dL_law_913 ?_
          refine q_add hx hb dL_law_914 ?_
          refine r_xld hx hb hX hbl hbA hS (i := i + 4) (z := x4) (by omega) hL ex4 dL_law_915 ?_
          refine c_Vr (As := [.int (iI x1), .int (iI x2), .int (iI x3), .int (iI x4)]) (rest := []) (b := w 0) (C := RX3) (r := some (.int (iI 0))) (st1 := [.int (iI 0)]) fx hl (mno4_span θ l S0 _ w r q dt sv th bc rf kn hm1 x1 x2 x3 x4 (by first | assumption | omega | (dsimp only; first | assumption | omega) | exact Hid.mk (by first | assumption | omega) | exact Hid.mk ⟨fun _ => by first | assumption | omega, fun _ => by first | assumption | omega⟩) (by first | assumption | omega | (dsimp only; first | assumption | omega) | exact Hid.mk (by first | assumption | omega) | exact Hid.mk ⟨fun _ => by first | assumption | omega, fun _ => by first | assumption | omega⟩) (by first | assumption | omega | (dsimp only; first | assumption | omega) | exact Hid.mk (by first | assumption | omega) | exact Hid.mk ⟨fun _ => by first | assumption | omega, fun _ => by first | assumption | omega⟩) (by first | assumption | omega | (dsimp only; first | assumption | omega) | exact Hid.mk (by first | assumption | omega) | exact Hid.mk ⟨fun _ => by first | assumption | omega, fun _ => by first | assumption | omega⟩) (by first | assumption | omega | (dsimp only; first | assumption | omega) | exact Hid.mk (by first | assumption | omega) | exact Hid.mk ⟨fun _ => by first | assumption | omega, fun _ => by first | assumption | omega⟩) (by first | assumption | omega | (dsimp only; first | assumption | omega) | exact Hid.mk (by first | assumption | omega) | exact Hid.mk ⟨fun _ => by first | assumption | omega, fun _ => by first | assumption | omega⟩) (by first | assumption | omega | (dsimp only; first | assumption | omega) | exact Hid.mk (by first | assumption | omega) | exact Hid.mk ⟨fun _ => by first | assumption | omega, fun _ => by first | assumption | omega⟩) (by first | assumption | omega | (dsimp only; first | assumption | omega) | exact Hid.mk (by first | assumption | omega) | exact Hid.mk ⟨fun _ => by first | assumption | omega, fun _ => by first | assumption | omega⟩)) (ob_recv hK hm1.2.2.1.1 rfl) dL_law_916 k1222 k1223 k1224 k6 k1225 hd_X3_span rfl rfl ⟨by omega, by omega⟩ (Nat.le_of_ble_eq_true rfl) ⟨by (try dsimp only); omega, by (try dsimp only); omega⟩ hS (wa_b hm1.2.1 hzH1.2.1) (fun H5 locs hpH5 hszH5 hkH5 hS => ?_)
          obtain ⟨r1, q1, hm2, nr, nq⟩ := hpH5
          have hzH2 := hz0.at hAB hS
          have hL2 := lw_mod hLX hzH2 hu hcw ho1 hfr hfq hm2 nr nq hkH5
          refine lv_istore (lv' := [(6, .int (iI 0)), (5, .int (iI 2)), (4, .int (iI i)), (3, .ref o), (2, .ref (w 0)), (1, .ref (u 0)), (0, .ref b)]) hx hb dL_law_919 hl (by decide) rfl (fun ls hl => ?_)
          refine lv_goto (tgt := 2331) hx hb dL_law_921 (by decide) ?_
          exact kk _ _ _ _ _ ⟨_, _, _, _, _, _, _, _, _, _, hL2⟩ hS (by omega) (by omega) (lv_sub hl [2, 3, 4, 5, 6] rfl)
      · refine lv_aload_n hx hb dL_law_860 rfl (lv_at hl 3 rfl) ?_
        refine lv_aload_n hx hb dL_law_861 rfl (lv_at hl 4 rfl) ?_
        refine lv_iload hx hb dL_law_862 (lv_at hl 0 rfl) ?_
        refine q_con hx hb dL_law_864 ?_
        refine q_add hx hb dL_law_865 ?_
        refine r_xld hx hb hX hbl hbA hS (i := i + 1) (z := x1) (by omega) hL ex1 dL_law_866 ?_
        refine lv_aload_n hx hb dL_law_867 rfl (lv_at hl 4 rfl) ?_
        refine lv_iload hx hb dL_law_868 (lv_at hl 0 rfl) ?_
        refine q_con hx hb dL_law_870 ?_
        refine q_add hx hb dL_law_871 ?_
        refine r_xld hx hb hX hbl hbA hS (i := i + 2) (z := x2) (by omega) hL ex2 dL_law_872 ?_
        refine lv_aload_n hx hb dL_law_873 rfl (lv_at hl 4 rfl) ?_
        refine lv_iload hx hb dL_law_874 (lv_at hl 0 rfl) ?_
        refine q_con hx hb dL_law_876 ?_
        refine q_add hx hb dL_law_877 ?_
        refine r_xld hx hb hX hbl hbA hS (i := i + 3) (z := x3) (by omega) hL ex3 dL_law_878 ?_
        refine lv_aload_n hx hb dL_law_879 rfl (lv_at hl 4 rfl) ?_
        refine lv_iload hx hb dL_law_880 (lv_at hl 0 rfl) ?_
        refine q_con hx hb dL_law_882 ?_
        refine q_add hx hb dL_law_883 ?_
        refine r_xld hx hb hX hbl hbA hS (i := i + 4) (z := x4) (by omega) hL ex4 dL_law_884 ?_
        refine lv_aload_n hx hb dL_law_885 rfl (lv_at hl 1 rfl) ?_
        refine c_SWr (As := [.ref (u 0), .int (iI x1), .int (iI x2), .int (iI x3), .int (iI x4), .ref o]) (rest := []) (r := .int (iI 2)) fx hl (wn3_span θ l hl0 S0 _ u dt (fun j => sv j 0) (fun j => sv j 1) (fun j => sv j 2) bc rf kn hcr hjH hn o nv sv9 ho hLX.1 x1 x2 x3 x4 (by first | assumption | omega | (dsimp only; first | assumption | omega) | exact Hid.mk (by first | assumption | omega) | exact Hid.mk ⟨fun _ => by first | assumption | omega, fun _ => by first | assumption | omega⟩) (by first | assumption | omega | (dsimp only; first | assumption | omega) | exact Hid.mk (by first | assumption | omega) | exact Hid.mk ⟨fun _ => by first | assumption | omega, fun _ => by first | assumption | omega⟩) (by first | assumption | omega | (dsimp only; first | assumption | omega) | exact Hid.mk (by first | assumption | omega) | exact Hid.mk ⟨fun _ => by first | assumption | omega, fun _ => by first | assumption | omega⟩) (by first | assumption | omega | (dsimp only; first | assumption | omega) | exact Hid.mk (by first | assumption | omega) | exact Hid.mk ⟨fun _ => by first | assumption | omega, fun _ => by first | assumption | omega⟩) (by first | assumption | omega | (dsimp only; first | assumption | omega) | exact Hid.mk (by first | assumption | omega) | exact Hid.mk ⟨fun _ => by first | assumption | omega, fun _ => by first | assumption | omega⟩) (by first | assumption | omega | (dsimp only; first | assumption | omega) | exact Hid.mk (by first | assumption | omega) | exact Hid.mk ⟨fun _ => by first | assumption | omega, fun _ => by first | assumption | omega⟩) (by first | assumption | omega | (dsimp only; first | assumption | omega) | exact Hid.mk (by first | assumption | omega) | exact Hid.mk ⟨fun _ => by first | assumption | omega, fun _ => by first | assumption | omega⟩)) dL_law_886 k825 k826 k0 k827 hd_L_span rfl ⟨by omega, by omega⟩ (Nat.le_of_ble_eq_true rfl) ⟨by (try dsimp only); omega, by (try dsimp only); omega⟩ hS (fun x h => h.elim (fun h => h.elim (fun ⟨j, hj, e⟩ => e ▸ hu.2 j hj) (fun h => Nat.le_trans hzH.2.1 h)) (fun e => e ▸ hoθ)) (fun H6 locs hpH6 hszH6 hkH6 hS => ?_)
        obtain ⟨hcw, ho1⟩ := hpH6
        have hzH1 := hz0.at hAB hS
        have hjH1 := hj0.at hAB hS
        have hm1 := lw_cls hLX hw hzH1 hkH6
        refine lv_istore (lv' := [(5, .int (iI 2)), (4, .int (iI i)), (3, .ref o), (2, .ref (w 0)), (1, .ref (u 0)), (0, .ref b)]) hx hb dL_law_889 hl (by decide) rfl (fun ls hl => ?_)
        refine lv_aload_n hx hb dL_law_891 rfl (lv_at hl 3 rfl) ?_
        refine lv_aload_n hx hb dL_law_892 rfl (lv_at hl 5 rfl) ?_
        refine lv_iload hx hb dL_law_893 (lv_at hl 1 rfl) ?_
        refine q_con hx hb dL_law_895 ?_
        refine q_add hx hb dL_law_896 ?_
        refine r_xld hx hb hX hbl hbA hS (i := i + 1) (z := x1) (by omega) hL ex1 dL_law_897 ?_
        refine lv_aload_n hx hb dL_law_898 rfl (lv_at hl 5 rfl) ?_
        refine lv_iload hx hb dL_law_899 (lv_at hl 1 rfl) ?_
        refine q_con hx hb dL_law_901 ?_
        refine q_add hx hb dL_law_902 ?_
        refine r_xld hx hb hX hbl hbA hS (i := i + 2) (z := x2) (by omega) hL ex2 dL_law_903 ?_
        refine lv_aload_n hx hb dL_law_904 rfl (lv_at hl 5 rfl) ?_
        refine lv_iload hx hb dL_law_905 (lv_at hl 1 rfl) ?_
        refine q_con hx hb dL_law_907 ?_
        refine q_add hx hb dL_law_908 ?_
        refine r_xld hx hb hX hbl hbA hS (i := i + 3) (z := x3) (by omega) hL ex3 dL_law_909 ?_
        refine lv_aload_n hx hb dL_law_910 rfl (lv_at hl 5 rfl) ?_
        refine lv_iload hx hb dL_law_911 (lv_at hl 1 rfl) ?_
        refine q_con hx hb dL_law_913 ?_
        refine q_add hx hb dL_law_914 ?_
        refine r_xld hx hb hX hbl hbA hS (i := i + 4) (z := x4) (by omega) hL ex4 dL_law_915 ?_
        refine c_Vr (As := [.int (iI x1), .int (iI x2), .int (iI x3), .int (iI x4)]) (rest := []) (b := w 0) (C := RX3) (r := some (.int (iI 0))) (st1 := [.int (iI 0)]) fx hl (mno3_span θ l S0 _ w r q dt sv th bc rf kn hm1 x1 x2 x3 x4 (by first | assumption | omega | (dsimp only; first | assumption | omega) | exact Hid.mk (by first | assumption | omega) | exact Hid.mk ⟨fun _ => by first | assumption | omega, fun _ => by first | assumption | omega⟩) (by first | assumption | omega | (dsimp only; first | assumption | omega) | exact Hid.mk (by first | assumption | omega) | exact Hid.mk ⟨fun _ => by first | assumption | omega, fun _ => by first | assumption | omega⟩) (by first | assumption | omega | (dsimp only; first | assumption | omega) | exact Hid.mk (by first | assumption | omega) | exact Hid.mk ⟨fun _ => by first | assumption | omega, fun _ => by first | assumption | omega⟩) (by first | assumption | omega | (dsimp only; first | assumption | omega) | exact Hid.mk (by first | assumption | omega) | exact Hid.mk ⟨fun _ => by first | assumption | omega, fun _ => by first | assumption | omega⟩) (by first | assumption | omega | (dsimp only; first | assumption | omega) | exact Hid.mk (by first | assumption | omega) | exact Hid.mk ⟨fun _ => by first | assumption | omega, fun _ => by first | assumption | omega⟩) (by first | assumption | omega | (dsimp only; first | assumption | omega) | exact Hid.mk (by first | assumption | omega) | exact Hid.mk ⟨fun _ => by first | assumption | omega, fun _ => by first | assumption | omega⟩) (by first | assumption | omega | (dsimp only; first | assumption | omega) | exact Hid.mk (by first | assumption | omega) | exact Hid.mk ⟨fun _ => by first | assumption | omega, fun _ => by first | assumption | omega⟩)) (ob_recv hK hm1.2.2.1.1 rfl) dL_law_916 k1222 k1223 k1224 k6 k1225 hd_X3_span rfl rfl ⟨by omega, by omega⟩ (Nat.le_of_ble_eq_true rfl) ⟨by (try dsimp only); omega, by (try dsimp only); omega⟩ hS (wa_b hm1.2.1 hzH1.2.1) (fun H7 locs hpH7 hszH7 hkH7 hS => ?_)
        obtain ⟨r1, q1, hm2, nr, nq⟩ := hpH7
        have hzH2 := hz0.at hAB hS
        have hL2 := lw_mod hLX hzH2 hu hcw ho1 hfr hfq hm2 nr nq hkH7
        refine lv_istore (lv' := [(6, .int (iI 0)), (5, .int (iI 2)), (4, .int (iI i)), (3, .ref o), (2, .ref (w 0)), (1, .ref (u 0)), (0, .ref b)]) hx hb dL_law_919 hl (by decide) rfl (fun ls hl => ?_)
        refine lv_goto (tgt := 2331) hx hb dL_law_921 (by decide) ?_
        exact kk _ _ _ _ _ ⟨_, _, _, _, _, _, _, _, _, _, hL2⟩ hS (by omega) (by omega) (lv_sub hl [2, 3, 4, 5, 6] rfl)
    · refine lv_aload_n hx hb dL_law_860 rfl (lv_at hl 3 rfl) ?_
      refine lv_aload_n hx hb dL_law_861 rfl (lv_at hl 4 rfl) ?_
      refine lv_iload hx hb dL_law_862 (lv_at hl 0 rfl) ?_
      refine q_con hx hb dL_law_864 ?_
      refine q_add hx hb dL_law_865 ?_
      refine r_xld hx hb hX hbl hbA hS (i := i + 1) (z := x1) (by omega) hL ex1 dL_law_866 ?_
      refine lv_aload_n hx hb dL_law_867 rfl (lv_at hl 4 rfl) ?_
      refine lv_iload hx hb dL_law_868 (lv_at hl 0 rfl) ?_
      refine q_con hx hb dL_law_870 ?_
      refine q_add hx hb dL_law_871 ?_
      refine r_xld hx hb hX hbl hbA hS (i := i + 2) (z := x2) (by omega) hL ex2 dL_law_872 ?_
      refine lv_aload_n hx hb dL_law_873 rfl (lv_at hl 4 rfl) ?_
      refine lv_iload hx hb dL_law_874 (lv_at hl 0 rfl) ?_
      refine q_con hx hb dL_law_876 ?_
      refine q_add hx hb dL_law_877 ?_
      refine r_xld hx hb hX hbl hbA hS (i := i + 3) (z := x3) (by omega) hL ex3 dL_law_878 ?_
      refine lv_aload_n hx hb dL_law_879 rfl (lv_at hl 4 rfl) ?_
      refine lv_iload hx hb dL_law_880 (lv_at hl 0 rfl) ?_
      refine q_con hx hb dL_law_882 ?_
      refine q_add hx hb dL_law_883 ?_
      refine r_xld hx hb hX hbl hbA hS (i := i + 4) (z := x4) (by omega) hL ex4 dL_law_884 ?_
      refine lv_aload_n hx hb dL_law_885 rfl (lv_at hl 1 rfl) ?_
      refine c_SWr (As := [.ref (u 0), .int (iI x1), .int (iI x2), .int (iI x3), .int (iI x4), .ref o]) (rest := []) (r := .int (iI 2)) fx hl (wn2_span θ l hl0 S0 _ u dt (fun j => sv j 0) (fun j => sv j 1) (fun j => sv j 2) bc rf kn hcr hjH hn o nv sv9 ho hLX.1 x1 x2 x3 x4 (by first | assumption | omega | (dsimp only; first | assumption | omega) | exact Hid.mk (by first | assumption | omega) | exact Hid.mk ⟨fun _ => by first | assumption | omega, fun _ => by first | assumption | omega⟩) (by first | assumption | omega | (dsimp only; first | assumption | omega) | exact Hid.mk (by first | assumption | omega) | exact Hid.mk ⟨fun _ => by first | assumption | omega, fun _ => by first | assumption | omega⟩) (by first | assumption | omega | (dsimp only; first | assumption | omega) | exact Hid.mk (by first | assumption | omega) | exact Hid.mk ⟨fun _ => by first | assumption | omega, fun _ => by first | assumption | omega⟩) (by first | assumption | omega | (dsimp only; first | assumption | omega) | exact Hid.mk (by first | assumption | omega) | exact Hid.mk ⟨fun _ => by first | assumption | omega, fun _ => by first | assumption | omega⟩) (by first | assumption | omega | (dsimp only; first | assumption | omega) | exact Hid.mk (by first | assumption | omega) | exact Hid.mk ⟨fun _ => by first | assumption | omega, fun _ => by first | assumption | omega⟩) (by first | assumption | omega | (dsimp only; first | assumption | omega) | exact Hid.mk (by first | assumption | omega) | exact Hid.mk ⟨fun _ => by first | assumption | omega, fun _ => by first | assumption | omega⟩)) dL_law_886 k825 k826 k0 k827 hd_L_span rfl ⟨by omega, by omega⟩ (Nat.le_of_ble_eq_true rfl) ⟨by (try dsimp only); omega, by (try dsimp only); omega⟩ hS (fun x h => h.elim (fun h => h.elim (fun ⟨j, hj, e⟩ => e ▸ hu.2 j hj) (fun h => Nat.le_trans hzH.2.1 h)) (fun e => e ▸ hoθ)) (fun H8 locs hpH8 hszH8 hkH8 hS => ?_)
      obtain ⟨hcw, ho1⟩ := hpH8
      have hzH1 := hz0.at hAB hS
      have hjH1 := hj0.at hAB hS
      have hm1 := lw_cls hLX hw hzH1 hkH8
      refine lv_istore (lv' := [(5, .int (iI 2)), (4, .int (iI i)), (3, .ref o), (2, .ref (w 0)), (1, .ref (u 0)), (0, .ref b)]) hx hb dL_law_889 hl (by decide) rfl (fun ls hl => ?_)
      refine lv_aload_n hx hb dL_law_891 rfl (lv_at hl 3 rfl) ?_
      refine lv_aload_n hx hb dL_law_892 rfl (lv_at hl 5 rfl) ?_
      refine lv_iload hx hb dL_law_893 (lv_at hl 1 rfl) ?_
      refine q_con hx hb dL_law_895 ?_
      refine q_add hx hb dL_law_896 ?_
      refine r_xld hx hb hX hbl hbA hS (i := i + 1) (z := x1) (by omega) hL ex1 dL_law_897 ?_
      refine lv_aload_n hx hb dL_law_898 rfl (lv_at hl 5 rfl) ?_
      refine lv_iload hx hb dL_law_899 (lv_at hl 1 rfl) ?_
      refine q_con hx hb dL_law_901 ?_
      refine q_add hx hb dL_law_902 ?_
      refine r_xld hx hb hX hbl hbA hS (i := i + 2) (z := x2) (by omega) hL ex2 dL_law_903 ?_
      refine lv_aload_n hx hb dL_law_904 rfl (lv_at hl 5 rfl) ?_
      refine lv_iload hx hb dL_law_905 (lv_at hl 1 rfl) ?_
      refine q_con hx hb dL_law_907 ?_
      refine q_add hx hb dL_law_908 ?_
      refine r_xld hx hb hX hbl hbA hS (i := i + 3) (z := x3) (by omega) hL ex3 dL_law_909 ?_
      refine lv_aload_n hx hb dL_law_910 rfl (lv_at hl 5 rfl) ?_
      refine lv_iload hx hb dL_law_911 (lv_at hl 1 rfl) ?_
      refine q_con hx hb dL_law_913 ?_
      refine q_add hx hb dL_law_914 ?_
      refine r_xld hx hb hX hbl hbA hS (i := i + 4) (z := x4) (by omega) hL ex4 dL_law_915 ?_
      refine c_Vr (As := [.int (iI x1), .int (iI x2), .int (iI x3), .int (iI x4)]) (rest := []) (b := w 0) (C := RX3) (r := some (.int (iI 0))) (st1 := [.int (iI 0)]) fx hl (mno2_span θ l S0 _ w r q dt sv th bc rf kn hm1 x1 x2 x3 x4 (by first | assumption | omega | (dsimp only; first | assumption | omega) | exact Hid.mk (by first | assumption | omega) | exact Hid.mk ⟨fun _ => by first | assumption | omega, fun _ => by first | assumption | omega⟩) (by first | assumption | omega | (dsimp only; first | assumption | omega) | exact Hid.mk (by first | assumption | omega) | exact Hid.mk ⟨fun _ => by first | assumption | omega, fun _ => by first | assumption | omega⟩) (by first | assumption | omega | (dsimp only; first | assumption | omega) | exact Hid.mk (by first | assumption | omega) | exact Hid.mk ⟨fun _ => by first | assumption | omega, fun _ => by first | assumption | omega⟩) (by first | assumption | omega | (dsimp only; first | assumption | omega) | exact Hid.mk (by first | assumption | omega) | exact Hid.mk ⟨fun _ => by first | assumption | omega, fun _ => by first | assumption | omega⟩) (by first | assumption | omega | (dsimp only; first | assumption | omega) | exact Hid.mk (by first | assumption | omega) | exact Hid.mk ⟨fun _ => by first | assumption | omega, fun _ => by first | assumption | omega⟩) (by first | assumption | omega | (dsimp only; first | assumption | omega) | exact Hid.mk (by first | assumption | omega) | exact Hid.mk ⟨fun _ => by first | assumption | omega, fun _ => by first | assumption | omega⟩)) (ob_recv hK hm1.2.2.1.1 rfl) dL_law_916 k1222 k1223 k1224 k6 k1225 hd_X3_span rfl rfl ⟨by omega, by omega⟩ (Nat.le_of_ble_eq_true rfl) ⟨by (try dsimp only); omega, by (try dsimp only); omega⟩ hS (wa_b hm1.2.1 hzH1.2.1) (fun H9 locs hpH9 hszH9 hkH9 hS => ?_)
      obtain ⟨r1, q1, hm2, nr, nq⟩ := hpH9
      have hzH2 := hz0.at hAB hS
      have hL2 := lw_mod hLX hzH2 hu hcw ho1 hfr hfq hm2 nr nq hkH9
      refine lv_istore (lv' := [(6, .int (iI 0)), (5, .int (iI 2)), (4, .int (iI i)), (3, .ref o), (2, .ref (w 0)), (1, .ref (u 0)), (0, .ref b)]) hx hb dL_law_919 hl (by decide) rfl (fun ls hl => ?_)
      refine lv_goto (tgt := 2331) hx hb dL_law_921 (by decide) ?_
      exact kk _ _ _ _ _ ⟨_, _, _, _, _, _, _, _, _, _, hL2⟩ hS (by omega) (by omega) (lv_sub hl [2, 3, 4, 5, 6] rfl)
  · refine lv_aload_n hx hb dL_law_860 rfl (lv_at hl 3 rfl) ?_
    refine lv_aload_n hx hb dL_law_861 rfl (lv_at hl 4 rfl) ?_
    refine lv_iload hx hb dL_law_862 (lv_at hl 0 rfl) ?_
    refine q_con hx hb dL_law_864 ?_
    refine q_add hx hb dL_law_865 ?_
    refine r_xld hx hb hX hbl hbA hS (i := i + 1) (z := x1) (by omega) hL ex1 dL_law_866 ?_
    refine lv_aload_n hx hb dL_law_867 rfl (lv_at hl 4 rfl) ?_
    refine lv_iload hx hb dL_law_868 (lv_at hl 0 rfl) ?_
    refine q_con hx hb dL_law_870 ?_
    refine q_add hx hb dL_law_871 ?_
    refine r_xld hx hb hX hbl hbA hS (i := i + 2) (z := x2) (by omega) hL ex2 dL_law_872 ?_
    refine lv_aload_n hx hb dL_law_873 rfl (lv_at hl 4 rfl) ?_
    refine lv_iload hx hb dL_law_874 (lv_at hl 0 rfl) ?_
    refine q_con hx hb dL_law_876 ?_
    refine q_add hx hb dL_law_877 ?_
    refine r_xld hx hb hX hbl hbA hS (i := i + 3) (z := x3) (by omega) hL ex3 dL_law_878 ?_
    refine lv_aload_n hx hb dL_law_879 rfl (lv_at hl 4 rfl) ?_
    refine lv_iload hx hb dL_law_880 (lv_at hl 0 rfl) ?_
    refine q_con hx hb dL_law_882 ?_
    refine q_add hx hb dL_law_883 ?_
    refine r_xld hx hb hX hbl hbA hS (i := i + 4) (z := x4) (by omega) hL ex4 dL_law_884 ?_
    refine lv_aload_n hx hb dL_law_885 rfl (lv_at hl 1 rfl) ?_
    refine c_SWr (As := [.ref (u 0), .int (iI x1), .int (iI x2), .int (iI x3), .int (iI x4), .ref o]) (rest := []) (r := .int (iI 1)) fx hl (wn1_span θ l hl0 S0 _ u dt (fun j => sv j 0) (fun j => sv j 1) (fun j => sv j 2) bc rf kn hcr hjH hn o nv sv9 ho hLX.1 x1 x2 x3 x4 (by first | assumption | omega | (dsimp only; first | assumption | omega) | exact Hid.mk (by first | assumption | omega) | exact Hid.mk ⟨fun _ => by first | assumption | omega, fun _ => by first | assumption | omega⟩) (by first | assumption | omega | (dsimp only; first | assumption | omega) | exact Hid.mk (by first | assumption | omega) | exact Hid.mk ⟨fun _ => by first | assumption | omega, fun _ => by first | assumption | omega⟩) (by first | assumption | omega | (dsimp only; first | assumption | omega) | exact Hid.mk (by first | assumption | omega) | exact Hid.mk ⟨fun _ => by first | assumption | omega, fun _ => by first | assumption | omega⟩) (by first | assumption | omega | (dsimp only; first | assumption | omega) | exact Hid.mk (by first | assumption | omega) | exact Hid.mk ⟨fun _ => by first | assumption | omega, fun _ => by first | assumption | omega⟩) (by first | assumption | omega | (dsimp only; first | assumption | omega) | exact Hid.mk (by first | assumption | omega) | exact Hid.mk ⟨fun _ => by first | assumption | omega, fun _ => by first | assumption | omega⟩)) dL_law_886 k825 k826 k0 k827 hd_L_span rfl ⟨by omega, by omega⟩ (Nat.le_of_ble_eq_true rfl) ⟨by (try dsimp only); omega, by (try dsimp only); omega⟩ hS (fun x h => h.elim (fun h => h.elim (fun ⟨j, hj, e⟩ => e ▸ hu.2 j hj) (fun h => Nat.le_trans hzH.2.1 h)) (fun e => e ▸ hoθ)) (fun H10 locs hpH10 hszH10 hkH10 hS => ?_)
    obtain ⟨hcw, ho1⟩ := hpH10
    have hzH1 := hz0.at hAB hS
    have hjH1 := hj0.at hAB hS
    have hm1 := lw_cls hLX hw hzH1 hkH10
    refine lv_istore (lv' := [(5, .int (iI 1)), (4, .int (iI i)), (3, .ref o), (2, .ref (w 0)), (1, .ref (u 0)), (0, .ref b)]) hx hb dL_law_889 hl (by decide) rfl (fun ls hl => ?_)
    refine lv_aload_n hx hb dL_law_891 rfl (lv_at hl 3 rfl) ?_
    refine lv_aload_n hx hb dL_law_892 rfl (lv_at hl 5 rfl) ?_
    refine lv_iload hx hb dL_law_893 (lv_at hl 1 rfl) ?_
    refine q_con hx hb dL_law_895 ?_
    refine q_add hx hb dL_law_896 ?_
    refine r_xld hx hb hX hbl hbA hS (i := i + 1) (z := x1) (by omega) hL ex1 dL_law_897 ?_
    refine lv_aload_n hx hb dL_law_898 rfl (lv_at hl 5 rfl) ?_
    refine lv_iload hx hb dL_law_899 (lv_at hl 1 rfl) ?_
    refine q_con hx hb dL_law_901 ?_
    refine q_add hx hb dL_law_902 ?_
    refine r_xld hx hb hX hbl hbA hS (i := i + 2) (z := x2) (by omega) hL ex2 dL_law_903 ?_
    refine lv_aload_n hx hb dL_law_904 rfl (lv_at hl 5 rfl) ?_
    refine lv_iload hx hb dL_law_905 (lv_at hl 1 rfl) ?_
    refine q_con hx hb dL_law_907 ?_
    refine q_add hx hb dL_law_908 ?_
    refine r_xld hx hb hX hbl hbA hS (i := i + 3) (z := x3) (by omega) hL ex3 dL_law_909 ?_
    refine lv_aload_n hx hb dL_law_910 rfl (lv_at hl 5 rfl) ?_
    refine lv_iload hx hb dL_law_911 (lv_at hl 1 rfl) ?_
    refine q_con hx hb dL_law_913 ?_
    refine q_add hx hb dL_law_914 ?_
    refine r_xld hx hb hX hbl hbA hS (i := i + 4) (z := x4) (by omega) hL ex4 dL_law_915 ?_
    refine c_Vr (As := [.int (iI x1), .int (iI x2), .int (iI x3), .int (iI x4)]) (rest := []) (b := w 0) (C := RX3) (r := some (.int (iI 0))) (st1 := [.int (iI 0)]) fx hl (mno1_span θ l S0 _ w r q dt sv th bc rf kn hm1 x1 x2 x3 x4 (by first | assumption | omega | (dsimp only; first | assumption | omega) | exact Hid.mk (by first | assumption | omega) | exact Hid.mk ⟨fun _ => by first | assumption | omega, fun _ => by first | assumption | omega⟩) (by first | assumption | omega | (dsimp only; first | assumption | omega) | exact Hid.mk (by first | assumption | omega) | exact Hid.mk ⟨fun _ => by first | assumption | omega, fun _ => by first | assumption | omega⟩) (by first | assumption | omega | (dsimp only; first | assumption | omega) | exact Hid.mk (by first | assumption | omega) | exact Hid.mk ⟨fun _ => by first | assumption | omega, fun _ => by first | assumption | omega⟩) (by first | assumption | omega | (dsimp only; first | assumption | omega) | exact Hid.mk (by first | assumption | omega) | exact Hid.mk ⟨fun _ => by first | assumption | omega, fun _ => by first | assumption | omega⟩) (by first | assumption | omega | (dsimp only; first | assumption | omega) | exact Hid.mk (by first | assumption | omega) | exact Hid.mk ⟨fun _ => by first | assumption | omega, fun _ => by first | assumption | omega⟩)) (ob_recv hK hm1.2.2.1.1 rfl) dL_law_916 k1222 k1223 k1224 k6 k1225 hd_X3_span rfl rfl ⟨by omega, by omega⟩ (Nat.le_of_ble_eq_true rfl) ⟨by (try dsimp only); omega, by (try dsimp only); omega⟩ hS (wa_b hm1.2.1 hzH1.2.1) (fun H11 locs hpH11 hszH11 hkH11 hS => ?_)
    obtain ⟨r1, q1, hm2, nr, nq⟩ := hpH11
    have hzH2 := hz0.at hAB hS
    have hL2 := lw_mod hLX hzH2 hu hcw ho1 hfr hfq hm2 nr nq hkH11
    refine lv_istore (lv' := [(6, .int (iI 0)), (5, .int (iI 1)), (4, .int (iI i)), (3, .ref o), (2, .ref (w 0)), (1, .ref (u 0)), (0, .ref b)]) hx hb dL_law_919 hl (by decide) rfl (fun ls hl => ?_)
    refine lv_goto (tgt := 2331) hx hb dL_law_921 (by decide) ?_
    exact kk _ _ _ _ _ ⟨_, _, _, _, _, _, _, _, _, _, hL2⟩ hS (by omega) (by omega) (lv_sub hl [2, 3, 4, 5, 6] rfl)

set_option maxHeartbeats 4000000 in
set_option maxRecDepth 100000 in
theorem lc_until {p : Program} {l : Launch} {e : Env} {R : Room} {s : State} {m : MethodId} {args : Array Value} {below : List Frame} {meth : Method} {c : Code} {Q : State → Prop} {θ : TH} {S0 : State} (fx : FX p m c cL_law 7 s args yL_law.cls S0) (hl0 : l.stackTraces = false) (hz0 : SZ θ S0 s.heap) (hj0 : SJ θ S0 s.heap) (hn : NX S0) {u w : Nat → Nat} {o b L : Nat} {xs : Nat → Int32} (hLX : LX u w o) (hoθ : θ.2.2.2 ≤ o) (hX : va_X b L xs s s.heap) (hbl : b < s.heap.size) (hbA : ¬ AJ θ b) (hL : L ≤ 2560) (hRF : 1000 ≤ R.frames ∧ 1000 ≤ R.locals) {H : Heap} {locs : List Loc} {cells slots : Nat} {ls : Array Slot} {i : Int} (hi : 0 ≤ i ∧ i + 5 ≤ (L : Int)) (hw : LWE θ S0 u w o H) (hS : va_S (AJ θ) s.heap H locs) (hRc : cells + 400 ≤ R.cells ∧ slots + 7000 ≤ R.slots) (hl : lv_has ls 7 [(4, .int (iI i)), (3, .ref o), (2, .ref (w 0)), (1, .ref (u 0)), (0, .ref b)]) (kk : LK p l e R s m args below meth c Q θ S0 u w o b i cells slots 2331) : W p l e R s m args below meth c H locs cells slots Q (F0 m 924 ls []) := by
  obtain ⟨hx, hb, hml, hown, hts⟩ := id fx.1
  have hAB : ∀ x : Nat, AJ θ x → θ.2.2.2 ≤ x := fun _ h => h
  obtain ⟨r, q, dt, sv, th, bc, rf, kn, nv, sv9, hw⟩ := hw
  obtain ⟨hcr, hmr, ho, hfr, hfq⟩ := id hw
  have hzH := hz0.at hAB hS
  have hjH := hj0.at hAB hS
  have hK := sz_K fx.2 hz0
  have hu := hcr.2.1
  obtain ⟨x1, ex1⟩ : ∃ z : Int, z = (xs (i + 1).toNat).toInt := ⟨_, rfl⟩
  have bx1 := x32_b ex1
  obtain ⟨x2, ex2⟩ : ∃ z : Int, z = (xs (i + 2).toNat).toInt := ⟨_, rfl⟩
  have bx2 := x32_b ex2
  obtain ⟨x3, ex3⟩ : ∃ z : Int, z = (xs (i + 3).toNat).toInt := ⟨_, rfl⟩
  have bx3 := x32_b ex3
  by_cases hc1 : 0 ≤ x1 ∧ x1 < 3
  · by_cases hc2 : 0 ≤ x2 ∧ x2 < 6
    · by_cases hc3 : 0 ≤ x3 ∧ x3 < 6
      · by_cases hc4 : dt x2.toNat ≤ dt x3.toNat
        · refine lv_aload_n hx hb dL_law_924 rfl (lv_at hl 3 rfl) ?_
          refine lv_aload_n hx hb dL_law_925 rfl (lv_at hl 4 rfl) ?_
          refine lv_iload hx hb dL_law_926 (lv_at hl 0 rfl) ?_
          refine q_con hx hb dL_law_928 ?_
          refine q_add hx hb dL_law_929 ?_
          refine r_xld hx hb hX hbl hbA hS (i := i + 1) (z := x1) (by omega) hL ex1 dL_law_930 ?_
          refine lv_aload_n hx hb dL_law_931 rfl (lv_at hl 4 rfl) ?_
          refine lv_iload hx hb dL_law_932 (lv_at hl 0 rfl) ?_
          refine q_con hx hb dL_law_934 ?_
          refine q_add hx hb dL_law_935 ?_
          refine r_xld hx hb hX hbl hbA hS (i := i + 2) (z := x2) (by omega) hL ex2 dL_law_936 ?_
          refine lv_aload_n hx hb dL_law_937 rfl (lv_at hl 4 rfl) ?_
          refine lv_iload hx hb dL_law_938 (lv_at hl 0 rfl) ?_
          refine q_con hx hb dL_law_940 ?_
          refine q_add hx hb dL_law_941 ?_
          refine r_xld hx hb hX hbl hbA hS (i := i + 3) (z := x3) (by omega) hL ex3 dL_law_942 ?_
          refine lv_aload_n hx hb dL_law_943 rfl (lv_at hl 1 rfl) ?_
          refine c_SWr (As := [.ref (u 0), .int (iI x1), .int (iI x2), .int (iI x3), .ref o]) (rest := []) (r := .int (iI 0)) fx hl (wr_until θ l hl0 S0 _ u dt (fun j => sv j 0) (fun j => sv j 1) (fun j => sv j 2) bc rf kn hcr hjH hn o nv sv9 ho hLX.1 x1 x2 x3 (by first | assumption | omega | (dsimp only; first | assumption | omega) | exact Hid.mk (by first | assumption | omega) | exact Hid.mk ⟨fun _ => by first | assumption | omega, fun _ => by first | assumption | omega⟩) (by first | assumption | omega | (dsimp only; first | assumption | omega) | exact Hid.mk (by first | assumption | omega) | exact Hid.mk ⟨fun _ => by first | assumption | omega, fun _ => by first | assumption | omega⟩) (by first | assumption | omega | (dsimp only; first | assumption | omega) | exact Hid.mk (by first | assumption | omega) | exact Hid.mk ⟨fun _ => by first | assumption | omega, fun _ => by first | assumption | omega⟩) (by first | assumption | omega | (dsimp only; first | assumption | omega) | exact Hid.mk (by first | assumption | omega) | exact Hid.mk ⟨fun _ => by first | assumption | omega, fun _ => by first | assumption | omega⟩) (by first | assumption | omega | (dsimp only; first | assumption | omega) | exact Hid.mk (by first | assumption | omega) | exact Hid.mk ⟨fun _ => by first | assumption | omega, fun _ => by first | assumption | omega⟩) (by first | assumption | omega | (dsimp only; first | assumption | omega) | exact Hid.mk (by first | assumption | omega) | exact Hid.mk ⟨fun _ => by first | assumption | omega, fun _ => by first | assumption | omega⟩) (by first | assumption | omega | (dsimp only; first | assumption | omega) | exact Hid.mk (by first | assumption | omega) | exact Hid.mk ⟨fun _ => by first | assumption | omega, fun _ => by first | assumption | omega⟩)) dL_law_944 k836 k837 k0 k838 hd_L_until rfl ⟨by omega, by omega⟩ (Nat.le_of_ble_eq_true rfl) ⟨by (try dsimp only); omega, by (try dsimp only); omega⟩ hS (fun x h => h.elim (fun h => h.elim (fun ⟨j, hj, e⟩ => e ▸ hu.2 j hj) (fun h => Nat.le_trans hzH.2.1 h)) (fun e => e ▸ hoθ)) (fun H1 locs hpH1 hszH1 hkH1 hS => ?_)
          obtain ⟨hcw, ho1⟩ := hpH1
          have hzH1 := hz0.at hAB hS
          have hjH1 := hj0.at hAB hS
          have hm1 := lw_cls hLX hw hzH1 hkH1
          refine lv_istore (lv' := [(5, .int (iI 0)), (4, .int (iI i)), (3, .ref o), (2, .ref (w 0)), (1, .ref (u 0)), (0, .ref b)]) hx hb dL_law_947 hl (by decide) rfl (fun ls hl => ?_)
          refine lv_aload_n hx hb dL_law_949 rfl (lv_at hl 3 rfl) ?_
          refine lv_aload_n hx hb dL_law_950 rfl (lv_at hl 5 rfl) ?_
          refine lv_iload hx hb dL_law_951 (lv_at hl 1 rfl) ?_
          refine q_con hx hb dL_law_953 ?_
          refine q_add hx hb dL_law_954 ?_
          refine r_xld hx hb hX hbl hbA hS (i := i + 1) (z := x1) (by omega) hL ex1 dL_law_955 ?_
          refine lv_aload_n hx hb dL_law_956 rfl (lv_at hl 5 rfl) ?_
          refine lv_iload hx hb dL_law_957 (lv_at hl 1 rfl) ?_
          refine q_con hx hb dL_law_959 ?_
          refine q_add hx hb dL_law_960 ?_
          refine r_xld hx hb hX hbl hbA hS (i := i + 2) (z := x2) (by omega) hL ex2 dL_law_961 ?_
          refine lv_aload_n hx hb dL_law_962 rfl (lv_at hl 5 rfl) ?_
          refine lv_iload hx hb dL_law_963 (lv_at hl 1 rfl) ?_
          refine q_con hx hb dL_law_965 ?_
          refine q_add hx hb dL_law_966 ?_
          refine r_xld hx hb hX hbl hbA hS (i := i + 3) (z := x3) (by omega) hL ex3 dL_law_967 ?_
          refine c_Vr (As := [.int (iI x1), .int (iI x2), .int (iI x3)]) (rest := []) (b := w 0) (C := RX3) (r := some (.int (iI (dt x3.toNat - shI (dt x2.toNat) (muI (dt x2.toNat) (dt x3.toNat)))))) (st1 := [.int (iI (dt x3.toNat - shI (dt x2.toNat) (muI (dt x2.toNat) (dt x3.toNat))))]) fx hl (mok_until θ l S0 _ w r q dt sv th bc rf kn hm1 x1 x2 x3 (by first | assumption | omega | (dsimp only; first | assumption | omega) | exact Hid.mk (by first | assumption | omega) | exact Hid.mk ⟨fun _ => by first | assumption | omega, fun _ => by first | assumption | omega⟩) (by first | assumption | omega | (dsimp only; first | assumption | omega) | exact Hid.mk (by first | assumption | omega) | exact Hid.mk ⟨fun _ => by first | assumption | omega, fun _ => by first | assumption | omega⟩) (by first | assumption | omega | (dsimp only; first | assumption | omega) | exact Hid.mk (by first | assumption | omega) | exact Hid.mk ⟨fun _ => by first | assumption | omega, fun _ => by first | assumption | omega⟩) (by first | assumption | omega | (dsimp only; first | assumption | omega) | exact Hid.mk (by first | assumption | omega) | exact Hid.mk ⟨fun _ => by first | assumption | omega, fun _ => by first | assumption | omega⟩) (by first | assumption | omega | (dsimp only; first | assumption | omega) | exact Hid.mk (by first | assumption | omega) | exact Hid.mk ⟨fun _ => by first | assumption | omega, fun _ => by first | assumption | omega⟩) (by first | assumption | omega | (dsimp only; first | assumption | omega) | exact Hid.mk (by first | assumption | omega) | exact Hid.mk ⟨fun _ => by first | assumption | omega, fun _ => by first | assumption | omega⟩) (by first | assumption | omega | (dsimp only; first | assumption | omega) | exact Hid.mk (by first | assumption | omega) | exact Hid.mk ⟨fun _ => by first | assumption | omega, fun _ => by first | assumption | omega⟩)) (ob_recv hK hm1.2.2.1.1 rfl) dL_law_968 k1228 k1229 k1230 k6 k1231 hd_X3_until rfl rfl ⟨by omega, by omega⟩ (Nat.le_of_ble_eq_true rfl) ⟨by (try dsimp only); omega, by (try dsimp only); omega⟩ hS (wa_b hm1.2.1 hzH1.2.1) (fun H2 locs hpH2 hszH2 hkH2 hS => ?_)
          obtain ⟨r1, q1, hm2, nr, nq⟩ := hpH2
          have hzH2 := hz0.at hAB hS
          have hcw : CW θ u H1 dt (fun j => up sv x1.toNat (tri (muI (dt x2.toNat) (dt x3.toNat) / 12) (muI (dt x2.toNat) (dt x3.toNat) % 12) (dt x3.toNat - shI (dt x2.toNat) (muI (dt x2.toNat) (dt x3.toNat)))) j 0) (fun j => up sv x1.toNat (tri (muI (dt x2.toNat) (dt x3.toNat) / 12) (muI (dt x2.toNat) (dt x3.toNat) % 12) (dt x3.toNat - shI (dt x2.toNat) (muI (dt x2.toNat) (dt x3.toNat)))) j 1) (fun j => up sv x1.toNat (tri (muI (dt x2.toNat) (dt x3.toNat) / 12) (muI (dt x2.toNat) (dt x3.toNat) % 12) (dt x3.toNat - shI (dt x2.toNat) (muI (dt x2.toNat) (dt x3.toNat)))) j 2) (bc + 1) rf kn := by rw [← up_tri0 sv x1.toNat (muI (dt x2.toNat) (dt x3.toNat) / 12) (muI (dt x2.toNat) (dt x3.toNat) % 12) (dt x3.toNat - shI (dt x2.toNat) (muI (dt x2.toNat) (dt x3.toNat))), ← up_tri1 sv x1.toNat (muI (dt x2.toNat) (dt x3.toNat) / 12) (muI (dt x2.toNat) (dt x3.toNat) % 12) (dt x3.toNat - shI (dt x2.toNat) (muI (dt x2.toNat) (dt x3.toNat))), ← up_tri2 sv x1.toNat (muI (dt x2.toNat) (dt x3.toNat) / 12) (muI (dt x2.toNat) (dt x3.toNat) % 12) (dt x3.toNat - shI (dt x2.toNat) (muI (dt x2.toNat) (dt x3.toNat)))]; exact hcw
          have hL2 := lw_mod hLX hzH2 hu hcw ho1 hfr hfq hm2 nr nq hkH2
          refine q_nm (fun z3 ez3 => ?_)
          refine lv_istore (lv' := [(6, .int (iI z3)), (5, .int (iI 0)), (4, .int (iI i)), (3, .ref o), (2, .ref (w 0)), (1, .ref (u 0)), (0, .ref b)]) hx hb dL_law_971 hl (by decide) rfl (fun ls hl => ?_)
          refine lv_goto (tgt := 2331) hx hb dL_law_973 (by decide) ?_
          exact kk _ _ _ _ _ ⟨_, _, _, _, _, _, _, _, _, _, hL2⟩ hS (by omega) (by omega) (lv_sub hl [2, 3, 4, 5, 6] rfl)
        · refine lv_aload_n hx hb dL_law_924 rfl (lv_at hl 3 rfl) ?_
          refine lv_aload_n hx hb dL_law_925 rfl (lv_at hl 4 rfl) ?_
          refine lv_iload hx hb dL_law_926 (lv_at hl 0 rfl) ?_
          refine q_con hx hb dL_law_928 ?_
          refine q_add hx hb dL_law_929 ?_
          refine r_xld hx hb hX hbl hbA hS (i := i + 1) (z := x1) (by omega) hL ex1 dL_law_930 ?_
          refine lv_aload_n hx hb dL_law_931 rfl (lv_at hl 4 rfl) ?_
          refine lv_iload hx hb dL_law_932 (lv_at hl 0 rfl) ?_
          refine q_con hx hb dL_law_934 ?_
          refine q_add hx hb dL_law_935 ?_
          refine r_xld hx hb hX hbl hbA hS (i := i + 2) (z := x2) (by omega) hL ex2 dL_law_936 ?_
          refine lv_aload_n hx hb dL_law_937 rfl (lv_at hl 4 rfl) ?_
          refine lv_iload hx hb dL_law_938 (lv_at hl 0 rfl) ?_
          refine q_con hx hb dL_law_940 ?_
          refine q_add hx hb dL_law_941 ?_
          refine r_xld hx hb hX hbl hbA hS (i := i + 3) (z := x3) (by omega) hL ex3 dL_law_942 ?_
          refine lv_aload_n hx hb dL_law_943 rfl (lv_at hl 1 rfl) ?_
          refine c_SWr (As := [.ref (u 0), .int (iI x1), .int (iI x2), .int (iI x3), .ref o]) (rest := []) (r := .int (iI 2)) fx hl (wn4_until θ l hl0 S0 _ u dt (fun j => sv j 0) (fun j => sv j 1) (fun j => sv j 2) bc rf kn hcr hjH hn o nv sv9 ho hLX.1 x1 x2 x3 (by first | assumption | omega | (dsimp only; first | assumption | omega) | exact Hid.mk (by first | assumption | omega) | exact Hid.mk ⟨fun _ => by first | assumption | omega, fun _ => by first | assumption | omega⟩) (by first | assumption | omega | (dsimp only; first | assumption | omega) | exact Hid.mk (by first | assumption | omega) | exact Hid.mk ⟨fun _ => by first | assumption | omega, fun _ => by first | assumption | omega⟩) (by first | assumption | omega | (dsimp only; first | assumption | omega) | exact Hid.mk (by first | assumption | omega) | exact Hid.mk ⟨fun _ => by first | assumption | omega, fun _ => by first | assumption | omega⟩) (by first | assumption | omega | (dsimp only; first | assumption | omega) | exact Hid.mk (by first | assumption | omega) | exact Hid.mk ⟨fun _ => by first | assumption | omega, fun _ => by first | assumption | omega⟩) (by first | assumption | omega | (dsimp only; first | assumption | omega) | exact Hid.mk (by first | assumption | omega) | exact Hid.mk ⟨fun _ => by first | assumption | omega, fun _ => by first | assumption | omega⟩) (by first | assumption | omega | (dsimp only; first | assumption | omega) | exact Hid.mk (by first | assumption | omega) | exact Hid.mk ⟨fun _ => by first | assumption | omega, fun _ => by first | assumption | omega⟩) (by first | assumption | omega | (dsimp only; first | assumption | omega) | exact Hid.mk (by first | assumption | omega) | exact Hid.mk ⟨fun _ => by first | assumption | omega, fun _ => by first | assumption | omega⟩)) dL_law_944 k836 k837 k0 k838 hd_L_until rfl ⟨by omega, by omega⟩ (Nat.le_of_ble_eq_true rfl) ⟨by (try dsimp only); omega, by (try dsimp only); omega⟩ hS (fun x h => h.elim (fun h => h.elim (fun ⟨j, hj, e⟩ => e ▸ hu.2 j hj) (fun h => Nat.le_trans hzH.2.1 h)) (fun e => e ▸ hoθ)) (fun H4 locs hpH4 hszH4 hkH4 hS => ?_)
          obtain ⟨hcw, ho1⟩ := hpH4
          have hzH1 := hz0.at hAB hS
          have hjH1 := hj0.at hAB hS
          have hm1 := lw_cls hLX hw hzH1 hkH4
          refine lv_istore (lv' := [(5, .int (iI 2)), (4, .int (iI i)), (3, .ref o), (2, .ref (w 0)), (1, .ref (u 0)), (0, .ref b)]) hx hb dL_law_947 hl (by decide) rfl (fun ls hl => ?_)
          refine lv_aload_n hx hb dL_law_949 rfl (lv_at hl 3 rfl) ?_
          refine lv_aload_n hx hb dL_law_950 rfl (lv_at hl 5 rfl) ?_
          refine lv_iload hx hb dL_law_951 (lv_at hl 1 rfl) ?_
          refine q_con hx hb dL_law_953 ?_
          refine q_add hx hb dL_law_954 ?_
          refine r_xld hx hb hX hbl hbA hS (i := i + 1) (z := x1) (by omega) hL ex1 dL_law_955 ?_
          refine lv_aload_n hx hb dL_law_956 rfl (lv_at hl 5 rfl) ?_
          refine lv_iload hx hb dL_law_957 (lv_at hl 1 rfl) ?_
          refine q_con hx hb dL_law_959 ?_
          refine q_add hx hb dL_law_960 ?_
          refine r_xld hx hb hX hbl hbA hS (i := i + 2) (z := x2) (by omega) hL ex2 dL_law_961 ?_
          refine lv_aload_n hx hb dL_law_962 rfl (lv_at hl 5 rfl) ?_
          refine lv_iload hx hb dL_law_963 (lv_at hl 1 rfl) ?_
          refine q_con hx hb dL_law_965 ?_
          refine q_add hx hb dL_law_966 ?_
          refine r_xld hx hb hX hbl hbA hS (i := i + 3) (z := x3) (by omega) hL ex3 dL_law_967 ?_
          refine c_Vr (As := [.int (iI x1), .int (iI x2), .int (iI x3)]) (rest := []) (b := w 0) (C := RX3) (r := some (.int (iI 0))) (st1 := [.int (iI 0)]) fx hl (mno4_until θ l S0 _ w r q dt sv th bc rf kn hm1 x1 x2 x3 (by first | assumption | omega | (dsimp only; first | assumption | omega) | exact Hid.mk (by first | assumption | omega) | exact Hid.mk ⟨fun _ => by first | assumption | omega, fun _ => by first | assumption | omega⟩) (by first | assumption | omega | (dsimp only; first | assumption | omega) | exact Hid.mk (by first | assumption | omega) | exact Hid.mk ⟨fun _ => by first | assumption | omega, fun _ => by first | assumption | omega⟩) (by first | assumption | omega | (dsimp only; first | assumption | omega) | exact Hid.mk (by first | assumption | omega) | exact Hid.mk ⟨fun _ => by first | assumption | omega, fun _ => by first | assumption | omega⟩) (by first | assumption | omega | (dsimp only; first | assumption | omega) | exact Hid.mk (by first | assumption | omega) | exact Hid.mk ⟨fun _ => by first | assumption | omega, fun _ => by first | assumption | omega⟩) (by first | assumption | omega | (dsimp only; first | assumption | omega) | exact Hid.mk (by first | assumption | omega) | exact Hid.mk ⟨fun _ => by first | assumption | omega, fun _ => by first | assumption | omega⟩) (by first | assumption | omega | (dsimp only; first | assumption | omega) | exact Hid.mk (by first | assumption | omega) | exact Hid.mk ⟨fun _ => by first | assumption | omega, fun _ => by first | assumption | omega⟩) (by first | assumption | omega | (dsimp only; first | assumption | omega) | exact Hid.mk (by first | assumption | omega) | exact Hid.mk ⟨fun _ => by first | assumption | omega, fun _ => by first | assumption | omega⟩)) (ob_recv hK hm1.2.2.1.1 rfl) dL_law_968 k1228 k1229 k1230 k6 k1231 hd_X3_until rfl rfl ⟨by omega, by omega⟩ (Nat.le_of_ble_eq_true rfl) ⟨by (try dsimp only); omega, by (try dsimp only); omega⟩ hS (wa_b hm1.2.1 hzH1.2.1) (fun H5 locs hpH5 hszH5 hkH5 hS => ?_)
          obtain ⟨r1, q1, hm2, nr, nq⟩ := hpH5
          have hzH2 := hz0.at hAB hS
          have hL2 := lw_mod hLX hzH2 hu hcw ho1 hfr hfq hm2 nr nq hkH5
          refine lv_istore (lv' := [(6, .int (iI 0)), (5, .int (iI 2)), (4, .int (iI i)), (3, .ref o), (2, .ref (w 0)), (1, .ref (u 0)), (0, .ref b)]) hx hb dL_law_971 hl (by decide) rfl (fun ls hl => ?_)
          refine lv_goto (tgt := 2331) hx hb dL_law_973 (by decide) ?_
          exact kk _ _ _ _ _ ⟨_, _, _, _, _, _, _, _, _, _, hL2⟩ hS (by omega) (by omega) (lv_sub hl [2, 3, 4, 5, 6] rfl)
      · refine lv_aload_n hx hb dL_law_924 rfl (lv_at hl 3 rfl) ?_
        refine lv_aload_n hx hb dL_law_925 rfl (lv_at hl 4 rfl) ?_
        refine lv_iload hx hb dL_law_926 (lv_at hl 0 rfl) ?_
        refine q_con hx hb dL_law_928 ?_
        refine q_add hx hb dL_law_929 ?_
        refine r_xld hx hb hX hbl hbA hS (i := i + 1) (z := x1) (by omega) hL ex1 dL_law_930 ?_
        refine lv_aload_n hx hb dL_law_931 rfl (lv_at hl 4 rfl) ?_
        refine lv_iload hx hb dL_law_932 (lv_at hl 0 rfl) ?_
        refine q_con hx hb dL_law_934 ?_
        refine q_add hx hb dL_law_935 ?_
        refine r_xld hx hb hX hbl hbA hS (i := i + 2) (z := x2) (by omega) hL ex2 dL_law_936 ?_
        refine lv_aload_n hx hb dL_law_937 rfl (lv_at hl 4 rfl) ?_
        refine lv_iload hx hb dL_law_938 (lv_at hl 0 rfl) ?_
        refine q_con hx hb dL_law_940 ?_
        refine q_add hx hb dL_law_941 ?_
        refine r_xld hx hb hX hbl hbA hS (i := i + 3) (z := x3) (by omega) hL ex3 dL_law_942 ?_
        refine lv_aload_n hx hb dL_law_943 rfl (lv_at hl 1 rfl) ?_
        refine c_SWr (As := [.ref (u 0), .int (iI x1), .int (iI x2), .int (iI x3), .ref o]) (rest := []) (r := .int (iI 1)) fx hl (wn3_until θ l hl0 S0 _ u dt (fun j => sv j 0) (fun j => sv j 1) (fun j => sv j 2) bc rf kn hcr hjH hn o nv sv9 ho hLX.1 x1 x2 x3 (by first | assumption | omega | (dsimp only; first | assumption | omega) | exact Hid.mk (by first | assumption | omega) | exact Hid.mk ⟨fun _ => by first | assumption | omega, fun _ => by first | assumption | omega⟩) (by first | assumption | omega | (dsimp only; first | assumption | omega) | exact Hid.mk (by first | assumption | omega) | exact Hid.mk ⟨fun _ => by first | assumption | omega, fun _ => by first | assumption | omega⟩) (by first | assumption | omega | (dsimp only; first | assumption | omega) | exact Hid.mk (by first | assumption | omega) | exact Hid.mk ⟨fun _ => by first | assumption | omega, fun _ => by first | assumption | omega⟩) (by first | assumption | omega | (dsimp only; first | assumption | omega) | exact Hid.mk (by first | assumption | omega) | exact Hid.mk ⟨fun _ => by first | assumption | omega, fun _ => by first | assumption | omega⟩) (by first | assumption | omega | (dsimp only; first | assumption | omega) | exact Hid.mk (by first | assumption | omega) | exact Hid.mk ⟨fun _ => by first | assumption | omega, fun _ => by first | assumption | omega⟩) (by first | assumption | omega | (dsimp only; first | assumption | omega) | exact Hid.mk (by first | assumption | omega) | exact Hid.mk ⟨fun _ => by first | assumption | omega, fun _ => by first | assumption | omega⟩)) dL_law_944 k836 k837 k0 k838 hd_L_until rfl ⟨by omega, by omega⟩ (Nat.le_of_ble_eq_true rfl) ⟨by (try dsimp only); omega, by (try dsimp only); omega⟩ hS (fun x h => h.elim (fun h => h.elim (fun ⟨j, hj, e⟩ => e ▸ hu.2 j hj) (fun h => Nat.le_trans hzH.2.1 h)) (fun e => e ▸ hoθ)) (fun H6 locs hpH6 hszH6 hkH6 hS => ?_)
        obtain ⟨hcw, ho1⟩ := hpH6
        have hzH1 := hz0.at hAB hS
        have hjH1 := hj0.at hAB hS
        have hm1 := lw_cls hLX hw hzH1 hkH6
        refine lv_istore (lv' := [(5, .int (iI 1)), (4, .int (iI i)), (3, .ref o), (2, .ref (w 0)), (1, .ref (u 0)), (0, .ref b)]) hx hb dL_law_947 hl (by decide) rfl (fun ls hl => ?_)
        refine lv_aload_n hx hb dL_law_949 rfl (lv_at hl 3 rfl) ?_
        refine lv_aload_n hx hb dL_law_950 rfl (lv_at hl 5 rfl) ?_
        refine lv_iload hx hb dL_law_951 (lv_at hl 1 rfl) ?_
        refine q_con hx hb dL_law_953 ?_
        refine q_add hx hb dL_law_954 ?_
        refine r_xld hx hb hX hbl hbA hS (i := i + 1) (z := x1) (by omega) hL ex1 dL_law_955 ?_
        refine lv_aload_n hx hb dL_law_956 rfl (lv_at hl 5 rfl) ?_
        refine lv_iload hx hb dL_law_957 (lv_at hl 1 rfl) ?_
        refine q_con hx hb dL_law_959 ?_
        refine q_add hx hb dL_law_960 ?_
        refine r_xld hx hb hX hbl hbA hS (i := i + 2) (z := x2) (by omega) hL ex2 dL_law_961 ?_
        refine lv_aload_n hx hb dL_law_962 rfl (lv_at hl 5 rfl) ?_
        refine lv_iload hx hb dL_law_963 (lv_at hl 1 rfl) ?_
        refine q_con hx hb dL_law_965 ?_
        refine q_add hx hb dL_law_966 ?_
        refine r_xld hx hb hX hbl hbA hS (i := i + 3) (z := x3) (by omega) hL ex3 dL_law_967 ?_
        refine c_Vr (As := [.int (iI x1), .int (iI x2), .int (iI x3)]) (rest := []) (b := w 0) (C := RX3) (r := some (.int (iI 0))) (st1 := [.int (iI 0)]) fx hl (mno3_until θ l S0 _ w r q dt sv th bc rf kn hm1 x1 x2 x3 (by first | assumption | omega | (dsimp only; first | assumption | omega) | exact Hid.mk (by first | assumption | omega) | exact Hid.mk ⟨fun _ => by first | assumption | omega, fun _ => by first | assumption | omega⟩) (by first | assumption | omega | (dsimp only; first | assumption | omega) | exact Hid.mk (by first | assumption | omega) | exact Hid.mk ⟨fun _ => by first | assumption | omega, fun _ => by first | assumption | omega⟩) (by first | assumption | omega | (dsimp only; first | assumption | omega) | exact Hid.mk (by first | assumption | omega) | exact Hid.mk ⟨fun _ => by first | assumption | omega, fun _ => by first | assumption | omega⟩) (by first | assumption | omega | (dsimp only; first | assumption | omega) | exact Hid.mk (by first | assumption | omega) | exact Hid.mk ⟨fun _ => by first | assumption | omega, fun _ => by first | assumption | omega⟩) (by first | assumption | omega | (dsimp only; first | assumption | omega) | exact Hid.mk (by first | assumption | omega) | exact Hid.mk ⟨fun _ => by first | assumption | omega, fun _ => by first | assumption | omega⟩) (by first | assumption | omega | (dsimp only; first | assumption | omega) | exact Hid.mk (by first | assumption | omega) | exact Hid.mk ⟨fun _ => by first | assumption | omega, fun _ => by first | assumption | omega⟩)) (ob_recv hK hm1.2.2.1.1 rfl) dL_law_968 k1228 k1229 k1230 k6 k1231 hd_X3_until rfl rfl ⟨by omega, by omega⟩ (Nat.le_of_ble_eq_true rfl) ⟨by (try dsimp only); omega, by (try dsimp only); omega⟩ hS (wa_b hm1.2.1 hzH1.2.1) (fun H7 locs hpH7 hszH7 hkH7 hS => ?_)
        obtain ⟨r1, q1, hm2, nr, nq⟩ := hpH7
        have hzH2 := hz0.at hAB hS
        have hL2 := lw_mod hLX hzH2 hu hcw ho1 hfr hfq hm2 nr nq hkH7
        refine lv_istore (lv' := [(6, .int (iI 0)), (5, .int (iI 1)), (4, .int (iI i)), (3, .ref o), (2, .ref (w 0)), (1, .ref (u 0)), (0, .ref b)]) hx hb dL_law_971 hl (by decide) rfl (fun ls hl => ?_)
        refine lv_goto (tgt := 2331) hx hb dL_law_973 (by decide) ?_
        exact kk _ _ _ _ _ ⟨_, _, _, _, _, _, _, _, _, _, hL2⟩ hS (by omega) (by omega) (lv_sub hl [2, 3, 4, 5, 6] rfl)
    · refine lv_aload_n hx hb dL_law_924 rfl (lv_at hl 3 rfl) ?_
      refine lv_aload_n hx hb dL_law_925 rfl (lv_at hl 4 rfl) ?_
      refine lv_iload hx hb dL_law_926 (lv_at hl 0 rfl) ?_
      refine q_con hx hb dL_law_928 ?_
      refine q_add hx hb dL_law_929 ?_
      refine r_xld hx hb hX hbl hbA hS (i := i + 1) (z := x1) (by omega) hL ex1 dL_law_930 ?_
      refine lv_aload_n hx hb dL_law_931 rfl (lv_at hl 4 rfl) ?_
      refine lv_iload hx hb dL_law_932 (lv_at hl 0 rfl) ?_
      refine q_con hx hb dL_law_934 ?_
      refine q_add hx hb dL_law_935 ?_
      refine r_xld hx hb hX hbl hbA hS (i := i + 2) (z := x2) (by omega) hL ex2 dL_law_936 ?_
      refine lv_aload_n hx hb dL_law_937 rfl (lv_at hl 4 rfl) ?_
      refine lv_iload hx hb dL_law_938 (lv_at hl 0 rfl) ?_
      refine q_con hx hb dL_law_940 ?_
      refine q_add hx hb dL_law_941 ?_
      refine r_xld hx hb hX hbl hbA hS (i := i + 3) (z := x3) (by omega) hL ex3 dL_law_942 ?_
      refine lv_aload_n hx hb dL_law_943 rfl (lv_at hl 1 rfl) ?_
      refine c_SWr (As := [.ref (u 0), .int (iI x1), .int (iI x2), .int (iI x3), .ref o]) (rest := []) (r := .int (iI 1)) fx hl (wn2_until θ l hl0 S0 _ u dt (fun j => sv j 0) (fun j => sv j 1) (fun j => sv j 2) bc rf kn hcr hjH hn o nv sv9 ho hLX.1 x1 x2 x3 (by first | assumption | omega | (dsimp only; first | assumption | omega) | exact Hid.mk (by first | assumption | omega) | exact Hid.mk ⟨fun _ => by first | assumption | omega, fun _ => by first | assumption | omega⟩) (by first | assumption | omega | (dsimp only; first | assumption | omega) | exact Hid.mk (by first | assumption | omega) | exact Hid.mk ⟨fun _ => by first | assumption | omega, fun _ => by first | assumption | omega⟩) (by first | assumption | omega | (dsimp only; first | assumption | omega) | exact Hid.mk (by first | assumption | omega) | exact Hid.mk ⟨fun _ => by first | assumption | omega, fun _ => by first | assumption | omega⟩) (by first | assumption | omega | (dsimp only; first | assumption | omega) | exact Hid.mk (by first | assumption | omega) | exact Hid.mk ⟨fun _ => by first | assumption | omega, fun _ => by first | assumption | omega⟩) (by first | assumption | omega | (dsimp only; first | assumption | omega) | exact Hid.mk (by first | assumption | omega) | exact Hid.mk ⟨fun _ => by first | assumption | omega, fun _ => by first | assumption | omega⟩)) dL_law_944 k836 k837 k0 k838 hd_L_until rfl ⟨by omega, by omega⟩ (Nat.le_of_ble_eq_true rfl) ⟨by (try dsimp only); omega, by (try dsimp only); omega⟩ hS (fun x h => h.elim (fun h => h.elim (fun ⟨j, hj, e⟩ => e ▸ hu.2 j hj) (fun h => Nat.le_trans hzH.2.1 h)) (fun e => e ▸ hoθ)) (fun H8 locs hpH8 hszH8 hkH8 hS => ?_)
      obtain ⟨hcw, ho1⟩ := hpH8
      have hzH1 := hz0.at hAB hS
      have hjH1 := hj0.at hAB hS
      have hm1 := lw_cls hLX hw hzH1 hkH8
      refine lv_istore (lv' := [(5, .int (iI 1)), (4, .int (iI i)), (3, .ref o), (2, .ref (w 0)), (1, .ref (u 0)), (0, .ref b)]) hx hb dL_law_947 hl (by decide) rfl (fun ls hl => ?_)
      refine lv_aload_n hx hb dL_law_949 rfl (lv_at hl 3 rfl) ?_
      refine lv_aload_n hx hb dL_law_950 rfl (lv_at hl 5 rfl) ?_
      refine lv_iload hx hb dL_law_951 (lv_at hl 1 rfl) ?_
      refine q_con hx hb dL_law_953 ?_
      refine q_add hx hb dL_law_954 ?_
      refine r_xld hx hb hX hbl hbA hS (i := i + 1) (z := x1) (by omega) hL ex1 dL_law_955 ?_
      refine lv_aload_n hx hb dL_law_956 rfl (lv_at hl 5 rfl) ?_
      refine lv_iload hx hb dL_law_957 (lv_at hl 1 rfl) ?_
      refine q_con hx hb dL_law_959 ?_
      refine q_add hx hb dL_law_960 ?_
      refine r_xld hx hb hX hbl hbA hS (i := i + 2) (z := x2) (by omega) hL ex2 dL_law_961 ?_
      refine lv_aload_n hx hb dL_law_962 rfl (lv_at hl 5 rfl) ?_
      refine lv_iload hx hb dL_law_963 (lv_at hl 1 rfl) ?_
      refine q_con hx hb dL_law_965 ?_
      refine q_add hx hb dL_law_966 ?_
      refine r_xld hx hb hX hbl hbA hS (i := i + 3) (z := x3) (by omega) hL ex3 dL_law_967 ?_
      refine c_Vr (As := [.int (iI x1), .int (iI x2), .int (iI x3)]) (rest := []) (b := w 0) (C := RX3) (r := some (.int (iI 0))) (st1 := [.int (iI 0)]) fx hl (mno2_until θ l S0 _ w r q dt sv th bc rf kn hm1 x1 x2 x3 (by first | assumption | omega | (dsimp only; first | assumption | omega) | exact Hid.mk (by first | assumption | omega) | exact Hid.mk ⟨fun _ => by first | assumption | omega, fun _ => by first | assumption | omega⟩) (by first | assumption | omega | (dsimp only; first | assumption | omega) | exact Hid.mk (by first | assumption | omega) | exact Hid.mk ⟨fun _ => by first | assumption | omega, fun _ => by first | assumption | omega⟩) (by first | assumption | omega | (dsimp only; first | assumption | omega) | exact Hid.mk (by first | assumption | omega) | exact Hid.mk ⟨fun _ => by first | assumption | omega, fun _ => by first | assumption | omega⟩) (by first | assumption | omega | (dsimp only; first | assumption | omega) | exact Hid.mk (by first | assumption | omega) | exact Hid.mk ⟨fun _ => by first | assumption | omega, fun _ => by first | assumption | omega⟩) (by first | assumption | omega | (dsimp only; first | assumption | omega) | exact Hid.mk (by first | assumption | omega) | exact Hid.mk ⟨fun _ => by first | assumption | omega, fun _ => by first | assumption | omega⟩)) (ob_recv hK hm1.2.2.1.1 rfl) dL_law_968 k1228 k1229 k1230 k6 k1231 hd_X3_until rfl rfl ⟨by omega, by omega⟩ (Nat.le_of_ble_eq_true rfl) ⟨by (try dsimp only); omega, by (try dsimp only); omega⟩ hS (wa_b hm1.2.1 hzH1.2.1) (fun H9 locs hpH9 hszH9 hkH9 hS => ?_)
      obtain ⟨r1, q1, hm2, nr, nq⟩ := hpH9
      have hzH2 := hz0.at hAB hS
      have hL2 := lw_mod hLX hzH2 hu hcw ho1 hfr hfq hm2 nr nq hkH9
      refine lv_istore (lv' := [(6, .int (iI 0)), (5, .int (iI 1)), (4, .int (iI i)), (3, .ref o), (2, .ref (w 0)), (1, .ref (u 0)), (0, .ref b)]) hx hb dL_law_971 hl (by decide) rfl (fun ls hl => ?_)
      refine lv_goto (tgt := 2331) hx hb dL_law_973 (by decide) ?_
      exact kk _ _ _ _ _ ⟨_, _, _, _, _, _, _, _, _, _, hL2⟩ hS (by omega) (by omega) (lv_sub hl [2, 3, 4, 5, 6] rfl)
  · refine lv_aload_n hx hb dL_law_924 rfl (lv_at hl 3 rfl) ?_
    refine lv_aload_n hx hb dL_law_925 rfl (lv_at hl 4 rfl) ?_
    refine lv_iload hx hb dL_law_926 (lv_at hl 0 rfl) ?_
    refine q_con hx hb dL_law_928 ?_
    refine q_add hx hb dL_law_929 ?_
    refine r_xld hx hb hX hbl hbA hS (i := i + 1) (z := x1) (by omega) hL ex1 dL_law_930 ?_
    refine lv_aload_n hx hb dL_law_931 rfl (lv_at hl 4 rfl) ?_
    refine lv_iload hx hb dL_law_932 (lv_at hl 0 rfl) ?_
    refine q_con hx hb dL_law_934 ?_
    refine q_add hx hb dL_law_935 ?_
    refine r_xld hx hb hX hbl hbA hS (i := i + 2) (z := x2) (by omega) hL ex2 dL_law_936 ?_
    refine lv_aload_n hx hb dL_law_937 rfl (lv_at hl 4 rfl) ?_
    refine lv_iload hx hb dL_law_938 (lv_at hl 0 rfl) ?_
    refine q_con hx hb dL_law_940 ?_
    refine q_add hx hb dL_law_941 ?_
    refine r_xld hx hb hX hbl hbA hS (i := i + 3) (z := x3) (by omega) hL ex3 dL_law_942 ?_
    refine lv_aload_n hx hb dL_law_943 rfl (lv_at hl 1 rfl) ?_
    refine c_SWr (As := [.ref (u 0), .int (iI x1), .int (iI x2), .int (iI x3), .ref o]) (rest := []) (r := .int (iI 1)) fx hl (wn1_until θ l hl0 S0 _ u dt (fun j => sv j 0) (fun j => sv j 1) (fun j => sv j 2) bc rf kn hcr hjH hn o nv sv9 ho hLX.1 x1 x2 x3 (by first | assumption | omega | (dsimp only; first | assumption | omega) | exact Hid.mk (by first | assumption | omega) | exact Hid.mk ⟨fun _ => by first | assumption | omega, fun _ => by first | assumption | omega⟩) (by first | assumption | omega | (dsimp only; first | assumption | omega) | exact Hid.mk (by first | assumption | omega) | exact Hid.mk ⟨fun _ => by first | assumption | omega, fun _ => by first | assumption | omega⟩) (by first | assumption | omega | (dsimp only; first | assumption | omega) | exact Hid.mk (by first | assumption | omega) | exact Hid.mk ⟨fun _ => by first | assumption | omega, fun _ => by first | assumption | omega⟩) (by first | assumption | omega | (dsimp only; first | assumption | omega) | exact Hid.mk (by first | assumption | omega) | exact Hid.mk ⟨fun _ => by first | assumption | omega, fun _ => by first | assumption | omega⟩)) dL_law_944 k836 k837 k0 k838 hd_L_until rfl ⟨by omega, by omega⟩ (Nat.le_of_ble_eq_true rfl) ⟨by (try dsimp only); omega, by (try dsimp only); omega⟩ hS (fun x h => h.elim (fun h => h.elim (fun ⟨j, hj, e⟩ => e ▸ hu.2 j hj) (fun h => Nat.le_trans hzH.2.1 h)) (fun e => e ▸ hoθ)) (fun H10 locs hpH10 hszH10 hkH10 hS => ?_)
    obtain ⟨hcw, ho1⟩ := hpH10
    have hzH1 := hz0.at hAB hS
    have hjH1 := hj0.at hAB hS
    have hm1 := lw_cls hLX hw hzH1 hkH10
    refine lv_istore (lv' := [(5, .int (iI 1)), (4, .int (iI i)), (3, .ref o), (2, .ref (w 0)), (1, .ref (u 0)), (0, .ref b)]) hx hb dL_law_947 hl (by decide) rfl (fun ls hl => ?_)
    refine lv_aload_n hx hb dL_law_949 rfl (lv_at hl 3 rfl) ?_
    refine lv_aload_n hx hb dL_law_950 rfl (lv_at hl 5 rfl) ?_
    refine lv_iload hx hb dL_law_951 (lv_at hl 1 rfl) ?_
    refine q_con hx hb dL_law_953 ?_
    refine q_add hx hb dL_law_954 ?_
    refine r_xld hx hb hX hbl hbA hS (i := i + 1) (z := x1) (by omega) hL ex1 dL_law_955 ?_
    refine lv_aload_n hx hb dL_law_956 rfl (lv_at hl 5 rfl) ?_
    refine lv_iload hx hb dL_law_957 (lv_at hl 1 rfl) ?_
    refine q_con hx hb dL_law_959 ?_
    refine q_add hx hb dL_law_960 ?_
    refine r_xld hx hb hX hbl hbA hS (i := i + 2) (z := x2) (by omega) hL ex2 dL_law_961 ?_
    refine lv_aload_n hx hb dL_law_962 rfl (lv_at hl 5 rfl) ?_
    refine lv_iload hx hb dL_law_963 (lv_at hl 1 rfl) ?_
    refine q_con hx hb dL_law_965 ?_
    refine q_add hx hb dL_law_966 ?_
    refine r_xld hx hb hX hbl hbA hS (i := i + 3) (z := x3) (by omega) hL ex3 dL_law_967 ?_
    refine c_Vr (As := [.int (iI x1), .int (iI x2), .int (iI x3)]) (rest := []) (b := w 0) (C := RX3) (r := some (.int (iI 0))) (st1 := [.int (iI 0)]) fx hl (mno1_until θ l S0 _ w r q dt sv th bc rf kn hm1 x1 x2 x3 (by first | assumption | omega | (dsimp only; first | assumption | omega) | exact Hid.mk (by first | assumption | omega) | exact Hid.mk ⟨fun _ => by first | assumption | omega, fun _ => by first | assumption | omega⟩) (by first | assumption | omega | (dsimp only; first | assumption | omega) | exact Hid.mk (by first | assumption | omega) | exact Hid.mk ⟨fun _ => by first | assumption | omega, fun _ => by first | assumption | omega⟩) (by first | assumption | omega | (dsimp only; first | assumption | omega) | exact Hid.mk (by first | assumption | omega) | exact Hid.mk ⟨fun _ => by first | assumption | omega, fun _ => by first | assumption | omega⟩) (by first | assumption | omega | (dsimp only; first | assumption | omega) | exact Hid.mk (by first | assumption | omega) | exact Hid.mk ⟨fun _ => by first | assumption | omega, fun _ => by first | assumption | omega⟩)) (ob_recv hK hm1.2.2.1.1 rfl) dL_law_968 k1228 k1229 k1230 k6 k1231 hd_X3_until rfl rfl ⟨by omega, by omega⟩ (Nat.le_of_ble_eq_true rfl) ⟨by (try dsimp only); omega, by (try dsimp only); omega⟩ hS (wa_b hm1.2.1 hzH1.2.1) (fun H11 locs hpH11 hszH11 hkH11 hS => ?_)
    obtain ⟨r1, q1, hm2, nr, nq⟩ := hpH11
    have hzH2 := hz0.at hAB hS
    have hL2 := lw_mod hLX hzH2 hu hcw ho1 hfr hfq hm2 nr nq hkH11
    refine lv_istore (lv' := [(6, .int (iI 0)), (5, .int (iI 1)), (4, .int (iI i)), (3, .ref o), (2, .ref (w 0)), (1, .ref (u 0)), (0, .ref b)]) hx hb dL_law_971 hl (by decide) rfl (fun ls hl => ?_)
    refine lv_goto (tgt := 2331) hx hb dL_law_973 (by decide) ?_
    exact kk _ _ _ _ _ ⟨_, _, _, _, _, _, _, _, _, _, hL2⟩ hS (by omega) (by omega) (lv_sub hl [2, 3, 4, 5, 6] rfl)

set_option maxHeartbeats 4000000 in
set_option maxRecDepth 100000 in
theorem lc_addSpan {p : Program} {l : Launch} {e : Env} {R : Room} {s : State} {m : MethodId} {args : Array Value} {below : List Frame} {meth : Method} {c : Code} {Q : State → Prop} {θ : TH} {S0 : State} (fx : FX p m c cL_law 7 s args yL_law.cls S0) (hl0 : l.stackTraces = false) (hz0 : SZ θ S0 s.heap) (hj0 : SJ θ S0 s.heap) (hn : NX S0) {u w : Nat → Nat} {o b L : Nat} {xs : Nat → Int32} (hLX : LX u w o) (hoθ : θ.2.2.2 ≤ o) (hX : va_X b L xs s s.heap) (hbl : b < s.heap.size) (hbA : ¬ AJ θ b) (hL : L ≤ 2560) (hRF : 1000 ≤ R.frames ∧ 1000 ≤ R.locals) {H : Heap} {locs : List Loc} {cells slots : Nat} {ls : Array Slot} {i : Int} (hi : 0 ≤ i ∧ i + 5 ≤ (L : Int)) (hw : LWE θ S0 u w o H) (hS : va_S (AJ θ) s.heap H locs) (hRc : cells + 400 ≤ R.cells ∧ slots + 7000 ≤ R.slots) (hl : lv_has ls 7 [(4, .int (iI i)), (3, .ref o), (2, .ref (w 0)), (1, .ref (u 0)), (0, .ref b)]) (kk : LK p l e R s m args below meth c Q θ S0 u w o b i cells slots 2331) : W p l e R s m args below meth c H locs cells slots Q (F0 m 976 ls []) := by
  obtain ⟨hx, hb, hml, hown, hts⟩ := id fx.1
  have hAB : ∀ x : Nat, AJ θ x → θ.2.2.2 ≤ x := fun _ h => h
  obtain ⟨r, q, dt, sv, th, bc, rf, kn, nv, sv9, hw⟩ := hw
  obtain ⟨hcr, hmr, ho, hfr, hfq⟩ := id hw
  have hzH := hz0.at hAB hS
  have hjH := hj0.at hAB hS
  have hK := sz_K fx.2 hz0
  have hu := hcr.2.1
  obtain ⟨x1, ex1⟩ : ∃ z : Int, z = (xs (i + 1).toNat).toInt := ⟨_, rfl⟩
  have bx1 := x32_b ex1
  obtain ⟨x2, ex2⟩ : ∃ z : Int, z = (xs (i + 2).toNat).toInt := ⟨_, rfl⟩
  have bx2 := x32_b ex2
  by_cases hc1 : 0 ≤ x1 ∧ x1 < 3
  · by_cases hc2 : 0 ≤ x2 ∧ x2 < 3
    · by_cases hc3 : -20000 ≤ sv x1.toNat 0 + sv x2.toNat 0 ∧ sv x1.toNat 0 + sv x2.toNat 0 ≤ 20000
      · by_cases hc4 : -240000 ≤ sv x1.toNat 1 + sv x2.toNat 1 ∧ sv x1.toNat 1 + sv x2.toNat 1 ≤ 240000
        · by_cases hc5 : -100000 ≤ sv x1.toNat 2 + sv x2.toNat 2 ∧ sv x1.toNat 2 + sv x2.toNat 2 ≤ 100000
          · refine lv_aload_n hx hb dL_law_976 rfl (lv_at hl 3 rfl) ?_
            refine lv_aload_n hx hb dL_law_977 rfl (lv_at hl 4 rfl) ?_
            refine lv_iload hx hb dL_law_978 (lv_at hl 0 rfl) ?_
            refine q_con hx hb dL_law_980 ?_
            refine q_add hx hb dL_law_981 ?_
            refine r_xld hx hb hX hbl hbA hS (i := i + 1) (z := x1) (by omega) hL ex1 dL_law_982 ?_
            refine lv_aload_n hx hb dL_law_983 rfl (lv_at hl 4 rfl) ?_
            refine lv_iload hx hb dL_law_984 (lv_at hl 0 rfl) ?_
            refine q_con hx hb dL_law_986 ?_
            refine q_add hx hb dL_law_987 ?_
            refine r_xld hx hb hX hbl hbA hS (i := i + 2) (z := x2) (by omega) hL ex2 dL_law_988 ?_
            refine lv_aload_n hx hb dL_law_989 rfl (lv_at hl 1 rfl) ?_
            refine c_SWr (As := [.ref (u 0), .int (iI x1), .int (iI x2), .ref o]) (rest := []) (r := .int (iI 0)) fx hl (wr_addSpan θ l hl0 S0 _ u dt (fun j => sv j 0) (fun j => sv j 1) (fun j => sv j 2) bc rf kn hcr hjH hn o nv sv9 ho hLX.1 x1 x2 (by first | assumption | omega | (dsimp only; first | assumption | omega) | exact Hid.mk (by first | assumption | omega) | exact Hid.mk ⟨fun _ => by first | assumption | omega, fun _ => by first | assumption | omega⟩) (by first | assumption | omega | (dsimp only; first | assumption | omega) | exact Hid.mk (by first | assumption | omega) | exact Hid.mk ⟨fun _ => by first | assumption | omega, fun _ => by first | assumption | omega⟩) (by first | assumption | omega | (dsimp only; first | assumption | omega) | exact Hid.mk (by first | assumption | omega) | exact Hid.mk ⟨fun _ => by first | assumption | omega, fun _ => by first | assumption | omega⟩) (by first | assumption | omega | (dsimp only; first | assumption | omega) | exact Hid.mk (by first | assumption | omega) | exact Hid.mk ⟨fun _ => by first | assumption | omega, fun _ => by first | assumption | omega⟩) (by first | assumption | omega | (dsimp only; first | assumption | omega) | exact Hid.mk (by first | assumption | omega) | exact Hid.mk ⟨fun _ => by first | assumption | omega, fun _ => by first | assumption | omega⟩) (by first | assumption | omega | (dsimp only; first | assumption | omega) | exact Hid.mk (by first | assumption | omega) | exact Hid.mk ⟨fun _ => by first | assumption | omega, fun _ => by first | assumption | omega⟩) (by first | assumption | omega | (dsimp only; first | assumption | omega) | exact Hid.mk (by first | assumption | omega) | exact Hid.mk ⟨fun _ => by first | assumption | omega, fun _ => by first | assumption | omega⟩)) dL_law_990 k847 k848 k0 k849 hd_L_addSpan rfl ⟨by omega, by omega⟩ (Nat.le_of_ble_eq_true rfl) ⟨by (try dsimp only); omega, by (try dsimp only); omega⟩ hS (fun x h => h.elim (fun h => h.elim (fun ⟨j, hj, e⟩ => e ▸ hu.2 j hj) (fun h => Nat.le_trans hzH.2.1 h)) (fun e => e ▸ hoθ)) (fun H1 locs hpH1 hszH1 hkH1 hS => ?_)
            obtain ⟨hcw, ho1⟩ := hpH1
            have hzH1 := hz0.at hAB hS
            have hjH1 := hj0.at hAB hS
            have hm1 := lw_cls hLX hw hzH1 hkH1
            refine lv_istore (lv' := [(5, .int (iI 0)), (4, .int (iI i)), (3, .ref o), (2, .ref (w 0)), (1, .ref (u 0)), (0, .ref b)]) hx hb dL_law_993 hl (by decide) rfl (fun ls hl => ?_)
            refine lv_aload_n hx hb dL_law_995 rfl (lv_at hl 3 rfl) ?_
            refine lv_aload_n hx hb dL_law_996 rfl (lv_at hl 5 rfl) ?_
            refine lv_iload hx hb dL_law_997 (lv_at hl 1 rfl) ?_
            refine q_con hx hb dL_law_999 ?_
            refine q_add hx hb dL_law_1000 ?_
            refine r_xld hx hb hX hbl hbA hS (i := i + 1) (z := x1) (by omega) hL ex1 dL_law_1001 ?_
            refine lv_aload_n hx hb dL_law_1002 rfl (lv_at hl 5 rfl) ?_
            refine lv_iload hx hb dL_law_1003 (lv_at hl 1 rfl) ?_
            refine q_con hx hb dL_law_1005 ?_
            refine q_add hx hb dL_law_1006 ?_
            refine r_xld hx hb hX hbl hbA hS (i := i + 2) (z := x2) (by omega) hL ex2 dL_law_1007 ?_
            refine c_Vr (As := [.int (iI x1), .int (iI x2)]) (rest := []) (b := w 0) (C := RX3) (r := some (.int (iI (sv x1.toNat 2 + sv x2.toNat 2)))) (st1 := [.int (iI (sv x1.toNat 2 + sv x2.toNat 2))]) fx hl (mok_addSpan θ l S0 _ w r q dt sv th bc rf kn hm1 x1 x2 (by first | assumption | omega | (dsimp only; first | assumption | omega) | exact Hid.mk (by first | assumption | omega) | exact Hid.mk ⟨fun _ => by first | assumption | omega, fun _ => by first | assumption | omega⟩) (by first | assumption | omega | (dsimp only; first | assumption | omega) | exact Hid.mk (by first | assumption | omega) | exact Hid.mk ⟨fun _ => by first | assumption | omega, fun _ => by first | assumption | omega⟩) (by first | assumption | omega | (dsimp only; first | assumption | omega) | exact Hid.mk (by first | assumption | omega) | exact Hid.mk ⟨fun _ => by first | assumption | omega, fun _ => by first | assumption | omega⟩) (by first | assumption | omega | (dsimp only; first | assumption | omega) | exact Hid.mk (by first | assumption | omega) | exact Hid.mk ⟨fun _ => by first | assumption | omega, fun _ => by first | assumption | omega⟩) (by first | assumption | omega | (dsimp only; first | assumption | omega) | exact Hid.mk (by first | assumption | omega) | exact Hid.mk ⟨fun _ => by first | assumption | omega, fun _ => by first | assumption | omega⟩) (by first | assumption | omega | (dsimp only; first | assumption | omega) | exact Hid.mk (by first | assumption | omega) | exact Hid.mk ⟨fun _ => by first | assumption | omega, fun _ => by first | assumption | omega⟩) (by first | assumption | omega | (dsimp only; first | assumption | omega) | exact Hid.mk (by first | assumption | omega) | exact Hid.mk ⟨fun _ => by first | assumption | omega, fun _ => by first | assumption | omega⟩)) (ob_recv hK hm1.2.2.1.1 rfl) dL_law_1008 k1242 k1243 k1244 k6 k1245 hd_X3_addSpan rfl rfl ⟨by omega, by omega⟩ (Nat.le_of_ble_eq_true rfl) ⟨by (try dsimp only); omega, by (try dsimp only); omega⟩ hS (wa_b hm1.2.1 hzH1.2.1) (fun H2 locs hpH2 hszH2 hkH2 hS => ?_)
            obtain ⟨r1, q1, hm2, nr, nq⟩ := hpH2
            have hzH2 := hz0.at hAB hS
            have hcw : CW θ u H1 dt (fun j => up sv x1.toNat (tri (sv x1.toNat 0 + sv x2.toNat 0) (sv x1.toNat 1 + sv x2.toNat 1) (sv x1.toNat 2 + sv x2.toNat 2)) j 0) (fun j => up sv x1.toNat (tri (sv x1.toNat 0 + sv x2.toNat 0) (sv x1.toNat 1 + sv x2.toNat 1) (sv x1.toNat 2 + sv x2.toNat 2)) j 1) (fun j => up sv x1.toNat (tri (sv x1.toNat 0 + sv x2.toNat 0) (sv x1.toNat 1 + sv x2.toNat 1) (sv x1.toNat 2 + sv x2.toNat 2)) j 2) (bc + 1) rf kn := by rw [← up_tri0 sv x1.toNat (sv x1.toNat 0 + sv x2.toNat 0) (sv x1.toNat 1 + sv x2.toNat 1) (sv x1.toNat 2 + sv x2.toNat 2), ← up_tri1 sv x1.toNat (sv x1.toNat 0 + sv x2.toNat 0) (sv x1.toNat 1 + sv x2.toNat 1) (sv x1.toNat 2 + sv x2.toNat 2), ← up_tri2 sv x1.toNat (sv x1.toNat 0 + sv x2.toNat 0) (sv x1.toNat 1 + sv x2.toNat 1) (sv x1.toNat 2 + sv x2.toNat 2)]; exact hcw
            have hL2 := lw_mod hLX hzH2 hu hcw ho1 hfr hfq hm2 nr nq hkH2
            refine q_nm (fun z3 ez3 => ?_)
            refine lv_istore (lv' := [(6, .int (iI z3)), (5, .int (iI 0)), (4, .int (iI i)), (3, .ref o), (2, .ref (w 0)), (1, .ref (u 0)), (0, .ref b)]) hx hb dL_law_1011 hl (by decide) rfl (fun ls hl => ?_)
            refine lv_goto (tgt := 2331) hx hb dL_law_1013 (by decide) ?_
            exact kk _ _ _ _ _ ⟨_, _, _, _, _, _, _, _, _, _, hL2⟩ hS (by omega) (by omega) (lv_sub hl [2, 3, 4, 5, 6] rfl)
          · refine lv_aload_n hx hb dL_law_976 rfl (lv_at hl 3 rfl) ?_
            refine lv_aload_n hx hb dL_law_977 rfl (lv_at hl 4 rfl) ?_
            refine lv_iload hx hb dL_law_978 (lv_at hl 0 rfl) ?_
            refine q_con hx hb dL_law_980 ?_
            refine q_add hx hb dL_law_981 ?_
            refine r_xld hx hb hX hbl hbA hS (i := i + 1) (z := x1) (by omega) hL ex1 dL_law_982 ?_
            refine lv_aload_n hx hb dL_law_983 rfl (lv_at hl 4 rfl) ?_
            refine lv_iload hx hb dL_law_984 (lv_at hl 0 rfl) ?_
            refine q_con hx hb dL_law_986 ?_
            refine q_add hx hb dL_law_987 ?_
            refine r_xld hx hb hX hbl hbA hS (i := i + 2) (z := x2) (by omega) hL ex2 dL_law_988 ?_
            refine lv_aload_n hx hb dL_law_989 rfl (lv_at hl 1 rfl) ?_
            refine c_SWr (As := [.ref (u 0), .int (iI x1), .int (iI x2), .ref o]) (rest := []) (r := .int (iI 2)) fx hl (wn5_addSpan θ l hl0 S0 _ u dt (fun j => sv j 0) (fun j => sv j 1) (fun j => sv j 2) bc rf kn hcr hjH hn o nv sv9 ho hLX.1 x1 x2 (by first | assumption | omega | (dsimp only; first | assumption | omega) | exact Hid.mk (by first | assumption | omega) | exact Hid.mk ⟨fun _ => by first | assumption | omega, fun _ => by first | assumption | omega⟩) (by first | assumption | omega | (dsimp only; first | assumption | omega) | exact Hid.mk (by first | assumption | omega) | exact Hid.mk ⟨fun _ => by first | assumption | omega, fun _ => by first | assumption | omega⟩) (by first | assumption | omega | (dsimp only; first | assumption | omega) | exact Hid.mk (by first | assumption | omega) | exact Hid.mk ⟨fun _ => by first | assumption | omega, fun _ => by first | assumption | omega⟩) (by first | assumption | omega | (dsimp only; first | assumption | omega) | exact Hid.mk (by first | assumption | omega) | exact Hid.mk ⟨fun _ => by first | assumption | omega, fun _ => by first | assumption | omega⟩) (by first | assumption | omega | (dsimp only; first | assumption | omega) | exact Hid.mk (by first | assumption | omega) | exact Hid.mk ⟨fun _ => by first | assumption | omega, fun _ => by first | assumption | omega⟩) (by first | assumption | omega | (dsimp only; first | assumption | omega) | exact Hid.mk (by first | assumption | omega) | exact Hid.mk ⟨fun _ => by first | assumption | omega, fun _ => by first | assumption | omega⟩) (by first | assumption | omega | (dsimp only; first | assumption | omega) | exact Hid.mk (by first | assumption | omega) | exact Hid.mk ⟨fun _ => by first | assumption | omega, fun _ => by first | assumption | omega⟩)) dL_law_990 k847 k848 k0 k849 hd_L_addSpan rfl ⟨by omega, by omega⟩ (Nat.le_of_ble_eq_true rfl) ⟨by (try dsimp only); omega, by (try dsimp only); omega⟩ hS (fun x h => h.elim (fun h => h.elim (fun ⟨j, hj, e⟩ => e ▸ hu.2 j hj) (fun h => Nat.le_trans hzH.2.1 h)) (fun e => e ▸ hoθ)) (fun H4 locs hpH4 hszH4 hkH4 hS => ?_)
            obtain ⟨hcw, ho1⟩ := hpH4
            have hzH1 := hz0.at hAB hS
            have hjH1 := hj0.at hAB hS
            have hm1 := lw_cls hLX hw hzH1 hkH4
            refine lv_istore (lv' := [(5, .int (iI 2)), (4, .int (iI i)), (3, .ref o), (2, .ref (w 0)), (1, .ref (u 0)), (0, .ref b)]) hx hb dL_law_993 hl (by decide) rfl (fun ls hl => ?_)
            refine lv_aload_n hx hb dL_law_995 rfl (lv_at hl 3 rfl) ?_
            refine lv_aload_n hx hb dL_law_996 rfl (lv_at hl 5 rfl) ?_
            refine lv_iload hx hb dL_law_997 (lv_at hl 1 rfl) ?_
            refine q_con hx hb dL_law_999 ?_
            refine q_add hx hb dL_law_1000 ?_
            refine r_xld hx hb hX hbl hbA hS (i := i + 1) (z := x1) (by omega) hL ex1 dL_law_1001 ?_
            refine lv_aload_n hx hb dL_law_1002 rfl (lv_at hl 5 rfl) ?_
            refine lv_iload hx hb dL_law_1003 (lv_at hl 1 rfl) ?_
            refine q_con hx hb dL_law_1005 ?_
            refine q_add hx hb dL_law_1006 ?_
            refine r_xld hx hb hX hbl hbA hS (i := i + 2) (z := x2) (by omega) hL ex2 dL_law_1007 ?_
            refine c_Vr (As := [.int (iI x1), .int (iI x2)]) (rest := []) (b := w 0) (C := RX3) (r := some (.int (iI 0))) (st1 := [.int (iI 0)]) fx hl (mno5_addSpan θ l S0 _ w r q dt sv th bc rf kn hm1 x1 x2 (by first | assumption | omega | (dsimp only; first | assumption | omega) | exact Hid.mk (by first | assumption | omega) | exact Hid.mk ⟨fun _ => by first | assumption | omega, fun _ => by first | assumption | omega⟩) (by first | assumption | omega | (dsimp only; first | assumption | omega) | exact Hid.mk (by first | assumption | omega) | exact Hid.mk ⟨fun _ => by first | assumption | omega, fun _ => by first | assumption | omega⟩) (by first | assumption | omega | (dsimp only; first | assumption | omega) | exact Hid.mk (by first | assumption | omega) | exact Hid.mk ⟨fun _ => by first | assumption | omega, fun _ => by first | assumption | omega⟩) (by first | assumption | omega | (dsimp only; first | assumption | omega) | exact Hid.mk (by first | assumption | omega) | exact Hid.mk ⟨fun _ => by first | assumption | omega, fun _ => by first | assumption | omega⟩) (by first | assumption | omega | (dsimp only; first | assumption | omega) | exact Hid.mk (by first | assumption | omega) | exact Hid.mk ⟨fun _ => by first | assumption | omega, fun _ => by first | assumption | omega⟩) (by first | assumption | omega | (dsimp only; first | assumption | omega) | exact Hid.mk (by first | assumption | omega) | exact Hid.mk ⟨fun _ => by first | assumption | omega, fun _ => by first | assumption | omega⟩) (by first | assumption | omega | (dsimp only; first | assumption | omega) | exact Hid.mk (by first | assumption | omega) | exact Hid.mk ⟨fun _ => by first | assumption | omega, fun _ => by first | assumption | omega⟩)) (ob_recv hK hm1.2.2.1.1 rfl) dL_law_1008 k1242 k1243 k1244 k6 k1245 hd_X3_addSpan rfl rfl ⟨by omega, by omega⟩ (Nat.le_of_ble_eq_true rfl) ⟨by (try dsimp only); omega, by (try dsimp only); omega⟩ hS (wa_b hm1.2.1 hzH1.2.1) (fun H5 locs hpH5 hszH5 hkH5 hS => ?_)
            obtain ⟨r1, q1, hm2, nr, nq⟩ := hpH5
            have hzH2 := hz0.at hAB hS
            have hL2 := lw_mod hLX hzH2 hu hcw ho1 hfr hfq hm2 nr nq hkH5
            refine lv_istore (lv' := [(6, .int (iI 0)), (5, .int (iI 2)), (4, .int (iI i)), (3, .ref o), (2, .ref (w 0)), (1, .ref (u 0)), (0, .ref b)]) hx hb dL_law_1011 hl (by decide) rfl (fun ls hl => ?_)
            refine lv_goto (tgt := 2331) hx hb dL_law_1013 (by decide) ?_
            exact kk _ _ _ _ _ ⟨_, _, _, _, _, _, _, _, _, _, hL2⟩ hS (by omega) (by omega) (lv_sub hl [2, 3, 4, 5, 6] rfl)
        · refine lv_aload_n hx hb dL_law_976 rfl (lv_at hl 3 rfl) ?_
          refine lv_aload_n hx hb dL_law_977 rfl (lv_at hl 4 rfl) ?_
          refine lv_iload hx hb dL_law_978 (lv_at hl 0 rfl) ?_
          refine q_con hx hb dL_law_980 ?_
          refine q_add hx hb dL_law_981 ?_
          refine r_xld hx hb hX hbl hbA hS (i := i + 1) (z := x1) (by omega) hL ex1 dL_law_982 ?_
          refine lv_aload_n hx hb dL_law_983 rfl (lv_at hl 4 rfl) ?_
          refine lv_iload hx hb dL_law_984 (lv_at hl 0 rfl) ?_
          refine q_con hx hb dL_law_986 ?_
          refine q_add hx hb dL_law_987 ?_
          refine r_xld hx hb hX hbl hbA hS (i := i + 2) (z := x2) (by omega) hL ex2 dL_law_988 ?_
          refine lv_aload_n hx hb dL_law_989 rfl (lv_at hl 1 rfl) ?_
          refine c_SWr (As := [.ref (u 0), .int (iI x1), .int (iI x2), .ref o]) (rest := []) (r := .int (iI 2)) fx hl (wn4_addSpan θ l hl0 S0 _ u dt (fun j => sv j 0) (fun j => sv j 1) (fun j => sv j 2) bc rf kn hcr hjH hn o nv sv9 ho hLX.1 x1 x2 (by first | assumption | omega | (dsimp only; first | assumption | omega) | exact Hid.mk (by first | assumption | omega) | exact Hid.mk ⟨fun _ => by first | assumption | omega, fun _ => by first | assumption | omega⟩) (by first | assumption | omega | (dsimp only; first | assumption | omega) | exact Hid.mk (by first | assumption | omega) | exact Hid.mk ⟨fun _ => by first | assumption | omega, fun _ => by first | assumption | omega⟩) (by first | assumption | omega | (dsimp only; first | assumption | omega) | exact Hid.mk (by first | assumption | omega) | exact Hid.mk ⟨fun _ => by first | assumption | omega, fun _ => by first | assumption | omega⟩) (by first | assumption | omega | (dsimp only; first | assumption | omega) | exact Hid.mk (by first | assumption | omega) | exact Hid.mk ⟨fun _ => by first | assumption | omega, fun _ => by first | assumption | omega⟩) (by first | assumption | omega | (dsimp only; first | assumption | omega) | exact Hid.mk (by first | assumption | omega) | exact Hid.mk ⟨fun _ => by first | assumption | omega, fun _ => by first | assumption | omega⟩) (by first | assumption | omega | (dsimp only; first | assumption | omega) | exact Hid.mk (by first | assumption | omega) | exact Hid.mk ⟨fun _ => by first | assumption | omega, fun _ => by first | assumption | omega⟩)) dL_law_990 k847 k848 k0 k849 hd_L_addSpan rfl ⟨by omega, by omega⟩ (Nat.le_of_ble_eq_true rfl) ⟨by (try dsimp only); omega, by (try dsimp only); omega⟩ hS (fun x h => h.elim (fun h => h.elim (fun ⟨j, hj, e⟩ => e ▸ hu.2 j hj) (fun h => Nat.le_trans hzH.2.1 h)) (fun e => e ▸ hoθ)) (fun H6 locs hpH6 hszH6 hkH6 hS => ?_)
          obtain ⟨hcw, ho1⟩ := hpH6
          have hzH1 := hz0.at hAB hS
          have hjH1 := hj0.at hAB hS
          have hm1 := lw_cls hLX hw hzH1 hkH6
          refine lv_istore (lv' := [(5, .int (iI 2)), (4, .int (iI i)), (3, .ref o), (2, .ref (w 0)), (1, .ref (u 0)), (0, .ref b)]) hx hb dL_law_993 hl (by decide) rfl (fun ls hl => ?_)
          refine lv_aload_n hx hb dL_law_995 rfl (lv_at hl 3 rfl) ?_
          refine lv_aload_n hx hb dL_law_996 rfl (lv_at hl 5 rfl) ?_
          refine lv_iload hx hb dL_law_997 (lv_at hl 1 rfl) ?_
          refine q_con hx hb dL_law_999 ?_
          refine q_add hx hb dL_law_1000 ?_
          refine r_xld hx hb hX hbl hbA hS (i := i + 1) (z := x1) (by omega) hL ex1 dL_law_1001 ?_
          refine lv_aload_n hx hb dL_law_1002 rfl (lv_at hl 5 rfl) ?_
          refine lv_iload hx hb dL_law_1003 (lv_at hl 1 rfl) ?_
          refine q_con hx hb dL_law_1005 ?_
          refine q_add hx hb dL_law_1006 ?_
          refine r_xld hx hb hX hbl hbA hS (i := i + 2) (z := x2) (by omega) hL ex2 dL_law_1007 ?_
          refine c_Vr (As := [.int (iI x1), .int (iI x2)]) (rest := []) (b := w 0) (C := RX3) (r := some (.int (iI 0))) (st1 := [.int (iI 0)]) fx hl (mno4_addSpan θ l S0 _ w r q dt sv th bc rf kn hm1 x1 x2 (by first | assumption | omega | (dsimp only; first | assumption | omega) | exact Hid.mk (by first | assumption | omega) | exact Hid.mk ⟨fun _ => by first | assumption | omega, fun _ => by first | assumption | omega⟩) (by first | assumption | omega | (dsimp only; first | assumption | omega) | exact Hid.mk (by first | assumption | omega) | exact Hid.mk ⟨fun _ => by first | assumption | omega, fun _ => by first | assumption | omega⟩) (by first | assumption | omega | (dsimp only; first | assumption | omega) | exact Hid.mk (by first | assumption | omega) | exact Hid.mk ⟨fun _ => by first | assumption | omega, fun _ => by first | assumption | omega⟩) (by first | assumption | omega | (dsimp only; first | assumption | omega) | exact Hid.mk (by first | assumption | omega) | exact Hid.mk ⟨fun _ => by first | assumption | omega, fun _ => by first | assumption | omega⟩) (by first | assumption | omega | (dsimp only; first | assumption | omega) | exact Hid.mk (by first | assumption | omega) | exact Hid.mk ⟨fun _ => by first | assumption | omega, fun _ => by first | assumption | omega⟩) (by first | assumption | omega | (dsimp only; first | assumption | omega) | exact Hid.mk (by first | assumption | omega) | exact Hid.mk ⟨fun _ => by first | assumption | omega, fun _ => by first | assumption | omega⟩)) (ob_recv hK hm1.2.2.1.1 rfl) dL_law_1008 k1242 k1243 k1244 k6 k1245 hd_X3_addSpan rfl rfl ⟨by omega, by omega⟩ (Nat.le_of_ble_eq_true rfl) ⟨by (try dsimp only); omega, by (try dsimp only); omega⟩ hS (wa_b hm1.2.1 hzH1.2.1) (fun H7 locs hpH7 hszH7 hkH7 hS => ?_)
          obtain ⟨r1, q1, hm2, nr, nq⟩ := hpH7
          have hzH2 := hz0.at hAB hS
          have hL2 := lw_mod hLX hzH2 hu hcw ho1 hfr hfq hm2 nr nq hkH7
          refine lv_istore (lv' := [(6, .int (iI 0)), (5, .int (iI 2)), (4, .int (iI i)), (3, .ref o), (2, .ref (w 0)), (1, .ref (u 0)), (0, .ref b)]) hx hb dL_law_1011 hl (by decide) rfl (fun ls hl => ?_)
          refine lv_goto (tgt := 2331) hx hb dL_law_1013 (by decide) ?_
          exact kk _ _ _ _ _ ⟨_, _, _, _, _, _, _, _, _, _, hL2⟩ hS (by omega) (by omega) (lv_sub hl [2, 3, 4, 5, 6] rfl)
      · refine lv_aload_n hx hb dL_law_976 rfl (lv_at hl 3 rfl) ?_
        refine lv_aload_n hx hb dL_law_977 rfl (lv_at hl 4 rfl) ?_
        refine lv_iload hx hb dL_law_978 (lv_at hl 0 rfl) ?_
        refine q_con hx hb dL_law_980 ?_
        refine q_add hx hb dL_law_981 ?_
        refine r_xld hx hb hX hbl hbA hS (i := i + 1) (z := x1) (by omega) hL ex1 dL_law_982 ?_
        refine lv_aload_n hx hb dL_law_983 rfl (lv_at hl 4 rfl) ?_
        refine lv_iload hx hb dL_law_984 (lv_at hl 0 rfl) ?_
        refine q_con hx hb dL_law_986 ?_
        refine q_add hx hb dL_law_987 ?_
        refine r_xld hx hb hX hbl hbA hS (i := i + 2) (z := x2) (by omega) hL ex2 dL_law_988 ?_
        refine lv_aload_n hx hb dL_law_989 rfl (lv_at hl 1 rfl) ?_
        refine c_SWr (As := [.ref (u 0), .int (iI x1), .int (iI x2), .ref o]) (rest := []) (r := .int (iI 2)) fx hl (wn3_addSpan θ l hl0 S0 _ u dt (fun j => sv j 0) (fun j => sv j 1) (fun j => sv j 2) bc rf kn hcr hjH hn o nv sv9 ho hLX.1 x1 x2 (by first | assumption | omega | (dsimp only; first | assumption | omega) | exact Hid.mk (by first | assumption | omega) | exact Hid.mk ⟨fun _ => by first | assumption | omega, fun _ => by first | assumption | omega⟩) (by first | assumption | omega | (dsimp only; first | assumption | omega) | exact Hid.mk (by first | assumption | omega) | exact Hid.mk ⟨fun _ => by first | assumption | omega, fun _ => by first | assumption | omega⟩) (by first | assumption | omega | (dsimp only; first | assumption | omega) | exact Hid.mk (by first | assumption | omega) | exact Hid.mk ⟨fun _ => by first | assumption | omega, fun _ => by first | assumption | omega⟩) (by first | assumption | omega | (dsimp only; first | assumption | omega) | exact Hid.mk (by first | assumption | omega) | exact Hid.mk ⟨fun _ => by first | assumption | omega, fun _ => by first | assumption | omega⟩) (by first | assumption | omega | (dsimp only; first | assumption | omega) | exact Hid.mk (by first | assumption | omega) | exact Hid.mk ⟨fun _ => by first | assumption | omega, fun _ => by first | assumption | omega⟩)) dL_law_990 k847 k848 k0 k849 hd_L_addSpan rfl ⟨by omega, by omega⟩ (Nat.le_of_ble_eq_true rfl) ⟨by (try dsimp only); omega, by (try dsimp only); omega⟩ hS (fun x h => h.elim (fun h => h.elim (fun ⟨j, hj, e⟩ => e ▸ hu.2 j hj) (fun h => Nat.le_trans hzH.2.1 h)) (fun e => e ▸ hoθ)) (fun H8 locs hpH8 hszH8 hkH8 hS => ?_)
        obtain ⟨hcw, ho1⟩ := hpH8
        have hzH1 := hz0.at hAB hS
        have hjH1 := hj0.at hAB hS
        have hm1 := lw_cls hLX hw hzH1 hkH8
        refine lv_istore (lv' := [(5, .int (iI 2)), (4, .int (iI i)), (3, .ref o), (2, .ref (w 0)), (1, .ref (u 0)), (0, .ref b)]) hx hb dL_law_993 hl (by decide) rfl (fun ls hl => ?_)
        refine lv_aload_n hx hb dL_law_995 rfl (lv_at hl 3 rfl) ?_
        refine lv_aload_n hx hb dL_law_996 rfl (lv_at hl 5 rfl) ?_
        refine lv_iload hx hb dL_law_997 (lv_at hl 1 rfl) ?_
        refine q_con hx hb dL_law_999 ?_
        refine q_add hx hb dL_law_1000 ?_
        refine r_xld hx hb hX hbl hbA hS (i := i + 1) (z := x1) (by omega) hL ex1 dL_law_1001 ?_
        refine lv_aload_n hx hb dL_law_1002 rfl (lv_at hl 5 rfl) ?_
        refine lv_iload hx hb dL_law_1003 (lv_at hl 1 rfl) ?_
        refine q_con hx hb dL_law_1005 ?_
        refine q_add hx hb dL_law_1006 ?_
        refine r_xld hx hb hX hbl hbA hS (i := i + 2) (z := x2) (by omega) hL ex2 dL_law_1007 ?_
        refine c_Vr (As := [.int (iI x1), .int (iI x2)]) (rest := []) (b := w 0) (C := RX3) (r := some (.int (iI 0))) (st1 := [.int (iI 0)]) fx hl (mno3_addSpan θ l S0 _ w r q dt sv th bc rf kn hm1 x1 x2 (by first | assumption | omega | (dsimp only; first | assumption | omega) | exact Hid.mk (by first | assumption | omega) | exact Hid.mk ⟨fun _ => by first | assumption | omega, fun _ => by first | assumption | omega⟩) (by first | assumption | omega | (dsimp only; first | assumption | omega) | exact Hid.mk (by first | assumption | omega) | exact Hid.mk ⟨fun _ => by first | assumption | omega, fun _ => by first | assumption | omega⟩) (by first | assumption | omega | (dsimp only; first | assumption | omega) | exact Hid.mk (by first | assumption | omega) | exact Hid.mk ⟨fun _ => by first | assumption | omega, fun _ => by first | assumption | omega⟩) (by first | assumption | omega | (dsimp only; first | assumption | omega) | exact Hid.mk (by first | assumption | omega) | exact Hid.mk ⟨fun _ => by first | assumption | omega, fun _ => by first | assumption | omega⟩) (by first | assumption | omega | (dsimp only; first | assumption | omega) | exact Hid.mk (by first | assumption | omega) | exact Hid.mk ⟨fun _ => by first | assumption | omega, fun _ => by first | assumption | omega⟩)) (ob_recv hK hm1.2.2.1.1 rfl) dL_law_1008 k1242 k1243 k1244 k6 k1245 hd_X3_addSpan rfl rfl ⟨by omega, by omega⟩ (Nat.le_of_ble_eq_true rfl) ⟨by (try dsimp only); omega, by (try dsimp only); omega⟩ hS (wa_b hm1.2.1 hzH1.2.1) (fun H9 locs hpH9 hszH9 hkH9 hS => ?_)
        obtain ⟨r1, q1, hm2, nr, nq⟩ := hpH9
        have hzH2 := hz0.at hAB hS
        have hL2 := lw_mod hLX hzH2 hu hcw ho1 hfr hfq hm2 nr nq hkH9
        refine lv_istore (lv' := [(6, .int (iI 0)), (5, .int (iI 2)), (4, .int (iI i)), (3, .ref o), (2, .ref (w 0)), (1, .ref (u 0)), (0, .ref b)]) hx hb dL_law_1011 hl (by decide) rfl (fun ls hl => ?_)
        refine lv_goto (tgt := 2331) hx hb dL_law_1013 (by decide) ?_
        exact kk _ _ _ _ _ ⟨_, _, _, _, _, _, _, _, _, _, hL2⟩ hS (by omega) (by omega) (lv_sub hl [2, 3, 4, 5, 6] rfl)
    · refine lv_aload_n hx hb dL_law_976 rfl (lv_at hl 3 rfl) ?_
      refine lv_aload_n hx hb dL_law_977 rfl (lv_at hl 4 rfl) ?_
      refine lv_iload hx hb dL_law_978 (lv_at hl 0 rfl) ?_
      refine q_con hx hb dL_law_980 ?_
      refine q_add hx hb dL_law_981 ?_
      refine r_xld hx hb hX hbl hbA hS (i := i + 1) (z := x1) (by omega) hL ex1 dL_law_982 ?_
      refine lv_aload_n hx hb dL_law_983 rfl (lv_at hl 4 rfl) ?_
      refine lv_iload hx hb dL_law_984 (lv_at hl 0 rfl) ?_
      refine q_con hx hb dL_law_986 ?_
      refine q_add hx hb dL_law_987 ?_
      refine r_xld hx hb hX hbl hbA hS (i := i + 2) (z := x2) (by omega) hL ex2 dL_law_988 ?_
      refine lv_aload_n hx hb dL_law_989 rfl (lv_at hl 1 rfl) ?_
      refine c_SWr (As := [.ref (u 0), .int (iI x1), .int (iI x2), .ref o]) (rest := []) (r := .int (iI 1)) fx hl (wn2_addSpan θ l hl0 S0 _ u dt (fun j => sv j 0) (fun j => sv j 1) (fun j => sv j 2) bc rf kn hcr hjH hn o nv sv9 ho hLX.1 x1 x2 (by first | assumption | omega | (dsimp only; first | assumption | omega) | exact Hid.mk (by first | assumption | omega) | exact Hid.mk ⟨fun _ => by first | assumption | omega, fun _ => by first | assumption | omega⟩) (by first | assumption | omega | (dsimp only; first | assumption | omega) | exact Hid.mk (by first | assumption | omega) | exact Hid.mk ⟨fun _ => by first | assumption | omega, fun _ => by first | assumption | omega⟩) (by first | assumption | omega | (dsimp only; first | assumption | omega) | exact Hid.mk (by first | assumption | omega) | exact Hid.mk ⟨fun _ => by first | assumption | omega, fun _ => by first | assumption | omega⟩) (by first | assumption | omega | (dsimp only; first | assumption | omega) | exact Hid.mk (by first | assumption | omega) | exact Hid.mk ⟨fun _ => by first | assumption | omega, fun _ => by first | assumption | omega⟩)) dL_law_990 k847 k848 k0 k849 hd_L_addSpan rfl ⟨by omega, by omega⟩ (Nat.le_of_ble_eq_true rfl) ⟨by (try dsimp only); omega, by (try dsimp only); omega⟩ hS (fun x h => h.elim (fun h => h.elim (fun ⟨j, hj, e⟩ => e ▸ hu.2 j hj) (fun h => Nat.le_trans hzH.2.1 h)) (fun e => e ▸ hoθ)) (fun H10 locs hpH10 hszH10 hkH10 hS => ?_)
      obtain ⟨hcw, ho1⟩ := hpH10
      have hzH1 := hz0.at hAB hS
      have hjH1 := hj0.at hAB hS
      have hm1 := lw_cls hLX hw hzH1 hkH10
      refine lv_istore (lv' := [(5, .int (iI 1)), (4, .int (iI i)), (3, .ref o), (2, .ref (w 0)), (1, .ref (u 0)), (0, .ref b)]) hx hb dL_law_993 hl (by decide) rfl (fun ls hl => ?_)
      refine lv_aload_n hx hb dL_law_995 rfl (lv_at hl 3 rfl) ?_
      refine lv_aload_n hx hb dL_law_996 rfl (lv_at hl 5 rfl) ?_
      refine lv_iload hx hb dL_law_997 (lv_at hl 1 rfl) ?_
      refine q_con hx hb dL_law_999 ?_
      refine q_add hx hb dL_law_1000 ?_
      refine r_xld hx hb hX hbl hbA hS (i := i + 1) (z := x1) (by omega) hL ex1 dL_law_1001 ?_
      refine lv_aload_n hx hb dL_law_1002 rfl (lv_at hl 5 rfl) ?_
      refine lv_iload hx hb dL_law_1003 (lv_at hl 1 rfl) ?_
      refine q_con hx hb dL_law_1005 ?_
      refine q_add hx hb dL_law_1006 ?_
      refine r_xld hx hb hX hbl hbA hS (i := i + 2) (z := x2) (by omega) hL ex2 dL_law_1007 ?_
      refine c_Vr (As := [.int (iI x1), .int (iI x2)]) (rest := []) (b := w 0) (C := RX3) (r := some (.int (iI 0))) (st1 := [.int (iI 0)]) fx hl (mno2_addSpan θ l S0 _ w r q dt sv th bc rf kn hm1 x1 x2 (by first | assumption | omega | (dsimp only; first | assumption | omega) | exact Hid.mk (by first | assumption | omega) | exact Hid.mk ⟨fun _ => by first | assumption | omega, fun _ => by first | assumption | omega⟩) (by first | assumption | omega | (dsimp only; first | assumption | omega) | exact Hid.mk (by first | assumption | omega) | exact Hid.mk ⟨fun _ => by first | assumption | omega, fun _ => by first | assumption | omega⟩) (by first | assumption | omega | (dsimp only; first | assumption | omega) | exact Hid.mk (by first | assumption | omega) | exact Hid.mk ⟨fun _ => by first | assumption | omega, fun _ => by first | assumption | omega⟩) (by first | assumption | omega | (dsimp only; first | assumption | omega) | exact Hid.mk (by first | assumption | omega) | exact Hid.mk ⟨fun _ => by first | assumption | omega, fun _ => by first | assumption | omega⟩)) (ob_recv hK hm1.2.2.1.1 rfl) dL_law_1008 k1242 k1243 k1244 k6 k1245 hd_X3_addSpan rfl rfl ⟨by omega, by omega⟩ (Nat.le_of_ble_eq_true rfl) ⟨by (try dsimp only); omega, by (try dsimp only); omega⟩ hS (wa_b hm1.2.1 hzH1.2.1) (fun H11 locs hpH11 hszH11 hkH11 hS => ?_)
      obtain ⟨r1, q1, hm2, nr, nq⟩ := hpH11
      have hzH2 := hz0.at hAB hS
      have hL2 := lw_mod hLX hzH2 hu hcw ho1 hfr hfq hm2 nr nq hkH11
      refine lv_istore (lv' := [(6, .int (iI 0)), (5, .int (iI 1)), (4, .int (iI i)), (3, .ref o), (2, .ref (w 0)), (1, .ref (u 0)), (0, .ref b)]) hx hb dL_law_1011 hl (by decide) rfl (fun ls hl => ?_)
      refine lv_goto (tgt := 2331) hx hb dL_law_1013 (by decide) ?_
      exact kk _ _ _ _ _ ⟨_, _, _, _, _, _, _, _, _, _, hL2⟩ hS (by omega) (by omega) (lv_sub hl [2, 3, 4, 5, 6] rfl)
  · refine lv_aload_n hx hb dL_law_976 rfl (lv_at hl 3 rfl) ?_
    refine lv_aload_n hx hb dL_law_977 rfl (lv_at hl 4 rfl) ?_
    refine lv_iload hx hb dL_law_978 (lv_at hl 0 rfl) ?_
    refine q_con hx hb dL_law_980 ?_
    refine q_add hx hb dL_law_981 ?_
    refine r_xld hx hb hX hbl hbA hS (i := i + 1) (z := x1) (by omega) hL ex1 dL_law_982 ?_
    refine lv_aload_n hx hb dL_law_983 rfl (lv_at hl 4 rfl) ?_
    refine lv_iload hx hb dL_law_984 (lv_at hl 0 rfl) ?_
    refine q_con hx hb dL_law_986 ?_
    refine q_add hx hb dL_law_987 ?_
    refine r_xld hx hb hX hbl hbA hS (i := i + 2) (z := x2) (by omega) hL ex2 dL_law_988 ?_
    refine lv_aload_n hx hb dL_law_989 rfl (lv_at hl 1 rfl) ?_
    refine c_SWr (As := [.ref (u 0), .int (iI x1), .int (iI x2), .ref o]) (rest := []) (r := .int (iI 1)) fx hl (wn1_addSpan θ l hl0 S0 _ u dt (fun j => sv j 0) (fun j => sv j 1) (fun j => sv j 2) bc rf kn hcr hjH hn o nv sv9 ho hLX.1 x1 x2 (by first | assumption | omega | (dsimp only; first | assumption | omega) | exact Hid.mk (by first | assumption | omega) | exact Hid.mk ⟨fun _ => by first | assumption | omega, fun _ => by first | assumption | omega⟩) (by first | assumption | omega | (dsimp only; first | assumption | omega) | exact Hid.mk (by first | assumption | omega) | exact Hid.mk ⟨fun _ => by first | assumption | omega, fun _ => by first | assumption | omega⟩) (by first | assumption | omega | (dsimp only; first | assumption | omega) | exact Hid.mk (by first | assumption | omega) | exact Hid.mk ⟨fun _ => by first | assumption | omega, fun _ => by first | assumption | omega⟩)) dL_law_990 k847 k848 k0 k849 hd_L_addSpan rfl ⟨by omega, by omega⟩ (Nat.le_of_ble_eq_true rfl) ⟨by (try dsimp only); omega, by (try dsimp only); omega⟩ hS (fun x h => h.elim (fun h => h.elim (fun ⟨j, hj, e⟩ => e ▸ hu.2 j hj) (fun h => Nat.le_trans hzH.2.1 h)) (fun e => e ▸ hoθ)) (fun H12 locs hpH12 hszH12 hkH12 hS => ?_)
    obtain ⟨hcw, ho1⟩ := hpH12
    have hzH1 := hz0.at hAB hS
    have hjH1 := hj0.at hAB hS
    have hm1 := lw_cls hLX hw hzH1 hkH12
    refine lv_istore (lv' := [(5, .int (iI 1)), (4, .int (iI i)), (3, .ref o), (2, .ref (w 0)), (1, .ref (u 0)), (0, .ref b)]) hx hb dL_law_993 hl (by decide) rfl (fun ls hl => ?_)
    refine lv_aload_n hx hb dL_law_995 rfl (lv_at hl 3 rfl) ?_
    refine lv_aload_n hx hb dL_law_996 rfl (lv_at hl 5 rfl) ?_
    refine lv_iload hx hb dL_law_997 (lv_at hl 1 rfl) ?_
    refine q_con hx hb dL_law_999 ?_
    refine q_add hx hb dL_law_1000 ?_
    refine r_xld hx hb hX hbl hbA hS (i := i + 1) (z := x1) (by omega) hL ex1 dL_law_1001 ?_
    refine lv_aload_n hx hb dL_law_1002 rfl (lv_at hl 5 rfl) ?_
    refine lv_iload hx hb dL_law_1003 (lv_at hl 1 rfl) ?_
    refine q_con hx hb dL_law_1005 ?_
    refine q_add hx hb dL_law_1006 ?_
    refine r_xld hx hb hX hbl hbA hS (i := i + 2) (z := x2) (by omega) hL ex2 dL_law_1007 ?_
    refine c_Vr (As := [.int (iI x1), .int (iI x2)]) (rest := []) (b := w 0) (C := RX3) (r := some (.int (iI 0))) (st1 := [.int (iI 0)]) fx hl (mno1_addSpan θ l S0 _ w r q dt sv th bc rf kn hm1 x1 x2 (by first | assumption | omega | (dsimp only; first | assumption | omega) | exact Hid.mk (by first | assumption | omega) | exact Hid.mk ⟨fun _ => by first | assumption | omega, fun _ => by first | assumption | omega⟩) (by first | assumption | omega | (dsimp only; first | assumption | omega) | exact Hid.mk (by first | assumption | omega) | exact Hid.mk ⟨fun _ => by first | assumption | omega, fun _ => by first | assumption | omega⟩) (by first | assumption | omega | (dsimp only; first | assumption | omega) | exact Hid.mk (by first | assumption | omega) | exact Hid.mk ⟨fun _ => by first | assumption | omega, fun _ => by first | assumption | omega⟩)) (ob_recv hK hm1.2.2.1.1 rfl) dL_law_1008 k1242 k1243 k1244 k6 k1245 hd_X3_addSpan rfl rfl ⟨by omega, by omega⟩ (Nat.le_of_ble_eq_true rfl) ⟨by (try dsimp only); omega, by (try dsimp only); omega⟩ hS (wa_b hm1.2.1 hzH1.2.1) (fun H13 locs hpH13 hszH13 hkH13 hS => ?_)
    obtain ⟨r1, q1, hm2, nr, nq⟩ := hpH13
    have hzH2 := hz0.at hAB hS
    have hL2 := lw_mod hLX hzH2 hu hcw ho1 hfr hfq hm2 nr nq hkH13
    refine lv_istore (lv' := [(6, .int (iI 0)), (5, .int (iI 1)), (4, .int (iI i)), (3, .ref o), (2, .ref (w 0)), (1, .ref (u 0)), (0, .ref b)]) hx hb dL_law_1011 hl (by decide) rfl (fun ls hl => ?_)
    refine lv_goto (tgt := 2331) hx hb dL_law_1013 (by decide) ?_
    exact kk _ _ _ _ _ ⟨_, _, _, _, _, _, _, _, _, _, hL2⟩ hS (by omega) (by omega) (lv_sub hl [2, 3, 4, 5, 6] rfl)

set_option maxHeartbeats 4000000 in
set_option maxRecDepth 100000 in
theorem lc_turnSpan {p : Program} {l : Launch} {e : Env} {R : Room} {s : State} {m : MethodId} {args : Array Value} {below : List Frame} {meth : Method} {c : Code} {Q : State → Prop} {θ : TH} {S0 : State} (fx : FX p m c cL_law 7 s args yL_law.cls S0) (hl0 : l.stackTraces = false) (hz0 : SZ θ S0 s.heap) (hj0 : SJ θ S0 s.heap) (hn : NX S0) {u w : Nat → Nat} {o b L : Nat} {xs : Nat → Int32} (hLX : LX u w o) (hoθ : θ.2.2.2 ≤ o) (hX : va_X b L xs s s.heap) (hbl : b < s.heap.size) (hbA : ¬ AJ θ b) (hL : L ≤ 2560) (hRF : 1000 ≤ R.frames ∧ 1000 ≤ R.locals) {H : Heap} {locs : List Loc} {cells slots : Nat} {ls : Array Slot} {i : Int} (hi : 0 ≤ i ∧ i + 5 ≤ (L : Int)) (hw : LWE θ S0 u w o H) (hS : va_S (AJ θ) s.heap H locs) (hRc : cells + 400 ≤ R.cells ∧ slots + 7000 ≤ R.slots) (hl : lv_has ls 7 [(4, .int (iI i)), (3, .ref o), (2, .ref (w 0)), (1, .ref (u 0)), (0, .ref b)]) (kk : LK p l e R s m args below meth c Q θ S0 u w o b i cells slots 2331) : W p l e R s m args below meth c H locs cells slots Q (F0 m 1016 ls []) := by
  obtain ⟨hx, hb, hml, hown, hts⟩ := id fx.1
  have hAB : ∀ x : Nat, AJ θ x → θ.2.2.2 ≤ x := fun _ h => h
  obtain ⟨r, q, dt, sv, th, bc, rf, kn, nv, sv9, hw⟩ := hw
  obtain ⟨hcr, hmr, ho, hfr, hfq⟩ := id hw
  have hzH := hz0.at hAB hS
  have hjH := hj0.at hAB hS
  have hK := sz_K fx.2 hz0
  have hu := hcr.2.1
  obtain ⟨x1, ex1⟩ : ∃ z : Int, z = (xs (i + 1).toNat).toInt := ⟨_, rfl⟩
  have bx1 := x32_b ex1
  by_cases hc1 : 0 ≤ x1 ∧ x1 < 3
  · refine lv_aload_n hx hb dL_law_1016 rfl (lv_at hl 3 rfl) ?_
    refine lv_aload_n hx hb dL_law_1017 rfl (lv_at hl 4 rfl) ?_
    refine lv_iload hx hb dL_law_1018 (lv_at hl 0 rfl) ?_
    refine q_con hx hb dL_law_1020 ?_
    refine q_add hx hb dL_law_1021 ?_
    refine r_xld hx hb hX hbl hbA hS (i := i + 1) (z := x1) (by omega) hL ex1 dL_law_1022 ?_
    refine lv_aload_n hx hb dL_law_1023 rfl (lv_at hl 1 rfl) ?_
    refine c_SWr (As := [.ref (u 0), .int (iI x1), .ref o]) (rest := []) (r := .int (iI 0)) fx hl (wr_turnSpan θ l hl0 S0 _ u dt (fun j => sv j 0) (fun j => sv j 1) (fun j => sv j 2) bc rf kn hcr hjH hn o nv sv9 ho hLX.1 x1 (by first | assumption | omega | (dsimp only; first | assumption | omega) | exact Hid.mk (by first | assumption | omega) | exact Hid.mk ⟨fun _ => by first | assumption | omega, fun _ => by first | assumption | omega⟩) (by first | assumption | omega | (dsimp only; first | assumption | omega) | exact Hid.mk (by first | assumption | omega) | exact Hid.mk ⟨fun _ => by first | assumption | omega, fun _ => by first | assumption | omega⟩)) dL_law_1024 k858 k859 k0 k860 hd_L_turnSpan rfl ⟨by omega, by omega⟩ (Nat.le_of_ble_eq_true rfl) ⟨by (try dsimp only); omega, by (try dsimp only); omega⟩ hS (fun x h => h.elim (fun h => h.elim (fun ⟨j, hj, e⟩ => e ▸ hu.2 j hj) (fun h => Nat.le_trans hzH.2.1 h)) (fun e => e ▸ hoθ)) (fun H1 locs hpH1 hszH1 hkH1 hS => ?_)
    obtain ⟨hcw, ho1⟩ := hpH1
    have hzH1 := hz0.at hAB hS
    have hjH1 := hj0.at hAB hS
    have hm1 := lw_cls hLX hw hzH1 hkH1
    refine lv_istore (lv' := [(5, .int (iI 0)), (4, .int (iI i)), (3, .ref o), (2, .ref (w 0)), (1, .ref (u 0)), (0, .ref b)]) hx hb dL_law_1027 hl (by decide) rfl (fun ls hl => ?_)
    refine lv_aload_n hx hb dL_law_1029 rfl (lv_at hl 3 rfl) ?_
    refine lv_aload_n hx hb dL_law_1030 rfl (lv_at hl 5 rfl) ?_
    refine lv_iload hx hb dL_law_1031 (lv_at hl 1 rfl) ?_
    refine q_con hx hb dL_law_1033 ?_
    refine q_add hx hb dL_law_1034 ?_
    refine r_xld hx hb hX hbl hbA hS (i := i + 1) (z := x1) (by omega) hL ex1 dL_law_1035 ?_
    refine c_Vr (As := [.int (iI x1)]) (rest := []) (b := w 0) (C := RX3) (r := some (.int (iI (12 * -sv x1.toNat 0 + -sv x1.toNat 1)))) (st1 := [.int (iI (12 * -sv x1.toNat 0 + -sv x1.toNat 1))]) fx hl (mok_turnSpan θ l S0 _ w r q dt sv th bc rf kn hm1 x1 (by first | assumption | omega | (dsimp only; first | assumption | omega) | exact Hid.mk (by first | assumption | omega) | exact Hid.mk ⟨fun _ => by first | assumption | omega, fun _ => by first | assumption | omega⟩) (by first | assumption | omega | (dsimp only; first | assumption | omega) | exact Hid.mk (by first | assumption | omega) | exact Hid.mk ⟨fun _ => by first | assumption | omega, fun _ => by first | assumption | omega⟩)) (ob_recv hK hm1.2.2.1.1 rfl) dL_law_1036 k1246 k1247 k1248 k6 k1249 hd_X3_turnSpan rfl rfl ⟨by omega, by omega⟩ (Nat.le_of_ble_eq_true rfl) ⟨by (try dsimp only); omega, by (try dsimp only); omega⟩ hS (wa_b hm1.2.1 hzH1.2.1) (fun H2 locs hpH2 hszH2 hkH2 hS => ?_)
    obtain ⟨r1, q1, hm2, nr, nq⟩ := hpH2
    have hzH2 := hz0.at hAB hS
    have hcw : CW θ u H1 dt (fun j => up sv x1.toNat (tri (-sv x1.toNat 0) (-sv x1.toNat 1) (-sv x1.toNat 2)) j 0) (fun j => up sv x1.toNat (tri (-sv x1.toNat 0) (-sv x1.toNat 1) (-sv x1.toNat 2)) j 1) (fun j => up sv x1.toNat (tri (-sv x1.toNat 0) (-sv x1.toNat 1) (-sv x1.toNat 2)) j 2) (bc + 1) rf kn := by rw [← up_tri0 sv x1.toNat (-sv x1.toNat 0) (-sv x1.toNat 1) (-sv x1.toNat 2), ← up_tri1 sv x1.toNat (-sv x1.toNat 0) (-sv x1.toNat 1) (-sv x1.toNat 2), ← up_tri2 sv x1.toNat (-sv x1.toNat 0) (-sv x1.toNat 1) (-sv x1.toNat 2)]; exact hcw
    have hL2 := lw_mod hLX hzH2 hu hcw ho1 hfr hfq hm2 nr nq hkH2
    refine q_nm (fun z3 ez3 => ?_)
    refine lv_istore (lv' := [(6, .int (iI z3)), (5, .int (iI 0)), (4, .int (iI i)), (3, .ref o), (2, .ref (w 0)), (1, .ref (u 0)), (0, .ref b)]) hx hb dL_law_1039 hl (by decide) rfl (fun ls hl => ?_)
    refine lv_goto (tgt := 2331) hx hb dL_law_1041 (by decide) ?_
    exact kk _ _ _ _ _ ⟨_, _, _, _, _, _, _, _, _, _, hL2⟩ hS (by omega) (by omega) (lv_sub hl [2, 3, 4, 5, 6] rfl)
  · refine lv_aload_n hx hb dL_law_1016 rfl (lv_at hl 3 rfl) ?_
    refine lv_aload_n hx hb dL_law_1017 rfl (lv_at hl 4 rfl) ?_
    refine lv_iload hx hb dL_law_1018 (lv_at hl 0 rfl) ?_
    refine q_con hx hb dL_law_1020 ?_
    refine q_add hx hb dL_law_1021 ?_
    refine r_xld hx hb hX hbl hbA hS (i := i + 1) (z := x1) (by omega) hL ex1 dL_law_1022 ?_
    refine lv_aload_n hx hb dL_law_1023 rfl (lv_at hl 1 rfl) ?_
    refine c_SWr (As := [.ref (u 0), .int (iI x1), .ref o]) (rest := []) (r := .int (iI 1)) fx hl (wn1_turnSpan θ l hl0 S0 _ u dt (fun j => sv j 0) (fun j => sv j 1) (fun j => sv j 2) bc rf kn hcr hjH hn o nv sv9 ho hLX.1 x1 (by first | assumption | omega | (dsimp only; first | assumption | omega) | exact Hid.mk (by first | assumption | omega) | exact Hid.mk ⟨fun _ => by first | assumption | omega, fun _ => by first | assumption | omega⟩) (by first | assumption | omega | (dsimp only; first | assumption | omega) | exact Hid.mk (by first | assumption | omega) | exact Hid.mk ⟨fun _ => by first | assumption | omega, fun _ => by first | assumption | omega⟩)) dL_law_1024 k858 k859 k0 k860 hd_L_turnSpan rfl ⟨by omega, by omega⟩ (Nat.le_of_ble_eq_true rfl) ⟨by (try dsimp only); omega, by (try dsimp only); omega⟩ hS (fun x h => h.elim (fun h => h.elim (fun ⟨j, hj, e⟩ => e ▸ hu.2 j hj) (fun h => Nat.le_trans hzH.2.1 h)) (fun e => e ▸ hoθ)) (fun H4 locs hpH4 hszH4 hkH4 hS => ?_)
    obtain ⟨hcw, ho1⟩ := hpH4
    have hzH1 := hz0.at hAB hS
    have hjH1 := hj0.at hAB hS
    have hm1 := lw_cls hLX hw hzH1 hkH4
    refine lv_istore (lv' := [(5, .int (iI 1)), (4, .int (iI i)), (3, .ref o), (2, .ref (w 0)), (1, .ref (u 0)), (0, .ref b)]) hx hb dL_law_1027 hl (by decide) rfl (fun ls hl => ?_)
    refine lv_aload_n hx hb dL_law_1029 rfl (lv_at hl 3 rfl) ?_
    refine lv_aload_n hx hb dL_law_1030 rfl (lv_at hl 5 rfl) ?_
    refine lv_iload hx hb dL_law_1031 (lv_at hl 1 rfl) ?_
    refine q_con hx hb dL_law_1033 ?_
    refine q_add hx hb dL_law_1034 ?_
    refine r_xld hx hb hX hbl hbA hS (i := i + 1) (z := x1) (by omega) hL ex1 dL_law_1035 ?_
    refine c_Vr (As := [.int (iI x1)]) (rest := []) (b := w 0) (C := RX3) (r := some (.int (iI 0))) (st1 := [.int (iI 0)]) fx hl (mno1_turnSpan θ l S0 _ w r q dt sv th bc rf kn hm1 x1 (by first | assumption | omega | (dsimp only; first | assumption | omega) | exact Hid.mk (by first | assumption | omega) | exact Hid.mk ⟨fun _ => by first | assumption | omega, fun _ => by first | assumption | omega⟩) (by first | assumption | omega | (dsimp only; first | assumption | omega) | exact Hid.mk (by first | assumption | omega) | exact Hid.mk ⟨fun _ => by first | assumption | omega, fun _ => by first | assumption | omega⟩)) (ob_recv hK hm1.2.2.1.1 rfl) dL_law_1036 k1246 k1247 k1248 k6 k1249 hd_X3_turnSpan rfl rfl ⟨by omega, by omega⟩ (Nat.le_of_ble_eq_true rfl) ⟨by (try dsimp only); omega, by (try dsimp only); omega⟩ hS (wa_b hm1.2.1 hzH1.2.1) (fun H5 locs hpH5 hszH5 hkH5 hS => ?_)
    obtain ⟨r1, q1, hm2, nr, nq⟩ := hpH5
    have hzH2 := hz0.at hAB hS
    have hL2 := lw_mod hLX hzH2 hu hcw ho1 hfr hfq hm2 nr nq hkH5
    refine lv_istore (lv' := [(6, .int (iI 0)), (5, .int (iI 1)), (4, .int (iI i)), (3, .ref o), (2, .ref (w 0)), (1, .ref (u 0)), (0, .ref b)]) hx hb dL_law_1039 hl (by decide) rfl (fun ls hl => ?_)
    refine lv_goto (tgt := 2331) hx hb dL_law_1041 (by decide) ?_
    exact kk _ _ _ _ _ ⟨_, _, _, _, _, _, _, _, _, _, hL2⟩ hS (by omega) (by omega) (lv_sub hl [2, 3, 4, 5, 6] rfl)
