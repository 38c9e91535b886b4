set_option maxHeartbeats 4000000 in
set_option maxRecDepth 100000 in
theorem lc_anniversaries {p : Program} {l : Launch} {e : Env} {R : Room} {s : State} {m : MethodId} {args : Array Value} {below : List Frame} {meth : Method} {c : Code} {Q : State → Prop} {θ : TH} {S0 : State} (fx : FX p m c cL_law 7 s args yL_law.cls S0) (hl0 : l.stackTraces = false) (hz0 : SZ θ S0 s.heap) (hj0 : SJ θ S0 s.heap) (hn : NX S0) {u w : Nat → Nat} {o b L : Nat} {xs : Nat → Int32} (hLX : LX u w o) (hoθ : θ.2.2.2 ≤ o) (hX : va_X b L xs s s.heap) (hbl : b < s.heap.size) (hbA : ¬ AJ θ b) (hL : L ≤ 2560) (hRF : 1000 ≤ R.frames ∧ 1000 ≤ R.locals) {H : Heap} {locs : List Loc} {cells slots : Nat} {ls : Array Slot} {i : Int} (hi : 0 ≤ i ∧ i + 5 ≤ (L : Int)) (hw : LWE θ S0 u w o H) (hS : va_S (AJ θ) s.heap H locs) (hRc : cells + 400 ≤ R.cells ∧ slots + 7000 ≤ R.slots) (hl : lv_has ls 7 [(4, .int (iI i)), (3, .ref o), (2, .ref (w 0)), (1, .ref (u 0)), (0, .ref b)]) (kk : LK p l e R s m args below meth c Q θ S0 u w o b i cells slots 2331) : W p l e R s m args below meth c H locs cells slots Q (F0 m 1784 ls []) := by
  obtain ⟨hx, hb, hml, hown, hts⟩ := id fx.1
  have hAB : ∀ x : Nat, AJ θ x → θ.2.2.2 ≤ x := fun _ h => h
  obtain ⟨r, q, dt, sv, th, bc, rf, kn, nv, sv9, hw⟩ := hw
  obtain ⟨hcr, hmr, ho, hfr, hfq⟩ := id hw
  have hzH := hz0.at hAB hS
  have hjH := hj0.at hAB hS
  have hK := sz_K fx.2 hz0
  have hu := hcr.2.1
  obtain ⟨x1, ex1⟩ : ∃ z : Int, z = (xs (i + 1).toNat).toInt := ⟨_, rfl⟩
  have bx1 := x32_b ex1
  obtain ⟨x2, ex2⟩ : ∃ z : Int, z = (xs (i + 2).toNat).toInt := ⟨_, rfl⟩
  have bx2 := x32_b ex2
  obtain ⟨x3, ex3⟩ : ∃ z : Int, z = (xs (i + 3).toNat).toInt := ⟨_, rfl⟩
  have bx3 := x32_b ex3
  by_cases hb3 : x3 = 0
  · by_cases hc1 : 0 ≤ x1 ∧ x1 < 6
    · by_cases hc2 : 0 ≤ x2 ∧ x2 < 6
      · by_cases href : dt x2.toNat < dt x1.toNat ∨ 40000 < dt x2.toNat - dt x1.toNat
        · refine lv_aload_n hx hb dL_law_1784 rfl (lv_at hl 3 rfl) ?_
          refine lv_aload_n hx hb dL_law_1785 rfl (lv_at hl 4 rfl) ?_
          refine lv_iload hx hb dL_law_1786 (lv_at hl 0 rfl) ?_
          refine q_con hx hb dL_law_1788 ?_
          refine q_add hx hb dL_law_1789 ?_
          refine r_xld hx hb hX hbl hbA hS (i := i + 1) (z := x1) (by omega) hL ex1 dL_law_1790 ?_
          refine lv_aload_n hx hb dL_law_1791 rfl (lv_at hl 4 rfl) ?_
          refine lv_iload hx hb dL_law_1792 (lv_at hl 0 rfl) ?_
          refine q_con hx hb dL_law_1794 ?_
          refine q_add hx hb dL_law_1795 ?_
          refine r_xld hx hb hX hbl hbA hS (i := i + 2) (z := x2) (by omega) hL ex2 dL_law_1796 ?_
          refine lv_aload_n hx hb dL_law_1797 rfl (lv_at hl 4 rfl) ?_
          refine lv_iload hx hb dL_law_1798 (lv_at hl 0 rfl) ?_
          refine q_con hx hb dL_law_1800 ?_
          refine q_add hx hb dL_law_1801 ?_
          refine r_xld hx hb hX hbl hbA hS (i := i + 3) (z := x3) (by omega) hL ex3 dL_law_1802 ?_
          refine q_ieq (tgt := 1810) hx hb dL_law_1803 (by decide) (by omega) (fun c1 => ?_) (fun c1 => ?_)
          · refine q_con hx hb dL_law_1810 ?_
            refine lv_aload_n hx hb dL_law_1811 rfl (lv_at hl 1 rfl) ?_
            refine c_SWr (As := [.ref (u 0), .int (iI x1), .int (iI x2), .int (iI 0), .ref o]) (rest := []) (r := .int (iI 0)) fx hl (wr_anniversaries_r θ l hl0 S0 _ u dt (fun j => sv j 0) (fun j => sv j 1) (fun j => sv j 2) bc rf kn hcr hjH hn o nv sv9 ho hLX.1 x1 x2 0 (by first | assumption | omega | (dsimp only; first | assumption | omega) | exact Hid.mk (by first | assumption | omega) | exact Hid.mk ⟨fun _ => by first | assumption | omega, fun _ => by first | assumption | omega⟩) (by first | assumption | omega | (dsimp only; first | assumption | omega) | exact Hid.mk (by first | assumption | omega) | exact Hid.mk ⟨fun _ => by first | assumption | omega, fun _ => by first | assumption | omega⟩) (by first | assumption | omega | (dsimp only; first | assumption | omega) | exact Hid.mk (by first | assumption | omega) | exact Hid.mk ⟨fun _ => by first | assumption | omega, fun _ => by first | assumption | omega⟩) (by first | assumption | omega | (dsimp only; first | assumption | omega) | exact Hid.mk (by first | assumption | omega) | exact Hid.mk ⟨fun _ => by first | assumption | omega, fun _ => by first | assumption | omega⟩) (by first | assumption | omega | (dsimp only; first | assumption | omega) | exact Hid.mk (by first | assumption | omega) | exact Hid.mk ⟨fun _ => by first | assumption | omega, fun _ => by first | assumption | omega⟩) (by first | assumption | omega | (dsimp only; first | assumption | omega) | exact Hid.mk (by first | assumption | omega) | exact Hid.mk ⟨fun _ => by first | assumption | omega, fun _ => by first | assumption | omega⟩) (by first | assumption | omega | (dsimp only; first | assumption | omega) | exact Hid.mk (by first | assumption | omega) | exact Hid.mk ⟨fun _ => by first | assumption | omega, fun _ => by first | assumption | omega⟩)) dL_law_1812 k971 k972 k0 k973 hd_L_anniversaries rfl ⟨by omega, by omega⟩ (Nat.le_of_ble_eq_true rfl) ⟨by (try dsimp only); omega, by (try dsimp only); omega⟩ hS (fun x h => h.elim (fun h => h.elim (fun ⟨j, hj, e⟩ => e ▸ hu.2 j hj) (fun h => Nat.le_trans hzH.2.1 h)) (fun e => e ▸ hoθ)) (fun H2 locs hpH2 hszH2 hkH2 hS => ?_)
            obtain ⟨hcw, ho1⟩ := hpH2
            have hzH1 := hz0.at hAB hS
            have hjH1 := hj0.at hAB hS
            have hm1 := lw_cls hLX hw hzH1 hkH2
            refine lv_istore (lv' := [(5, .int (iI 0)), (4, .int (iI i)), (3, .ref o), (2, .ref (w 0)), (1, .ref (u 0)), (0, .ref b)]) hx hb dL_law_1815 hl (by decide) rfl (fun ls hl => ?_)
            refine lv_aload_n hx hb dL_law_1817 rfl (lv_at hl 3 rfl) ?_
            refine lv_aload_n hx hb dL_law_1818 rfl (lv_at hl 5 rfl) ?_
            refine lv_iload hx hb dL_law_1819 (lv_at hl 1 rfl) ?_
            refine q_con hx hb dL_law_1821 ?_
            refine q_add hx hb dL_law_1822 ?_
            refine r_xld hx hb hX hbl hbA hS (i := i + 1) (z := x1) (by omega) hL ex1 dL_law_1823 ?_
            refine lv_aload_n hx hb dL_law_1824 rfl (lv_at hl 5 rfl) ?_
            refine lv_iload hx hb dL_law_1825 (lv_at hl 1 rfl) ?_
            refine q_con hx hb dL_law_1827 ?_
            refine q_add hx hb dL_law_1828 ?_
            refine r_xld hx hb hX hbl hbA hS (i := i + 2) (z := x2) (by omega) hL ex2 dL_law_1829 ?_
            refine lv_aload_n hx hb dL_law_1830 rfl (lv_at hl 5 rfl) ?_
            refine lv_iload hx hb dL_law_1831 (lv_at hl 1 rfl) ?_
            refine q_con hx hb dL_law_1833 ?_
            refine q_add hx hb dL_law_1834 ?_
            refine r_xld hx hb hX hbl hbA hS (i := i + 3) (z := x3) (by omega) hL ex3 dL_law_1835 ?_
            refine q_ieq (tgt := 1843) hx hb dL_law_1836 (by decide) (by omega) (fun c3 => ?_) (fun c3 => ?_)
            · refine q_con hx hb dL_law_1843 ?_
              refine c_Vr (As := [.int (iI x1), .int (iI x2), .int (iI 0)]) (rest := []) (b := w 0) (C := RX3) (r := some (.int (iI (-9)))) (st1 := [.int (iI (-9))]) fx hl (mok_anniversaries_r θ l S0 _ w r q dt sv th bc rf kn hm1 x1 x2 0 (by first | assumption | omega | (dsimp only; first | assumption | omega) | exact Hid.mk (by first | assumption | omega) | exact Hid.mk ⟨fun _ => by first | assumption | omega, fun _ => by first | assumption | omega⟩) (by first | assumption | omega | (dsimp only; first | assumption | omega) | exact Hid.mk (by first | assumption | omega) | exact Hid.mk ⟨fun _ => by first | assumption | omega, fun _ => by first | assumption | omega⟩) (by first | assumption | omega | (dsimp only; first | assumption | omega) | exact Hid.mk (by first | assumption | omega) | exact Hid.mk ⟨fun _ => by first | assumption | omega, fun _ => by first | assumption | omega⟩) (by first | assumption | omega | (dsimp only; first | assumption | omega) | exact Hid.mk (by first | assumption | omega) | exact Hid.mk ⟨fun _ => by first | assumption | omega, fun _ => by first | assumption | omega⟩) (by first | assumption | omega | (dsimp only; first | assumption | omega) | exact Hid.mk (by first | assumption | omega) | exact Hid.mk ⟨fun _ => by first | assumption | omega, fun _ => by first | assumption | omega⟩) (by first | assumption | omega | (dsimp only; first | assumption | omega) | exact Hid.mk (by first | assumption | omega) | exact Hid.mk ⟨fun _ => by first | assumption | omega, fun _ => by first | assumption | omega⟩) (by first | assumption | omega | (dsimp only; first | assumption | omega) | exact Hid.mk (by first | assumption | omega) | exact Hid.mk ⟨fun _ => by first | assumption | omega, fun _ => by first | assumption | omega⟩)) (ob_recv hK hm1.2.2.1.1 rfl) dL_law_1844 k1515 k1516 k1517 k6 k1518 hd_X3_anniversaries rfl rfl ⟨by omega, by omega⟩ (Nat.le_of_ble_eq_true rfl) ⟨by (try dsimp only); omega, by (try dsimp only); omega⟩ hS (wa_b hm1.2.1 hzH1.2.1) (fun H4 locs hpH4 hszH4 hkH4 hS => ?_)
              obtain ⟨r1, q1, hm2, nr, nq⟩ := hpH4
              have hzH2 := hz0.at hAB hS
              have hL2 := lw_mod hLX hzH2 hu hcw ho1 hfr hfq hm2 nr nq hkH4
              refine lv_istore (lv' := [(6, .int (iI (-9))), (5, .int (iI 0)), (4, .int (iI i)), (3, .ref o), (2, .ref (w 0)), (1, .ref (u 0)), (0, .ref b)]) hx hb dL_law_1847 hl (by decide) rfl (fun ls hl => ?_)
              refine lv_goto (tgt := 2331) hx hb dL_law_1849 (by decide) ?_
              exact kk _ _ _ _ _ ⟨_, _, _, _, _, _, _, _, _, _, hL2⟩ hS (by omega) (by omega) (lv_sub hl [2, 3, 4, 5, 6] rfl)
            · exact (show False by omega).elim
          · exact (show False by omega).elim
        · refine lv_aload_n hx hb dL_law_1784 rfl (lv_at hl 3 rfl) ?_
          refine lv_aload_n hx hb dL_law_1785 rfl (lv_at hl 4 rfl) ?_
          refine lv_iload hx hb dL_law_1786 (lv_at hl 0 rfl) ?_
          refine q_con hx hb dL_law_1788 ?_
          refine q_add hx hb dL_law_1789 ?_
          refine r_xld hx hb hX hbl hbA hS (i := i + 1) (z := x1) (by omega) hL ex1 dL_law_1790 ?_
          refine lv_aload_n hx hb dL_law_1791 rfl (lv_at hl 4 rfl) ?_
          refine lv_iload hx hb dL_law_1792 (lv_at hl 0 rfl) ?_
          refine q_con hx hb dL_law_1794 ?_
          refine q_add hx hb dL_law_1795 ?_
          refine r_xld hx hb hX hbl hbA hS (i := i + 2) (z := x2) (by omega) hL ex2 dL_law_1796 ?_
          refine lv_aload_n hx hb dL_law_1797 rfl (lv_at hl 4 rfl) ?_
          refine lv_iload hx hb dL_law_1798 (lv_at hl 0 rfl) ?_
          refine q_con hx hb dL_law_1800 ?_
          refine q_add hx hb dL_law_1801 ?_
          refine r_xld hx hb hX hbl hbA hS (i := i + 3) (z := x3) (by omega) hL ex3 dL_law_1802 ?_
          refine q_ieq (tgt := 1810) hx hb dL_law_1803 (by decide) (by omega) (fun c5 => ?_) (fun c5 => ?_)
          · refine q_con hx hb dL_law_1810 ?_
            refine lv_aload_n hx hb dL_law_1811 rfl (lv_at hl 1 rfl) ?_
            refine c_SWr (As := [.ref (u 0), .int (iI x1), .int (iI x2), .int (iI 0), .ref o]) (rest := []) (r := .int (iI 0)) fx hl (wr_anniversaries θ l hl0 S0 _ u dt (fun j => sv j 0) (fun j => sv j 1) (fun j => sv j 2) bc rf kn hcr hjH hn o nv sv9 ho hLX.1 x1 x2 0 (by first | assumption | omega | (dsimp only; first | assumption | omega) | exact Hid.mk (by first | assumption | omega) | exact Hid.mk ⟨fun _ => by first | assumption | omega, fun _ => by first | assumption | omega⟩) (by first | assumption | omega | (dsimp only; first | assumption | omega) | exact Hid.mk (by first | assumption | omega) | exact Hid.mk ⟨fun _ => by first | assumption | omega, fun _ => by first | assumption | omega⟩) (by first | assumption | omega | (dsimp only; first | assumption | omega) | exact Hid.mk (by first | assumption | omega) | exact Hid.mk ⟨fun _ => by first | assumption | omega, fun _ => by first | assumption | omega⟩) (by first | assumption | omega | (dsimp only; first | assumption | omega) | exact Hid.mk (by first | assumption | omega) | exact Hid.mk ⟨fun _ => by first | assumption | omega, fun _ => by first | assumption | omega⟩) (by first | assumption | omega | (dsimp only; first | assumption | omega) | exact Hid.mk (by first | assumption | omega) | exact Hid.mk ⟨fun _ => by first | assumption | omega, fun _ => by first | assumption | omega⟩) (by first | assumption | omega | (dsimp only; first | assumption | omega) | exact Hid.mk (by first | assumption | omega) | exact Hid.mk ⟨fun _ => by first | assumption | omega, fun _ => by first | assumption | omega⟩) (by first | assumption | omega | (dsimp only; first | assumption | omega) | exact Hid.mk (by first | assumption | omega) | exact Hid.mk ⟨fun _ => by first | assumption | omega, fun _ => by first | assumption | omega⟩)) dL_law_1812 k971 k972 k0 k973 hd_L_anniversaries rfl ⟨by omega, by omega⟩ (Nat.le_of_ble_eq_true rfl) ⟨by (try dsimp only); omega, by (try dsimp only); omega⟩ hS (fun x h => h.elim (fun h => h.elim (fun ⟨j, hj, e⟩ => e ▸ hu.2 j hj) (fun h => Nat.le_trans hzH.2.1 h)) (fun e => e ▸ hoθ)) (fun H6 locs hpH6 hszH6 hkH6 hS => ?_)
            obtain ⟨hcw, ho1⟩ := hpH6
            have hzH1 := hz0.at hAB hS
            have hjH1 := hj0.at hAB hS
            have hm1 := lw_cls hLX hw hzH1 hkH6
            refine lv_istore (lv' := [(5, .int (iI 0)), (4, .int (iI i)), (3, .ref o), (2, .ref (w 0)), (1, .ref (u 0)), (0, .ref b)]) hx hb dL_law_1815 hl (by decide) rfl (fun ls hl => ?_)
            refine lv_aload_n hx hb dL_law_1817 rfl (lv_at hl 3 rfl) ?_
            refine lv_aload_n hx hb dL_law_1818 rfl (lv_at hl 5 rfl) ?_
            refine lv_iload hx hb dL_law_1819 (lv_at hl 1 rfl) ?_
            refine q_con hx hb dL_law_1821 ?_
            refine q_add hx hb dL_law_1822 ?_
            refine r_xld hx hb hX hbl hbA hS (i := i + 1) (z := x1) (by omega) hL ex1 dL_law_1823 ?_
            refine lv_aload_n hx hb dL_law_1824 rfl (lv_at hl 5 rfl) ?_
            refine lv_iload hx hb dL_law_1825 (lv_at hl 1 rfl) ?_
            refine q_con hx hb dL_law_1827 ?_
            refine q_add hx hb dL_law_1828 ?_
            refine r_xld hx hb hX hbl hbA hS (i := i + 2) (z := x2) (by omega) hL ex2 dL_law_1829 ?_
            refine lv_aload_n hx hb dL_law_1830 rfl (lv_at hl 5 rfl) ?_
            refine lv_iload hx hb dL_law_1831 (lv_at hl 1 rfl) ?_
            refine q_con hx hb dL_law_1833 ?_
            refine q_add hx hb dL_law_1834 ?_
            refine r_xld hx hb hX hbl hbA hS (i := i + 3) (z := x3) (by omega) hL ex3 dL_law_1835 ?_
            refine q_ieq (tgt := 1843) hx hb dL_law_1836 (by decide) (by omega) (fun c7 => ?_) (fun c7 => ?_)
            · refine q_con hx hb dL_law_1843 ?_
              refine c_Vr (As := [.int (iI x1), .int (iI x2), .int (iI 0)]) (rest := []) (b := w 0) (C := RX3) (r := some (.int (iI (unI (dt x1.toNat) (dt x2.toNat) 0)))) (st1 := [.int (iI (unI (dt x1.toNat) (dt x2.toNat) 0))]) fx hl (mok_anniversaries θ l S0 _ w r q dt sv th bc rf kn hm1 x1 x2 0 (by first | assumption | omega | (dsimp only; first | assumption | omega) | exact Hid.mk (by first | assumption | omega) | exact Hid.mk ⟨fun _ => by first | assumption | omega, fun _ => by first | assumption | omega⟩) (by first | assumption | omega | (dsimp only; first | assumption | omega) | exact Hid.mk (by first | assumption | omega) | exact Hid.mk ⟨fun _ => by first | assumption | omega, fun _ => by first | assumption | omega⟩) (by first | assumption | omega | (dsimp only; first | assumption | omega) | exact Hid.mk (by first | assumption | omega) | exact Hid.mk ⟨fun _ => by first | assumption | omega, fun _ => by first | assumption | omega⟩) (by first | assumption | omega | (dsimp only; first | assumption | omega) | exact Hid.mk (by first | assumption | omega) | exact Hid.mk ⟨fun _ => by first | assumption | omega, fun _ => by first | assumption | omega⟩) (by first | assumption | omega | (dsimp only; first | assumption | omega) | exact Hid.mk (by first | assumption | omega) | exact Hid.mk ⟨fun _ => by first | assumption | omega, fun _ => by first | assumption | omega⟩) (by first | assumption | omega | (dsimp only; first | assumption | omega) | exact Hid.mk (by first | assumption | omega) | exact Hid.mk ⟨fun _ => by first | assumption | omega, fun _ => by first | assumption | omega⟩) (by first | assumption | omega | (dsimp only; first | assumption | omega) | exact Hid.mk (by first | assumption | omega) | exact Hid.mk ⟨fun _ => by first | assumption | omega, fun _ => by first | assumption | omega⟩)) (ob_recv hK hm1.2.2.1.1 rfl) dL_law_1844 k1515 k1516 k1517 k6 k1518 hd_X3_anniversaries rfl rfl ⟨by omega, by omega⟩ (Nat.le_of_ble_eq_true rfl) ⟨by (try dsimp only); omega, by (try dsimp only); omega⟩ hS (wa_b hm1.2.1 hzH1.2.1) (fun H8 locs hpH8 hszH8 hkH8 hS => ?_)
              obtain ⟨r1, q1, hm2, nr, nq⟩ := hpH8
              have hzH2 := hz0.at hAB hS
              have hL2 := lw_mod hLX hzH2 hu hcw ho1 hfr hfq hm2 nr nq hkH8
              refine lv_istore (lv' := [(6, .int (iI (unI (dt x1.toNat) (dt x2.toNat) 0))), (5, .int (iI 0)), (4, .int (iI i)), (3, .ref o), (2, .ref (w 0)), (1, .ref (u 0)), (0, .ref b)]) hx hb dL_law_1847 hl (by decide) rfl (fun ls hl => ?_)
              refine lv_goto (tgt := 2331) hx hb dL_law_1849 (by decide) ?_
              exact kk _ _ _ _ _ ⟨_, _, _, _, _, _, _, _, _, _, hL2⟩ hS (by omega) (by omega) (lv_sub hl [2, 3, 4, 5, 6] rfl)
            · exact (show False by omega).elim
          · exact (show False by omega).elim
      · refine lv_aload_n hx hb dL_law_1784 rfl (lv_at hl 3 rfl) ?_
        refine lv_aload_n hx hb dL_law_1785 rfl (lv_at hl 4 rfl) ?_
        refine lv_iload hx hb dL_law_1786 (lv_at hl 0 rfl) ?_
        refine q_con hx hb dL_law_1788 ?_
        refine q_add hx hb dL_law_1789 ?_
        refine r_xld hx hb hX hbl hbA hS (i := i + 1) (z := x1) (by omega) hL ex1 dL_law_1790 ?_
        refine lv_aload_n hx hb dL_law_1791 rfl (lv_at hl 4 rfl) ?_
        refine lv_iload hx hb dL_law_1792 (lv_at hl 0 rfl) ?_
        refine q_con hx hb dL_law_1794 ?_
        refine q_add hx hb dL_law_1795 ?_
        refine r_xld hx hb hX hbl hbA hS (i := i + 2) (z := x2) (by omega) hL ex2 dL_law_1796 ?_
        refine lv_aload_n hx hb dL_law_1797 rfl (lv_at hl 4 rfl) ?_
        refine lv_iload hx hb dL_law_1798 (lv_at hl 0 rfl) ?_
        refine q_con hx hb dL_law_1800 ?_
        refine q_add hx hb dL_law_1801 ?_
        refine r_xld hx hb hX hbl hbA hS (i := i + 3) (z := x3) (by omega) hL ex3 dL_law_1802 ?_
        refine q_ieq (tgt := 1810) hx hb dL_law_1803 (by decide) (by omega) (fun c9 => ?_) (fun c9 => ?_)
        · refine q_con hx hb dL_law_1810 ?_
          refine lv_aload_n hx hb dL_law_1811 rfl (lv_at hl 1 rfl) ?_
          refine c_SWr (As := [.ref (u 0), .int (iI x1), .int (iI x2), .int (iI 0), .ref o]) (rest := []) (r := .int (iI 1)) fx hl (wn2_anniversaries θ l hl0 S0 _ u dt (fun j => sv j 0) (fun j => sv j 1) (fun j => sv j 2) bc rf kn hcr hjH hn o nv sv9 ho hLX.1 x1 x2 0 (by first | assumption | omega | (dsimp only; first | assumption | omega) | exact Hid.mk (by first | assumption | omega) | exact Hid.mk ⟨fun _ => by first | assumption | omega, fun _ => by first | assumption | omega⟩) (by first | assumption | omega | (dsimp only; first | assumption | omega) | exact Hid.mk (by first | assumption | omega) | exact Hid.mk ⟨fun _ => by first | assumption | omega, fun _ => by first | assumption | omega⟩) (by first | assumption | omega | (dsimp only; first | assumption | omega) | exact Hid.mk (by first | assumption | omega) | exact Hid.mk ⟨fun _ => by first | assumption | omega, fun _ => by first | assumption | omega⟩) (by first | assumption | omega | (dsimp only; first | assumption | omega) | exact Hid.mk (by first | assumption | omega) | exact Hid.mk ⟨fun _ => by first | assumption | omega, fun _ => by first | assumption | omega⟩) (by first | assumption | omega | (dsimp only; first | assumption | omega) | exact Hid.mk (by first | assumption | omega) | exact Hid.mk ⟨fun _ => by first | assumption | omega, fun _ => by first | assumption | omega⟩) (by first | assumption | omega | (dsimp only; first | assumption | omega) | exact Hid.mk (by first | assumption | omega) | exact Hid.mk ⟨fun _ => by first | assumption | omega, fun _ => by first | assumption | omega⟩)) dL_law_1812 k971 k972 k0 k973 hd_L_anniversaries rfl ⟨by omega, by omega⟩ (Nat.le_of_ble_eq_true rfl) ⟨by (try dsimp only); omega, by (try dsimp only); omega⟩ hS (fun x h => h.elim (fun h => h.elim (fun ⟨j, hj, e⟩ => e ▸ hu.2 j hj) (fun h => Nat.le_trans hzH.2.1 h)) (fun e => e ▸ hoθ)) (fun H10 locs hpH10 hszH10 hkH10 hS => ?_)
          obtain ⟨hcw, ho1⟩ := hpH10
          have hzH1 := hz0.at hAB hS
          have hjH1 := hj0.at hAB hS
          have hm1 := lw_cls hLX hw hzH1 hkH10
          refine lv_istore (lv' := [(5, .int (iI 1)), (4, .int (iI i)), (3, .ref o), (2, .ref (w 0)), (1, .ref (u 0)), (0, .ref b)]) hx hb dL_law_1815 hl (by decide) rfl (fun ls hl => ?_)
          refine lv_aload_n hx hb dL_law_1817 rfl (lv_at hl 3 rfl) ?_
          refine lv_aload_n hx hb dL_law_1818 rfl (lv_at hl 5 rfl) ?_
          refine lv_iload hx hb dL_law_1819 (lv_at hl 1 rfl) ?_
          refine q_con hx hb dL_law_1821 ?_
          refine q_add hx hb dL_law_1822 ?_
          refine r_xld hx hb hX hbl hbA hS (i := i + 1) (z := x1) (by omega) hL ex1 dL_law_1823 ?_
          refine lv_aload_n hx hb dL_law_1824 rfl (lv_at hl 5 rfl) ?_
          refine lv_iload hx hb dL_law_1825 (lv_at hl 1 rfl) ?_
          refine q_con hx hb dL_law_1827 ?_
          refine q_add hx hb dL_law_1828 ?_
          refine r_xld hx hb hX hbl hbA hS (i := i + 2) (z := x2) (by omega) hL ex2 dL_law_1829 ?_
          refine lv_aload_n hx hb dL_law_1830 rfl (lv_at hl 5 rfl) ?_
          refine lv_iload hx hb dL_law_1831 (lv_at hl 1 rfl) ?_
          refine q_con hx hb dL_law_1833 ?_
          refine q_add hx hb dL_law_1834 ?_
          refine r_xld hx hb hX hbl hbA hS (i := i + 3) (z := x3) (by omega) hL ex3 dL_law_1835 ?_
          refine q_ieq (tgt := 1843) hx hb dL_law_1836 (by decide) (by omega) (fun c11 => ?_) (fun c11 => ?_)
          · refine q_con hx hb dL_law_1843 ?_
            refine c_Vr (As := [.int (iI x1), .int (iI x2), .int (iI 0)]) (rest := []) (b := w 0) (C := RX3) (r := some (.int (iI 0))) (st1 := [.int (iI 0)]) fx hl (mno2_anniversaries θ l S0 _ w r q dt sv th bc rf kn hm1 x1 x2 0 (by first | assumption | omega | (dsimp only; first | assumption | omega) | exact Hid.mk (by first | assumption | omega) | exact Hid.mk ⟨fun _ => by first | assumption | omega, fun _ => by first | assumption | omega⟩) (by first | assumption | omega | (dsimp only; first | assumption | omega) | exact Hid.mk (by first | assumption | omega) | exact Hid.mk ⟨fun _ => by first | assumption | omega, fun _ => by first | assumption | omega⟩) (by first | assumption | omega | (dsimp only; first | assumption | omega) | exact Hid.mk (by first | assumption | omega) | exact Hid.mk ⟨fun _ => by first | assumption | omega, fun _ => by first | assumption | omega⟩) (by first | assumption | omega | (dsimp only; first | assumption | omega) | exact Hid.mk (by first | assumption | omega) | exact Hid.mk ⟨fun _ => by first | assumption | omega, fun _ => by first | assumption | omega⟩) (by first | assumption | omega | (dsimp only; first | assumption | omega) | exact Hid.mk (by first | assumption | omega) | exact Hid.mk ⟨fun _ => by first | assumption | omega, fun _ => by first | assumption | omega⟩) (by first | assumption | omega | (dsimp only; first | assumption | omega) | exact Hid.mk (by first | assumption | omega) | exact Hid.mk ⟨fun _ => by first | assumption | omega, fun _ => by first | assumption | omega⟩)) (ob_recv hK hm1.2.2.1.1 rfl) dL_law_1844 k1515 k1516 k1517 k6 k1518 hd_X3_anniversaries rfl rfl ⟨by omega, by omega⟩ (Nat.le_of_ble_eq_true rfl) ⟨by (try dsimp only); omega, by (try dsimp only); omega⟩ hS (wa_b hm1.2.1 hzH1.2.1) (fun H12 locs hpH12 hszH12 hkH12 hS => ?_)
            obtain ⟨r1, q1, hm2, nr, nq⟩ := hpH12
            have hzH2 := hz0.at hAB hS
            have hL2 := lw_mod hLX hzH2 hu hcw ho1 hfr hfq hm2 nr nq hkH12
            refine lv_istore (lv' := [(6, .int (iI 0)), (5, .int (iI 1)), (4, .int (iI i)), (3, .ref o), (2, .ref (w 0)), (1, .ref (u 0)), (0, .ref b)]) hx hb dL_law_1847 hl (by decide) rfl (fun ls hl => ?_)
            refine lv_goto (tgt := 2331) hx hb dL_law_1849 (by decide) ?_
            exact kk _ _ _ _ _ ⟨_, _, _, _, _, _, _, _, _, _, hL2⟩ hS (by omega) (by omega) (lv_sub hl [2, 3, 4, 5, 6] rfl)
          · exact (show False by omega).elim
        · exact (show False by omega).elim
    · refine lv_aload_n hx hb dL_law_1784 rfl (lv_at hl 3 rfl) ?_
      refine lv_aload_n hx hb dL_law_1785 rfl (lv_at hl 4 rfl) ?_
      refine lv_iload hx hb dL_law_1786 (lv_at hl 0 rfl) ?_
      refine q_con hx hb dL_law_1788 ?_
      refine q_add hx hb dL_law_1789 ?_
      refine r_xld hx hb hX hbl hbA hS (i := i + 1) (z := x1) (by omega) hL ex1 dL_law_1790 ?_
      refine lv_aload_n hx hb dL_law_1791 rfl (lv_at hl 4 rfl) ?_
      refine lv_iload hx hb dL_law_1792 (lv_at hl 0 rfl) ?_
      refine q_con hx hb dL_law_1794 ?_
      refine q_add hx hb dL_law_1795 ?_
      refine r_xld hx hb hX hbl hbA hS (i := i + 2) (z := x2) (by omega) hL ex2 dL_law_1796 ?_
      refine lv_aload_n hx hb dL_law_1797 rfl (lv_at hl 4 rfl) ?_
      refine lv_iload hx hb dL_law_1798 (lv_at hl 0 rfl) ?_
      refine q_con hx hb dL_law_1800 ?_
      refine q_add hx hb dL_law_1801 ?_
      refine r_xld hx hb hX hbl hbA hS (i := i + 3) (z := x3) (by omega) hL ex3 dL_law_1802 ?_
      refine q_ieq (tgt := 1810) hx hb dL_law_1803 (by decide) (by omega) (fun c13 => ?_) (fun c13 => ?_)
      · refine q_con hx hb dL_law_1810 ?_
        refine lv_aload_n hx hb dL_law_1811 rfl (lv_at hl 1 rfl) ?_
        refine c_SWr (As := [.ref (u 0), .int (iI x1), .int (iI x2), .int (iI 0), .ref o]) (rest := []) (r := .int (iI 1)) fx hl (wn1_anniversaries θ l hl0 S0 _ u dt (fun j => sv j 0) (fun j => sv j 1) (fun j => sv j 2) bc rf kn hcr hjH hn o nv sv9 ho hLX.1 x1 x2 0 (by first | assumption | omega | (dsimp only; first | assumption | omega) | exact Hid.mk (by first | assumption | omega) | exact Hid.mk ⟨fun _ => by first | assumption | omega, fun _ => by first | assumption | omega⟩) (by first | assumption | omega | (dsimp only; first | assumption | omega) | exact Hid.mk (by first | assumption | omega) | exact Hid.mk ⟨fun _ => by first | assumption | omega, fun _ => by first | assumption | omega⟩) (by first | assumption | omega | (dsimp only; first | assumption | omega) | exact Hid.mk (by first | assumption | omega) | exact Hid.mk ⟨fun _ => by first | assumption | omega, fun _ => by first | assumption | omega⟩) (by first | assumption | omega | (dsimp only; first | assumption | omega) | exact Hid.mk (by first | assumption | omega) | exact Hid.mk ⟨fun _ => by first | assumption | omega, fun _ => by first | assumption | omega⟩) (by first | assumption | omega | (dsimp only; first | assumption | omega) | exact Hid.mk (by first | assumption | omega) | exact Hid.mk ⟨fun _ => by first | assumption | omega, fun _ => by first | assumption | omega⟩)) dL_law_1812 k971 k972 k0 k973 hd_L_anniversaries rfl ⟨by omega, by omega⟩ (Nat.le_of_ble_eq_true rfl) ⟨by (try dsimp only); omega, by (try dsimp only); omega⟩ hS (fun x h => h.elim (fun h => h.elim (fun ⟨j, hj, e⟩ => e ▸ hu.2 j hj) (fun h => Nat.le_trans hzH.2.1 h)) (fun e => e ▸ hoθ)) (fun H14 locs hpH14 hszH14 hkH14 hS => ?_)
        obtain ⟨hcw, ho1⟩ := hpH14
        have hzH1 := hz0.at hAB hS
        have hjH1 := hj0.at hAB hS
        have hm1 := lw_cls hLX hw hzH1 hkH14
        refine lv_istore (lv' := [(5, .int (iI 1)), (4, .int (iI i)), (3, .ref o), (2, .ref (w 0)), (1, .ref (u 0)), (0, .ref b)]) hx hb dL_law_1815 hl (by decide) rfl (fun ls hl => ?_)
        refine lv_aload_n hx hb dL_law_1817 rfl (lv_at hl 3 rfl) ?_
        refine lv_aload_n hx hb dL_law_1818 rfl (lv_at hl 5 rfl) ?_
        refine lv_iload hx hb dL_law_1819 (lv_at hl 1 rfl) ?_
        refine q_con hx hb dL_law_1821 ?_
        refine q_add hx hb dL_law_1822 ?_
        refine r_xld hx hb hX hbl hbA hS (i := i + 1) (z := x1) (by omega) hL ex1 dL_law_1823 ?_
        refine lv_aload_n hx hb dL_law_1824 rfl (lv_at hl 5 rfl) ?_
        refine lv_iload hx hb dL_law_1825 (lv_at hl 1 rfl) ?_
        refine q_con hx hb dL_law_1827 ?_
        refine q_add hx hb dL_law_1828 ?_
        refine r_xld hx hb hX hbl hbA hS (i := i + 2) (z := x2) (by omega) hL ex2 dL_law_1829 ?_
        refine lv_aload_n hx hb dL_law_1830 rfl (lv_at hl 5 rfl) ?_
        refine lv_iload hx hb dL_law_1831 (lv_at hl 1 rfl) ?_
        refine q_con hx hb dL_law_1833 ?_
        refine q_add hx hb dL_law_1834 ?_
        refine r_xld hx hb hX hbl hbA hS (i := i + 3) (z := x3) (by omega) hL ex3 dL_law_1835 ?_
        refine q_ieq (tgt := 1843) hx hb dL_law_1836 (by decide) (by omega) (fun c15 => ?_) (fun c15 => ?_)
        · refine q_con hx hb dL_law_1843 ?_
          refine c_Vr (As := [.int (iI x1), .int (iI x2), .int (iI 0)]) (rest := []) (b := w 0) (C := RX3) (r := some (.int (iI 0))) (st1 := [.int (iI 0)]) fx hl (mno1_anniversaries θ l S0 _ w r q dt sv th bc rf kn hm1 x1 x2 0 (by first | assumption | omega | (dsimp only; first | assumption | omega) | exact Hid.mk (by first | assumption | omega) | exact Hid.mk ⟨fun _ => by first | assumption | omega, fun _ => by first | assumption | omega⟩) (by first | assumption | omega | (dsimp only; first | assumption | omega) | exact Hid.mk (by first | assumption | omega) | exact Hid.mk ⟨fun _ => by first | assumption | omega, fun _ => by first | assumption | omega⟩) (by first | assumption | omega | (dsimp only; first | assumption | omega) | exact Hid.mk (by first | assumption | omega) | exact Hid.mk ⟨fun _ => by first | assumption | omega, fun _ => by first | assumption | omega⟩) (by first | assumption | omega | (dsimp only; first | assumption | omega) | exact Hid.mk (by first | assumption | omega) | exact Hid.mk ⟨fun _ => by first | assumption | omega, fun _ => by first | assumption | omega⟩) (by first | assumption | omega | (dsimp only; first | assumption | omega) | exact Hid.mk (by first | assumption | omega) | exact Hid.mk ⟨fun _ => by first | assumption | omega, fun _ => by first | assumption | omega⟩)) (ob_recv hK hm1.2.2.1.1 rfl) dL_law_1844 k1515 k1516 k1517 k6 k1518 hd_X3_anniversaries rfl rfl ⟨by omega, by omega⟩ (Nat.le_of_ble_eq_true rfl) ⟨by (try dsimp only); omega, by (try dsimp only); omega⟩ hS (wa_b hm1.2.1 hzH1.2.1) (fun H16 locs hpH16 hszH16 hkH16 hS => ?_)
          obtain ⟨r1, q1, hm2, nr, nq⟩ := hpH16
          have hzH2 := hz0.at hAB hS
          have hL2 := lw_mod hLX hzH2 hu hcw ho1 hfr hfq hm2 nr nq hkH16
          refine lv_istore (lv' := [(6, .int (iI 0)), (5, .int (iI 1)), (4, .int (iI i)), (3, .ref o), (2, .ref (w 0)), (1, .ref (u 0)), (0, .ref b)]) hx hb dL_law_1847 hl (by decide) rfl (fun ls hl => ?_)
          refine lv_goto (tgt := 2331) hx hb dL_law_1849 (by decide) ?_
          exact kk _ _ _ _ _ ⟨_, _, _, _, _, _, _, _, _, _, hL2⟩ hS (by omega) (by omega) (lv_sub hl [2, 3, 4, 5, 6] rfl)
        · exact (show False by omega).elim
      · exact (show False by omega).elim
  · by_cases hc1 : 0 ≤ x1 ∧ x1 < 6
    · by_cases hc2 : 0 ≤ x2 ∧ x2 < 6
      · by_cases href : dt x2.toNat < dt x1.toNat ∨ 40000 < dt x2.toNat - dt x1.toNat
        · refine lv_aload_n hx hb dL_law_1784 rfl (lv_at hl 3 rfl) ?_
          refine lv_aload_n hx hb dL_law_1785 rfl (lv_at hl 4 rfl) ?_
          refine lv_iload hx hb dL_law_1786 (lv_at hl 0 rfl) ?_
          refine q_con hx hb dL_law_1788 ?_
          refine q_add hx hb dL_law_1789 ?_
          refine r_xld hx hb hX hbl hbA hS (i := i + 1) (z := x1) (by omega) hL ex1 dL_law_1790 ?_
          refine lv_aload_n hx hb dL_law_1791 rfl (lv_at hl 4 rfl) ?_
          refine lv_iload hx hb dL_law_1792 (lv_at hl 0 rfl) ?_
          refine q_con hx hb dL_law_1794 ?_
          refine q_add hx hb dL_law_1795 ?_
          refine r_xld hx hb hX hbl hbA hS (i := i + 2) (z := x2) (by omega) hL ex2 dL_law_1796 ?_
          refine lv_aload_n hx hb dL_law_1797 rfl (lv_at hl 4 rfl) ?_
          refine lv_iload hx hb dL_law_1798 (lv_at hl 0 rfl) ?_
          refine q_con hx hb dL_law_1800 ?_
          refine q_add hx hb dL_law_1801 ?_
          refine r_xld hx hb hX hbl hbA hS (i := i + 3) (z := x3) (by omega) hL ex3 dL_law_1802 ?_
          refine q_ieq (tgt := 1810) hx hb dL_law_1803 (by decide) (by omega) (fun c17 => ?_) (fun c17 => ?_)
          · exact (show False by omega).elim
          · refine q_con hx hb dL_law_1806 ?_
            refine lv_goto (tgt := 1811) hx hb dL_law_1807 (by decide) ?_
            refine lv_aload_n hx hb dL_law_1811 rfl (lv_at hl 1 rfl) ?_
            refine c_SWr (As := [.ref (u 0), .int (iI x1), .int (iI x2), .int (iI 1), .ref o]) (rest := []) (r := .int (iI 0)) fx hl (wr_anniversaries_r θ l hl0 S0 _ u dt (fun j => sv j 0) (fun j => sv j 1) (fun j => sv j 2) bc rf kn hcr hjH hn o nv sv9 ho hLX.1 x1 x2 1 (by first | assumption | omega | (dsimp only; first | assumption | omega) | exact Hid.mk (by first | assumption | omega) | exact Hid.mk ⟨fun _ => by first | assumption | omega, fun _ => by first | assumption | omega⟩) (by first | assumption | omega | (dsimp only; first | assumption | omega) | exact Hid.mk (by first | assumption | omega) | exact Hid.mk ⟨fun _ => by first | assumption | omega, fun _ => by first | assumption | omega⟩) (by first | assumption | omega | (dsimp only; first | assumption | omega) | exact Hid.mk (by first | assumption | omega) | exact Hid.mk ⟨fun _ => by first | assumption | omega, fun _ => by first | assumption | omega⟩) (by first | assumption | omega | (dsimp only; first | assumption | omega) | exact Hid.mk (by first | assumption | omega) | exact Hid.mk ⟨fun _ => by first | assumption | omega, fun _ => by first | assumption | omega⟩) (by first | assumption | omega | (dsimp only; first | assumption | omega) | exact Hid.mk (by first | assumption | omega) | exact Hid.mk ⟨fun _ => by first | assumption | omega, fun _ => by first | assumption | omega⟩) (by first | assumption | omega | (dsimp only; first | assumption | omega) | exact Hid.mk (by first | assumption | omega) | exact Hid.mk ⟨fun _ => by first | assumption | omega, fun _ => by first | assumption | omega⟩) (by first | assumption | omega | (dsimp only; first | assumption | omega) | exact Hid.mk (by first | assumption | omega) | exact Hid.mk ⟨fun _ => by first | assumption | omega, fun _ => by first | assumption | omega⟩)) dL_law_1812 k971 k972 k0 k973 hd_L_anniversaries rfl ⟨by omega, by omega⟩ (Nat.le_of_ble_eq_true rfl) ⟨by (try dsimp only); omega, by (try dsimp only); omega⟩ hS (fun x h => h.elim (fun h => h.elim (fun ⟨j, hj, e⟩ => e ▸ hu.2 j hj) (fun h => Nat.le_trans hzH.2.1 h)) (fun e => e ▸ hoθ)) (fun H18 locs hpH18 hszH18 hkH18 hS => ?_)
            obtain ⟨hcw, ho1⟩ := hpH18
            have hzH1 := hz0.at hAB hS
            have hjH1 := hj0.at hAB hS
            have hm1 := lw_cls hLX hw hzH1 hkH18
            refine lv_istore (lv' := [(5, .int (iI 0)), (4, .int (iI i)), (3, .ref o), (2, .ref (w 0)), (1, .ref (u 0)), (0, .ref b)]) hx hb dL_law_1815 hl (by decide) rfl (fun ls hl => ?_)
            refine lv_aload_n hx hb dL_law_1817 rfl (lv_at hl 3 rfl) ?_
            refine lv_aload_n hx hb dL_law_1818 rfl (lv_at hl 5 rfl) ?_
            refine lv_iload hx hb dL_law_1819 (lv_at hl 1 rfl) ?_
            refine q_con hx hb dL_law_1821 ?_
            refine q_add hx hb dL_law_1822 ?_
            refine r_xld hx hb hX hbl hbA hS (i := i + 1) (z := x1) (by omega) hL ex1 dL_law_1823 ?_
            refine lv_aload_n hx hb dL_law_1824 rfl (lv_at hl 5 rfl) ?_
            refine lv_iload hx hb dL_law_1825 (lv_at hl 1 rfl) ?_
            refine q_con hx hb dL_law_1827 ?_
            refine q_add hx hb dL_law_1828 ?_
            refine r_xld hx hb hX hbl hbA hS (i := i + 2) (z := x2) (by omega) hL ex2 dL_law_1829 ?_
            refine lv_aload_n hx hb dL_law_1830 rfl (lv_at hl 5 rfl) ?_
            refine lv_iload hx hb dL_law_1831 (lv_at hl 1 rfl) ?_
            refine q_con hx hb dL_law_1833 ?_
            refine q_add hx hb dL_law_1834 ?_
            refine r_xld hx hb hX hbl hbA hS (i := i + 3) (z := x3) (by omega) hL ex3 dL_law_1835 ?_
            refine q_ieq (tgt := 1843) hx hb dL_law_1836 (by decide) (by omega) (fun c19 => ?_) (fun c19 => ?_)
            · exact (show False by omega).elim
            · refine q_con hx hb dL_law_1839 ?_
              refine lv_goto (tgt := 1844) hx hb dL_law_1840 (by decide) ?_
              refine c_Vr (As := [.int (iI x1), .int (iI x2), .int (iI 1)]) (rest := []) (b := w 0) (C := RX3) (r := some (.int (iI (-9)))) (st1 := [.int (iI (-9))]) fx hl (mok_anniversaries_r θ l S0 _ w r q dt sv th bc rf kn hm1 x1 x2 1 (by first | assumption | omega | (dsimp only; first | assumption | omega) | exact Hid.mk (by first | assumption | omega) | exact Hid.mk ⟨fun _ => by first | assumption | omega, fun _ => by first | assumption | omega⟩) (by first | assumption | omega | (dsimp only; first | assumption | omega) | exact Hid.mk (by first | assumption | omega) | exact Hid.mk ⟨fun _ => by first | assumption | omega, fun _ => by first | assumption | omega⟩) (by first | assumption | omega | (dsimp only; first | assumption | omega) | exact Hid.mk (by first | assumption | omega) | exact Hid.mk ⟨fun _ => by first | assumption | omega, fun _ => by first | assumption | omega⟩) (by first | assumption | omega | (dsimp only; first | assumption | omega) | exact Hid.mk (by first | assumption | omega) | exact Hid.mk ⟨fun _ => by first | assumption | omega, fun _ => by first | assumption | omega⟩) (by first | assumption | omega | (dsimp only; first | assumption | omega) | exact Hid.mk (by first | assumption | omega) | exact Hid.mk ⟨fun _ => by first | assumption | omega, fun _ => by first | assumption | omega⟩) (by first | assumption | omega | (dsimp only; first | assumption | omega) | exact Hid.mk (by first | assumption | omega) | exact Hid.mk ⟨fun _ => by first | assumption | omega, fun _ => by first | assumption | omega⟩) (by first | assumption | omega | (dsimp only; first | assumption | omega) | exact Hid.mk (by first | assumption | omega) | exact Hid.mk ⟨fun _ => by first | assumption | omega, fun _ => by first | assumption | omega⟩)) (ob_recv hK hm1.2.2.1.1 rfl) dL_law_1844 k1515 k1516 k1517 k6 k1518 hd_X3_anniversaries rfl rfl ⟨by omega, by omega⟩ (Nat.le_of_ble_eq_true rfl) ⟨by (try dsimp only); omega, by (try dsimp only); omega⟩ hS (wa_b hm1.2.1 hzH1.2.1) (fun H20 locs hpH20 hszH20 hkH20 hS => ?_)
              obtain ⟨r1, q1, hm2, nr, nq⟩ := hpH20
              have hzH2 := hz0.at hAB hS
              have hL2 := lw_mod hLX hzH2 hu hcw ho1 hfr hfq hm2 nr nq hkH20
              refine lv_istore (lv' := [(6, .int (iI (-9))), (5, .int (iI 0)), (4, .int (iI i)), (3, .ref o), (2, .ref (w 0)), (1, .ref (u 0)), (0, .ref b)]) hx hb dL_law_1847 hl (by decide) rfl (fun ls hl => ?_)
              refine lv_goto (tgt := 2331) hx hb dL_law_1849 (by decide) ?_
              exact kk _ _ _ _ _ ⟨_, _, _, _, _, _, _, _, _, _, hL2⟩ hS (by omega) (by omega) (lv_sub hl [2, 3, 4, 5, 6] rfl)
        · refine lv_aload_n hx hb dL_law_1784 rfl (lv_at hl 3 rfl) ?_
          refine lv_aload_n hx hb dL_law_1785 rfl (lv_at hl 4 rfl) ?_
          refine lv_iload hx hb dL_law_1786 (lv_at hl 0 rfl) ?_
          refine q_con hx hb dL_law_1788 ?_
          refine q_add hx hb dL_law_1789 ?_
          refine r_xld hx hb hX hbl hbA hS (i := i + 1) (z := x1) (by omega) hL ex1 dL_law_1790 ?_
          refine lv_aload_n hx hb dL_law_1791 rfl (lv_at hl 4 rfl) ?_
          refine lv_iload hx hb dL_law_1792 (lv_at hl 0 rfl) ?_
          refine q_con hx hb dL_law_1794 ?_
          refine q_add hx hb dL_law_1795 ?_
          refine r_xld hx hb hX hbl hbA hS (i := i + 2) (z := x2) (by omega) hL ex2 dL_law_1796 ?_
          refine lv_aload_n hx hb dL_law_1797 rfl (lv_at hl 4 rfl) ?_
          refine lv_iload hx hb dL_law_1798 (lv_at hl 0 rfl) ?_
          refine q_con hx hb dL_law_1800 ?_
          refine q_add hx hb dL_law_1801 ?_
          refine r_xld hx hb hX hbl hbA hS (i := i + 3) (z := x3) (by omega) hL ex3 dL_law_1802 ?_
          refine q_ieq (tgt := 1810) hx hb dL_law_1803 (by decide) (by omega) (fun c21 => ?_) (fun c21 => ?_)
          · exact (show False by omega).elim
          · refine q_con hx hb dL_law_1806 ?_
            refine lv_goto (tgt := 1811) hx hb dL_law_1807 (by decide) ?_
            refine lv_aload_n hx hb dL_law_1811 rfl (lv_at hl 1 rfl) ?_
            refine c_SWr (As := [.ref (u 0), .int (iI x1), .int (iI x2), .int (iI 1), .ref o]) (rest := []) (r := .int (iI 0)) fx hl (wr_anniversaries θ l hl0 S0 _ u dt (fun j => sv j 0) (fun j => sv j 1) (fun j => sv j 2) bc rf kn hcr hjH hn o nv sv9 ho hLX.1 x1 x2 1 (by first | assumption | omega | (dsimp only; first | assumption | omega) | exact Hid.mk (by first | assumption | omega) | exact Hid.mk ⟨fun _ => by first | assumption | omega, fun _ => by first | assumption | omega⟩) (by first | assumption | omega | (dsimp only; first | assumption | omega) | exact Hid.mk (by first | assumption | omega) | exact Hid.mk ⟨fun _ => by first | assumption | omega, fun _ => by first | assumption | omega⟩) (by first | assumption | omega | (dsimp only; first | assumption | omega) | exact Hid.mk (by first | assumption | omega) | exact Hid.mk ⟨fun _ => by first | assumption | omega, fun _ => by first | assumption | omega⟩) (by first | assumption | omega | (dsimp only; first | assumption | omega) | exact Hid.mk (by first | assumption | omega) | exact Hid.mk ⟨fun _ => by first | assumption | omega, fun _ => by first | assumption | omega⟩) (by first | assumption | omega | (dsimp only; first | assumption | omega) | exact Hid.mk (by first | assumption | omega) | exact Hid.mk ⟨fun _ => by first | assumption | omega, fun _ => by first | assumption | omega⟩) (by first | assumption | omega | (dsimp only; first | assumption | omega) | exact Hid.mk (by first | assumption | omega) | exact Hid.mk ⟨fun _ => by first | assumption | omega, fun _ => by first | assumption | omega⟩) (by first | assumption | omega | (dsimp only; first | assumption | omega) | exact Hid.mk (by first | assumption | omega) | exact Hid.mk ⟨fun _ => by first | assumption | omega, fun _ => by first | assumption | omega⟩)) dL_law_1812 k971 k972 k0 k973 hd_L_anniversaries rfl ⟨by omega, by omega⟩ (Nat.le_of_ble_eq_true rfl) ⟨by (try dsimp only); omega, by (try dsimp only); omega⟩ hS (fun x h => h.elim (fun h => h.elim (fun ⟨j, hj, e⟩ => e ▸ hu.2 j hj) (fun h => Nat.le_trans hzH.2.1 h)) (fun e => e ▸ hoθ)) (fun H22 locs hpH22 hszH22 hkH22 hS => ?_)
            obtain ⟨hcw, ho1⟩ := hpH22
            have hzH1 := hz0.at hAB hS
            have hjH1 := hj0.at hAB hS
            have hm1 := lw_cls hLX hw hzH1 hkH22
            refine lv_istore (lv' := [(5, .int (iI 0)), (4, .int (iI i)), (3, .ref o), (2, .ref (w 0)), (1, .ref (u 0)), (0, .ref b)]) hx hb dL_law_1815 hl (by decide) rfl (fun ls hl => ?_)
            refine lv_aload_n hx hb dL_law_1817 rfl (lv_at hl 3 rfl) ?_
            refine lv_aload_n hx hb dL_law_1818 rfl (lv_at hl 5 rfl) ?_
            refine lv_iload hx hb dL_law_1819 (lv_at hl 1 rfl) ?_
            refine q_con hx hb dL_law_1821 ?_
            refine q_add hx hb dL_law_1822 ?_
            refine r_xld hx hb hX hbl hbA hS (i := i + 1) (z := x1) (by omega) hL ex1 dL_law_1823 ?_
            refine lv_aload_n hx hb dL_law_1824 rfl (lv_at hl 5 rfl) ?_
            refine lv_iload hx hb dL_law_1825 (lv_at hl 1 rfl) ?_
            refine q_con hx hb dL_law_1827 ?_
            refine q_add hx hb dL_law_1828 ?_
            refine r_xld hx hb hX hbl hbA hS (i := i + 2) (z := x2) (by omega) hL ex2 dL_law_1829 ?_
            refine lv_aload_n hx hb dL_law_1830 rfl (lv_at hl 5 rfl) ?_
            refine lv_iload hx hb dL_law_1831 (lv_at hl 1 rfl) ?_
            refine q_con hx hb dL_law_1833 ?_
            refine q_add hx hb dL_law_1834 ?_
            refine r_xld hx hb hX hbl hbA hS (i := i + 3) (z := x3) (by omega) hL ex3 dL_law_1835 ?_
            refine q_ieq (tgt := 1843) hx hb dL_law_1836 (by decide) (by omega) (fun c23 => ?_) (fun c23 => ?_)
            · exact (show False by omega).elim
            · refine q_con hx hb dL_law_1839 ?_
              refine lv_goto (tgt := 1844) hx hb dL_law_1840 (by decide) ?_
              refine c_Vr (As := [.int (iI x1), .int (iI x2), .int (iI 1)]) (rest := []) (b := w 0) (C := RX3) (r := some (.int (iI (unI (dt x1.toNat) (dt x2.toNat) 1)))) (st1 := [.int (iI (unI (dt x1.toNat) (dt x2.toNat) 1))]) fx hl (mok_anniversaries θ l S0 _ w r q dt sv th bc rf kn hm1 x1 x2 1 (by first | assumption | omega | (dsimp only; first | assumption | omega) | exact Hid.mk (by first | assumption | omega) | exact Hid.mk ⟨fun _ => by first | assumption | omega, fun _ => by first | assumption | omega⟩) (by first | assumption | omega | (dsimp only; first | assumption | omega) | exact Hid.mk (by first | assumption | omega) | exact Hid.mk ⟨fun _ => by first | assumption | omega, fun _ => by first | assumption | omega⟩) (by first | assumption | omega | (dsimp only; first | assumption | omega) | exact Hid.mk (by first | assumption | omega) | exact Hid.mk ⟨fun _ => by first | assumption | omega, fun _ => by first | assumption | omega⟩) (by first | assumption | omega | (dsimp only; first | assumption | omega) | exact Hid.mk (by first | assumption | omega) | exact Hid.mk ⟨fun _ => by first | assumption | omega, fun _ => by first | assumption | omega⟩) (by first | assumption | omega | (dsimp only; first | assumption | omega) | exact Hid.mk (by first | assumption | omega) | exact Hid.mk ⟨fun _ => by first | assumption | omega, fun _ => by first | assumption | omega⟩) (by first | assumption | omega | (dsimp only; first | assumption | omega) | exact Hid.mk (by first | assumption | omega) | exact Hid.mk ⟨fun _ => by first | assumption | omega, fun _ => by first | assumption | omega⟩) (by first | assumption | omega | (dsimp only; first | assumption | omega) | exact Hid.mk (by first | assumption | omega) | exact Hid.mk ⟨fun _ => by first | assumption | omega, fun _ => by first | assumption | omega⟩)) (ob_recv hK hm1.2.2.1.1 rfl) dL_law_1844 k1515 k1516 k1517 k6 k1518 hd_X3_anniversaries rfl rfl ⟨by omega, by omega⟩ (Nat.le_of_ble_eq_true rfl) ⟨by (try dsimp only); omega, by (try dsimp only); omega⟩ hS (wa_b hm1.2.1 hzH1.2.1) (fun H24 locs hpH24 hszH24 hkH24 hS => ?_)
              obtain ⟨r1, q1, hm2, nr, nq⟩ := hpH24
              have hzH2 := hz0.at hAB hS
              have hL2 := lw_mod hLX hzH2 hu hcw ho1 hfr hfq hm2 nr nq hkH24
              refine lv_istore (lv' := [(6, .int (iI (unI (dt x1.toNat) (dt x2.toNat) 1))), (5, .int (iI 0)), (4, .int (iI i)), (3, .ref o), (2, .ref (w 0)), (1, .ref (u 0)), (0, .ref b)]) hx hb dL_law_1847 hl (by decide) rfl (fun ls hl => ?_)
              refine lv_goto (tgt := 2331) hx hb dL_law_1849 (by decide) ?_
              exact kk _ _ _ _ _ ⟨_, _, _, _, _, _, _, _, _, _, hL2⟩ hS (by omega) (by omega) (lv_sub hl [2, 3, 4, 5, 6] rfl)
      · refine lv_aload_n hx hb dL_law_1784 rfl (lv_at hl 3 rfl) ?_
        refine lv_aload_n hx hb dL_law_1785 rfl (lv_at hl 4 rfl) ?_
        refine lv_iload hx hb dL_law_1786 (lv_at hl 0 rfl) ?_
        refine q_con hx hb dL_law_1788 ?_
        refine q_add hx hb dL_law_1789 ?_
        refine r_xld hx hb hX hbl hbA hS (i := i + 1) (z := x1) (by omega) hL ex1 dL_law_1790 ?_
        refine lv_aload_n hx hb dL_law_1791 rfl (lv_at hl 4 rfl) ?_
        refine lv_iload hx hb dL_law_1792 (lv_at hl 0 rfl) ?_
        refine q_con hx hb dL_law_1794 ?_
        refine q_add hx hb dL_law_1795 ?_
        refine r_xld hx hb hX hbl hbA hS (i := i + 2) (z := x2) (by omega) hL ex2 dL_law_1796 ?_
        refine lv_aload_n hx hb dL_law_1797 rfl (lv_at hl 4 rfl) ?_
        refine lv_iload hx hb dL_law_1798 (lv_at hl 0 rfl) ?_
        refine q_con hx hb dL_law_1800 ?_
        refine q_add hx hb dL_law_1801 ?_
        refine r_xld hx hb hX hbl hbA hS (i := i + 3) (z := x3) (by omega) hL ex3 dL_law_1802 ?_
        refine q_ieq (tgt := 1810) hx hb dL_law_1803 (by decide) (by omega) (fun c25 => ?_) (fun c25 => ?_)
        · exact (show False by omega).elim
        · refine q_con hx hb dL_law_1806 ?_
          refine lv_goto (tgt := 1811) hx hb dL_law_1807 (by decide) ?_
          refine lv_aload_n hx hb dL_law_1811 rfl (lv_at hl 1 rfl) ?_
          refine c_SWr (As := [.ref (u 0), .int (iI x1), .int (iI x2), .int (iI 1), .ref o]) (rest := []) (r := .int (iI 1)) fx hl (wn2_anniversaries θ l hl0 S0 _ u dt (fun j => sv j 0) (fun j => sv j 1) (fun j => sv j 2) bc rf kn hcr hjH hn o nv sv9 ho hLX.1 x1 x2 1 (by first | assumption | omega | (dsimp only; first | assumption | omega) | exact Hid.mk (by first | assumption | omega) | exact Hid.mk ⟨fun _ => by first | assumption | omega, fun _ => by first | assumption | omega⟩) (by first | assumption | omega | (dsimp only; first | assumption | omega) | exact Hid.mk (by first | assumption | omega) | exact Hid.mk ⟨fun _ => by first | assumption | omega, fun _ => by first | assumption | omega⟩) (by first | assumption | omega | (dsimp only; first | assumption | omega) | exact Hid.mk (by first | assumption | omega) | exact Hid.mk ⟨fun _ => by first | assumption | omega, fun _ => by first | assumption | omega⟩) (by first | assumption | omega | (dsimp only; first | assumption | omega) | exact Hid.mk (by first | assumption | omega) | exact Hid.mk ⟨fun _ => by first | assumption | omega, fun _ => by first | assumption | omega⟩) (by first | assumption | omega | (dsimp only; first | assumption | omega) | exact Hid.mk (by first | assumption | omega) | exact Hid.mk ⟨fun _ => by first | assumption | omega, fun _ => by first | assumption | omega⟩) (by first | assumption | omega | (dsimp only; first | assumption | omega) | exact Hid.mk (by first | assumption | omega) | exact Hid.mk ⟨fun _ => by first | assumption | omega, fun _ => by first | assumption | omega⟩)) dL_law_1812 k971 k972 k0 k973 hd_L_anniversaries rfl ⟨by omega, by omega⟩ (Nat.le_of_ble_eq_true rfl) ⟨by (try dsimp only); omega, by (try dsimp only); omega⟩ hS (fun x h => h.elim (fun h => h.elim (fun ⟨j, hj, e⟩ => e ▸ hu.2 j hj) (fun h => Nat.le_trans hzH.2.1 h)) (fun e => e ▸ hoθ)) (fun H26 locs hpH26 hszH26 hkH26 hS => ?_)
          obtain ⟨hcw, ho1⟩ := hpH26
          have hzH1 := hz0.at hAB hS
          have hjH1 := hj0.at hAB hS
          have hm1 := lw_cls hLX hw hzH1 hkH26
          refine lv_istore (lv' := [(5, .int (iI 1)), (4, .int (iI i)), (3, .ref o), (2, .ref (w 0)), (1, .ref (u 0)), (0, .ref b)]) hx hb dL_law_1815 hl (by decide) rfl (fun ls hl => ?_)
          refine lv_aload_n hx hb dL_law_1817 rfl (lv_at hl 3 rfl) ?_
          refine lv_aload_n hx hb dL_law_1818 rfl (lv_at hl 5 rfl) ?_
          refine lv_iload hx hb dL_law_1819 (lv_at hl 1 rfl) ?_
          refine q_con hx hb dL_law_1821 ?_
          refine q_add hx hb dL_law_1822 ?_
          refine r_xld hx hb hX hbl hbA hS (i := i + 1) (z := x1) (by omega) hL ex1 dL_law_1823 ?_
          refine lv_aload_n hx hb dL_law_1824 rfl (lv_at hl 5 rfl) ?_
          refine lv_iload hx hb dL_law_1825 (lv_at hl 1 rfl) ?_
          refine q_con hx hb dL_law_1827 ?_
          refine q_add hx hb dL_law_1828 ?_
          refine r_xld hx hb hX hbl hbA hS (i := i + 2) (z := x2) (by omega) hL ex2 dL_law_1829 ?_
          refine lv_aload_n hx hb dL_law_1830 rfl (lv_at hl 5 rfl) ?_
          refine lv_iload hx hb dL_law_1831 (lv_at hl 1 rfl) ?_
          refine q_con hx hb dL_law_1833 ?_
          refine q_add hx hb dL_law_1834 ?_
          refine r_xld hx hb hX hbl hbA hS (i := i + 3) (z := x3) (by omega) hL ex3 dL_law_1835 ?_
          refine q_ieq (tgt := 1843) hx hb dL_law_1836 (by decide) (by omega) (fun c27 => ?_) (fun c27 => ?_)
          · exact (show False by omega).elim
          · refine q_con hx hb dL_law_1839 ?_
            refine lv_goto (tgt := 1844) hx hb dL_law_1840 (by decide) ?_
            refine c_Vr (As := [.int (iI x1), .int (iI x2), .int (iI 1)]) (rest := []) (b := w 0) (C := RX3) (r := some (.int (iI 0))) (st1 := [.int (iI 0)]) fx hl (mno2_anniversaries θ l S0 _ w r q dt sv th bc rf kn hm1 x1 x2 1 (by first | assumption | omega | (dsimp only; first | assumption | omega) | exact Hid.mk (by first | assumption | omega) | exact Hid.mk ⟨fun _ => by first | assumption | omega, fun _ => by first | assumption | omega⟩) (by first | assumption | omega | (dsimp only; first | assumption | omega) | exact Hid.mk (by first | assumption | omega) | exact Hid.mk ⟨fun _ => by first | assumption | omega, fun _ => by first | assumption | omega⟩) (by first | assumption | omega | (dsimp only; first | assumption | omega) | exact Hid.mk (by first | assumption | omega) | exact Hid.mk ⟨fun _ => by first | assumption | omega, fun _ => by first | assumption | omega⟩) (by first | assumption | omega | (dsimp only; first | assumption | omega) | exact Hid.mk (by first | assumption | omega) | exact Hid.mk ⟨fun _ => by first | assumption | omega, fun _ => by first | assumption | omega⟩) (by first | assumption | omega | (dsimp only; first | assumption | omega) | exact Hid.mk (by first | assumption | omega) | exact Hid.mk ⟨fun _ => by first | assumption | omega, fun _ => by first | assumption | omega⟩) (by first | assumption | omega | (dsimp only; first | assumption | omega) | exact Hid.mk (by first | assumption | omega) | exact Hid.mk ⟨fun _ => by first | assumption | omega, fun _ => by first | assumption | omega⟩)) (ob_recv hK hm1.2.2.1.1 rfl) dL_law_1844 k1515 k1516 k1517 k6 k1518 hd_X3_anniversaries rfl rfl ⟨by omega, by omega⟩ (Nat.le_of_ble_eq_true rfl) ⟨by (try dsimp only); omega, by (try dsimp only); omega⟩ hS (wa_b hm1.2.1 hzH1.2.1) (fun H28 locs hpH28 hszH28 hkH28 hS => ?_)
            obtain ⟨r1, q1, hm2, nr, nq⟩ := hpH28
            have hzH2 := hz0.at hAB hS
            have hL2 := lw_mod hLX hzH2 hu hcw ho1 hfr hfq hm2 nr nq hkH28
            refine lv_istore (lv' := [(6, .int (iI 0)), (5, .int (iI 1)), (4, .int (iI i)), (3, .ref o), (2, .ref (w 0)), (1, .ref (u 0)), (0, .ref b)]) hx hb dL_law_1847 hl (by decide) rfl (fun ls hl => ?_)
            refine lv_goto (tgt := 2331) hx hb dL_law_1849 (by decide) ?_
            exact kk _ _ _ _ _ ⟨_, _, _, _, _, _, _, _, _, _, hL2⟩ hS (by omega) (by omega) (lv_sub hl [2, 3, 4, 5, 6] rfl)
    · refine lv_aload_n hx hb dL_law_1784 rfl (lv_at hl 3 rfl) ?_
      refine lv_aload_n hx hb dL_law_1785 rfl (lv_at hl 4 rfl) ?_
      refine lv_iload hx hb dL_law_1786 (lv_at hl 0 rfl) ?_
      refine q_con hx hb dL_law_1788 ?_
      refine q_add hx hb dL_law_1789 ?_
      refine r_xld hx hb hX hbl hbA hS (i := i + 1) (z := x1) (by omega) hL ex1 dL_law_1790 ?_
      refine lv_aload_n hx hb dL_law_1791 rfl (lv_at hl 4 rfl) ?_
      refine lv_iload hx hb dL_law_1792 (lv_at hl 0 rfl) ?_
      refine q_con hx hb dL_law_1794 ?_
      refine q_add hx hb dL_law_1795 ?_
      refine r_xld hx hb hX hbl hbA hS (i := i + 2) (z := x2) (by omega) hL ex2 dL_law_1796 ?_
      refine lv_aload_n hx hb dL_law_1797 rfl (lv_at hl 4 rfl) ?_
      refine lv_iload hx hb dL_law_1798 (lv_at hl 0 rfl) ?_
      refine q_con hx hb dL_law_1800 ?_
      refine q_add hx hb dL_law_1801 ?_
      refine r_xld hx hb hX hbl hbA hS (i := i + 3) (z := x3) (by omega) hL ex3 dL_law_1802 ?_
      refine q_ieq (tgt := 1810) hx hb dL_law_1803 (by decide) (by omega) (fun c29 => ?_) (fun c29 => ?_)
      · exact (show False by omega).elim
      · refine q_con hx hb dL_law_1806 ?_
        refine lv_goto (tgt := 1811) hx hb dL_law_1807 (by decide) ?_
        refine lv_aload_n hx hb dL_law_1811 rfl (lv_at hl 1 rfl) ?_
        refine c_SWr (As := [.ref (u 0), .int (iI x1), .int (iI x2), .int (iI 1), .ref o]) (rest := []) (r := .int (iI 1)) fx hl (wn1_anniversaries θ l hl0 S0 _ u dt (fun j => sv j 0) (fun j => sv j 1) (fun j => sv j 2) bc rf kn hcr hjH hn o nv sv9 ho hLX.1 x1 x2 1 (by first | assumption | omega | (dsimp only; first | assumption | omega) | exact Hid.mk (by first | assumption | omega) | exact Hid.mk ⟨fun _ => by first | assumption | omega, fun _ => by first | assumption | omega⟩) (by first | assumption | omega | (dsimp only; first | assumption | omega) | exact Hid.mk (by first | assumption | omega) | exact Hid.mk ⟨fun _ => by first | assumption | omega, fun _ => by first | assumption | omega⟩) (by first | assumption | omega | (dsimp only; first | assumption | omega) | exact Hid.mk (by first | assumption | omega) | exact Hid.mk ⟨fun _ => by first | assumption | omega, fun _ => by first | assumption | omega⟩) (by first | assumption | omega | (dsimp only; first | assumption | omega) | exact Hid.mk (by first | assumption | omega) | exact Hid.mk ⟨fun _ => by first | assumption | omega, fun _ => by first | assumption | omega⟩) (by first | assumption | omega | (dsimp only; first | assumption | omega) | exact Hid.mk (by first | assumption | omega) | exact Hid.mk ⟨fun _ => by first | assumption | omega, fun _ => by first | assumption | omega⟩)) dL_law_1812 k971 k972 k0 k973 hd_L_anniversaries rfl ⟨by omega, by omega⟩ (Nat.le_of_ble_eq_true rfl) ⟨by (try dsimp only); omega, by (try dsimp only); omega⟩ hS (fun x h => h.elim (fun h => h.elim (fun ⟨j, hj, e⟩ => e ▸ hu.2 j hj) (fun h => Nat.le_trans hzH.2.1 h)) (fun e => e ▸ hoθ)) (fun H30 locs hpH30 hszH30 hkH30 hS => ?_)
        obtain ⟨hcw, ho1⟩ := hpH30
        have hzH1 := hz0.at hAB hS
        have hjH1 := hj0.at hAB hS
        have hm1 := lw_cls hLX hw hzH1 hkH30
        refine lv_istore (lv' := [(5, .int (iI 1)), (4, .int (iI i)), (3, .ref o), (2, .ref (w 0)), (1, .ref (u 0)), (0, .ref b)]) hx hb dL_law_1815 hl (by decide) rfl (fun ls hl => ?_)
        refine lv_aload_n hx hb dL_law_1817 rfl (lv_at hl 3 rfl) ?_
        refine lv_aload_n hx hb dL_law_1818 rfl (lv_at hl 5 rfl) ?_
        refine lv_iload hx hb dL_law_1819 (lv_at hl 1 rfl) ?_
        refine q_con hx hb dL_law_1821 ?_
        refine q_add hx hb dL_law_1822 ?_
        refine r_xld hx hb hX hbl hbA hS (i := i + 1) (z := x1) (by omega) hL ex1 dL_law_1823 ?_
        refine lv_aload_n hx hb dL_law_1824 rfl (lv_at hl 5 rfl) ?_
        refine lv_iload hx hb dL_law_1825 (lv_at hl 1 rfl) ?_
        refine q_con hx hb dL_law_1827 ?_
        refine q_add hx hb dL_law_1828 ?_
        refine r_xld hx hb hX hbl hbA hS (i := i + 2) (z := x2) (by omega) hL ex2 dL_law_1829 ?_
        refine lv_aload_n hx hb dL_law_1830 rfl (lv_at hl 5 rfl) ?_
        refine lv_iload hx hb dL_law_1831 (lv_at hl 1 rfl) ?_
        refine q_con hx hb dL_law_1833 ?_
        refine q_add hx hb dL_law_1834 ?_
        refine r_xld hx hb hX hbl hbA hS (i := i + 3) (z := x3) (by omega) hL ex3 dL_law_1835 ?_
        refine q_ieq (tgt := 1843) hx hb dL_law_1836 (by decide) (by omega) (fun c31 => ?_) (fun c31 => ?_)
        · exact (show False by omega).elim
        · refine q_con hx hb dL_law_1839 ?_
          refine lv_goto (tgt := 1844) hx hb dL_law_1840 (by decide) ?_
          refine c_Vr (As := [.int (iI x1), .int (iI x2), .int (iI 1)]) (rest := []) (b := w 0) (C := RX3) (r := some (.int (iI 0))) (st1 := [.int (iI 0)]) fx hl (mno1_anniversaries θ l S0 _ w r q dt sv th bc rf kn hm1 x1 x2 1 (by first | assumption | omega | (dsimp only; first | assumption | omega) | exact Hid.mk (by first | assumption | omega) | exact Hid.mk ⟨fun _ => by first | assumption | omega, fun _ => by first | assumption | omega⟩) (by first | assumption | omega | (dsimp only; first | assumption | omega) | exact Hid.mk (by first | assumption | omega) | exact Hid.mk ⟨fun _ => by first | assumption | omega, fun _ => by first | assumption | omega⟩) (by first | assumption | omega | (dsimp only; first | assumption | omega) | exact Hid.mk (by first | assumption | omega) | exact Hid.mk ⟨fun _ => by first | assumption | omega, fun _ => by first | assumption | omega⟩) (by first | assumption | omega | (dsimp only; first | assumption | omega) | exact Hid.mk (by first | assumption | omega) | exact Hid.mk ⟨fun _ => by first | assumption | omega, fun _ => by first | assumption | omega⟩) (by first | assumption | omega | (dsimp only; first | assumption | omega) | exact Hid.mk (by first | assumption | omega) | exact Hid.mk ⟨fun _ => by first | assumption | omega, fun _ => by first | assumption | omega⟩)) (ob_recv hK hm1.2.2.1.1 rfl) dL_law_1844 k1515 k1516 k1517 k6 k1518 hd_X3_anniversaries rfl rfl ⟨by omega, by omega⟩ (Nat.le_of_ble_eq_true rfl) ⟨by (try dsimp only); omega, by (try dsimp only); omega⟩ hS (wa_b hm1.2.1 hzH1.2.1) (fun H32 locs hpH32 hszH32 hkH32 hS => ?_)
          obtain ⟨r1, q1, hm2, nr, nq⟩ := hpH32
          have hzH2 := hz0.at hAB hS
          have hL2 := lw_mod hLX hzH2 hu hcw ho1 hfr hfq hm2 nr nq hkH32
          refine lv_istore (lv' := [(6, .int (iI 0)), (5, .int (iI 1)), (4, .int (iI i)), (3, .ref o), (2, .ref (w 0)), (1, .ref (u 0)), (0, .ref b)]) hx hb dL_law_1847 hl (by decide) rfl (fun ls hl => ?_)
          refine lv_goto (tgt := 2331) hx hb dL_law_1849 (by decide) ?_
          exact kk _ _ _ _ _ ⟨_, _, _, _, _, _, _, _, _, _, hL2⟩ hS (by omega) (by omega) (lv_sub hl [2, 3, 4, 5, 6] rfl)

set_option maxHeartbeats 4000000 in
set_option maxRecDepth 100000 in
theorem lc_toNext {p : Program} {l : Launch} {e : Env} {R : Room} {s : State} {m : MethodId} {args : Array Value} {below : List Frame} {meth : Method} {c : Code} {Q : State → Prop} {θ : TH} {S0 : State} (fx : FX p m c cL_law 7 s args yL_law.cls S0) (hl0 : l.stackTraces = false) (hz0 : SZ θ S0 s.heap) (hj0 : SJ θ S0 s.heap) (hn : NX S0) {u w : Nat → Nat} {o b L : Nat} {xs : Nat → Int32} (hLX : LX u w o) (hoθ : θ.2.2.2 ≤ o) (hX : va_X b L xs s s.heap) (hbl : b < s.heap.size) (hbA : ¬ AJ θ b) (hL : L ≤ 2560) (hRF : 1000 ≤ R.frames ∧ 1000 ≤ R.locals) {H : Heap} {locs : List Loc} {cells slots : Nat} {ls : Array Slot} {i : Int} (hi : 0 ≤ i ∧ i + 5 ≤ (L : Int)) (hw : LWE θ S0 u w o H) (hS : va_S (AJ θ) s.heap H locs) (hRc : cells + 400 ≤ R.cells ∧ slots + 7000 ≤ R.slots) (hl : lv_has ls 7 [(4, .int (iI i)), (3, .ref o), (2, .ref (w 0)), (1, .ref (u 0)), (0, .ref b)]) (kk : LK p l e R s m args below meth c Q θ S0 u w o b i cells slots 2331) : W p l e R s m args below meth c H locs cells slots Q (F0 m 1852 ls []) := by
  obtain ⟨hx, hb, hml, hown, hts⟩ := id fx.1
  have hAB : ∀ x : Nat, AJ θ x → θ.2.2.2 ≤ x := fun _ h => h
  obtain ⟨r, q, dt, sv, th, bc, rf, kn, nv, sv9, hw⟩ := hw
  obtain ⟨hcr, hmr, ho, hfr, hfq⟩ := id hw
  have hzH := hz0.at hAB hS
  have hjH := hj0.at hAB hS
  have hK := sz_K fx.2 hz0
  have hu := hcr.2.1
  obtain ⟨x1, ex1⟩ : ∃ z : Int, z = (xs (i + 1).toNat).toInt := ⟨_, rfl⟩
  have bx1 := x32_b ex1
  obtain ⟨x2, ex2⟩ : ∃ z : Int, z = (xs (i + 2).toNat).toInt := ⟨_, rfl⟩
  have bx2 := x32_b ex2
  obtain ⟨x3, ex3⟩ : ∃ z : Int, z = (xs (i + 3).toNat).toInt := ⟨_, rfl⟩
  have bx3 := x32_b ex3
  by_cases hb3 : x3 = 0
  · by_cases hc1 : 0 ≤ x1 ∧ x1 < 6
    · by_cases hc2 : 0 ≤ x2 ∧ x2 < 6
      · by_cases href : dt x2.toNat < dt x1.toNat ∨ 40000 < dt x2.toNat - dt x1.toNat
        · refine lv_aload_n hx hb dL_law_1852 rfl (lv_at hl 3 rfl) ?_
          refine lv_aload_n hx hb dL_law_1853 rfl (lv_at hl 4 rfl) ?_
          refine lv_iload hx hb dL_law_1854 (lv_at hl 0 rfl) ?_
          refine q_con hx hb dL_law_1856 ?_
          refine q_add hx hb dL_law_1857 ?_
          refine r_xld hx hb hX hbl hbA hS (i := i + 1) (z := x1) (by omega) hL ex1 dL_law_1858 ?_
          refine lv_aload_n hx hb dL_law_1859 rfl (lv_at hl 4 rfl) ?_
          refine lv_iload hx hb dL_law_1860 (lv_at hl 0 rfl) ?_
          refine q_con hx hb dL_law_1862 ?_
          refine q_add hx hb dL_law_1863 ?_
          refine r_xld hx hb hX hbl hbA hS (i := i + 2) (z := x2) (by omega) hL ex2 dL_law_1864 ?_
          refine lv_aload_n hx hb dL_law_1865 rfl (lv_at hl 4 rfl) ?_
          refine lv_iload hx hb dL_law_1866 (lv_at hl 0 rfl) ?_
          refine q_con hx hb dL_law_1868 ?_
          refine q_add hx hb dL_law_1869 ?_
          refine r_xld hx hb hX hbl hbA hS (i := i + 3) (z := x3) (by omega) hL ex3 dL_law_1870 ?_
          refine q_ieq (tgt := 1878) hx hb dL_law_1871 (by decide) (by omega) (fun c1 => ?_) (fun c1 => ?_)
          · refine q_con hx hb dL_law_1878 ?_
            refine lv_aload_n hx hb dL_law_1879 rfl (lv_at hl 1 rfl) ?_
            refine c_SWr (As := [.ref (u 0), .int (iI x1), .int (iI x2), .int (iI 0), .ref o]) (rest := []) (r := .int (iI 0)) fx hl (wr_toNext_r θ l hl0 S0 _ u dt (fun j => sv j 0) (fun j => sv j 1) (fun j => sv j 2) bc rf kn hcr hjH hn o nv sv9 ho hLX.1 x1 x2 0 (by first | assumption | omega | (dsimp only; first | assumption | omega) | exact Hid.mk (by first | assumption | omega) | exact Hid.mk ⟨fun _ => by first | assumption | omega, fun _ => by first | assumption | omega⟩) (by first | assumption | omega | (dsimp only; first | assumption | omega) | exact Hid.mk (by first | assumption | omega) | exact Hid.mk ⟨fun _ => by first | assumption | omega, fun _ => by first | assumption | omega⟩) (by first | assumption | omega | (dsimp only; first | assumption | omega) | exact Hid.mk (by first | assumption | omega) | exact Hid.mk ⟨fun _ => by first | assumption | omega, fun _ => by first | assumption | omega⟩) (by first | assumption | omega | (dsimp only; first | assumption | omega) | exact Hid.mk (by first | assumption | omega) | exact Hid.mk ⟨fun _ => by first | assumption | omega, fun _ => by first | assumption | omega⟩) (by first | assumption | omega | (dsimp only; first | assumption | omega) | exact Hid.mk (by first | assumption | omega) | exact Hid.mk ⟨fun _ => by first | assumption | omega, fun _ => by first | assumption | omega⟩) (by first | assumption | omega | (dsimp only; first | assumption | omega) | exact Hid.mk (by first | assumption | omega) | exact Hid.mk ⟨fun _ => by first | assumption | omega, fun _ => by first | assumption | omega⟩) (by first | assumption | omega | (dsimp only; first | assumption | omega) | exact Hid.mk (by first | assumption | omega) | exact Hid.mk ⟨fun _ => by first | assumption | omega, fun _ => by first | assumption | omega⟩)) dL_law_1880 k994 k995 k0 k996 hd_L_toNext rfl ⟨by omega, by omega⟩ (Nat.le_of_ble_eq_true rfl) ⟨by (try dsimp only); omega, by (try dsimp only); omega⟩ hS (fun x h => h.elim (fun h => h.elim (fun ⟨j, hj, e⟩ => e ▸ hu.2 j hj) (fun h => Nat.le_trans hzH.2.1 h)) (fun e => e ▸ hoθ)) (fun H2 locs hpH2 hszH2 hkH2 hS => ?_)
            obtain ⟨hcw, ho1⟩ := hpH2
            have hzH1 := hz0.at hAB hS
            have hjH1 := hj0.at hAB hS
            have hm1 := lw_cls hLX hw hzH1 hkH2
            refine lv_istore (lv' := [(5, .int (iI 0)), (4, .int (iI i)), (3, .ref o), (2, .ref (w 0)), (1, .ref (u 0)), (0, .ref b)]) hx hb dL_law_1883 hl (by decide) rfl (fun ls hl => ?_)
            refine lv_aload_n hx hb dL_law_1885 rfl (lv_at hl 3 rfl) ?_
            refine lv_aload_n hx hb dL_law_1886 rfl (lv_at hl 5 rfl) ?_
            refine lv_iload hx hb dL_law_1887 (lv_at hl 1 rfl) ?_
            refine q_con hx hb dL_law_1889 ?_
            refine q_add hx hb dL_law_1890 ?_
            refine r_xld hx hb hX hbl hbA hS (i := i + 1) (z := x1) (by omega) hL ex1 dL_law_1891 ?_
            refine lv_aload_n hx hb dL_law_1892 rfl (lv_at hl 5 rfl) ?_
            refine lv_iload hx hb dL_law_1893 (lv_at hl 1 rfl) ?_
            refine q_con hx hb dL_law_1895 ?_
            refine q_add hx hb dL_law_1896 ?_
            refine r_xld hx hb hX hbl hbA hS (i := i + 2) (z := x2) (by omega) hL ex2 dL_law_1897 ?_
            refine lv_aload_n hx hb dL_law_1898 rfl (lv_at hl 5 rfl) ?_
            refine lv_iload hx hb dL_law_1899 (lv_at hl 1 rfl) ?_
            refine q_con hx hb dL_law_1901 ?_
            refine q_add hx hb dL_law_1902 ?_
            refine r_xld hx hb hX hbl hbA hS (i := i + 3) (z := x3) (by omega) hL ex3 dL_law_1903 ?_
            refine q_ieq (tgt := 1911) hx hb dL_law_1904 (by decide) (by omega) (fun c3 => ?_) (fun c3 => ?_)
            · refine q_con hx hb dL_law_1911 ?_
              refine c_Vr (As := [.int (iI x1), .int (iI x2), .int (iI 0)]) (rest := []) (b := w 0) (C := RX3) (r := some (.int (iI (-9)))) (st1 := [.int (iI (-9))]) fx hl (mok_toNext_r θ l S0 _ w r q dt sv th bc rf kn hm1 x1 x2 0 (by first | assumption | omega | (dsimp only; first | assumption | omega) | exact Hid.mk (by first | assumption | omega) | exact Hid.mk ⟨fun _ => by first | assumption | omega, fun _ => by first | assumption | omega⟩) (by first | assumption | omega | (dsimp only; first | assumption | omega) | exact Hid.mk (by first | assumption | omega) | exact Hid.mk ⟨fun _ => by first | assumption | omega, fun _ => by first | assumption | omega⟩) (by first | assumption | omega | (dsimp only; first | assumption | omega) | exact Hid.mk (by first | assumption | omega) | exact Hid.mk ⟨fun _ => by first | assumption | omega, fun _ => by first | assumption | omega⟩) (by first | assumption | omega | (dsimp only; first | assumption | omega) | exact Hid.mk (by first | assumption | omega) | exact Hid.mk ⟨fun _ => by first | assumption | omega, fun _ => by first | assumption | omega⟩) (by first | assumption | omega | (dsimp only; first | assumption | omega) | exact Hid.mk (by first | assumption | omega) | exact Hid.mk ⟨fun _ => by first | assumption | omega, fun _ => by first | assumption | omega⟩) (by first | assumption | omega | (dsimp only; first | assumption | omega) | exact Hid.mk (by first | assumption | omega) | exact Hid.mk ⟨fun _ => by first | assumption | omega, fun _ => by first | assumption | omega⟩) (by first | assumption | omega | (dsimp only; first | assumption | omega) | exact Hid.mk (by first | assumption | omega) | exact Hid.mk ⟨fun _ => by first | assumption | omega, fun _ => by first | assumption | omega⟩)) (ob_recv hK hm1.2.2.1.1 rfl) dL_law_1912 k1536 k1537 k1538 k6 k1539 hd_X3_toNext rfl rfl ⟨by omega, by omega⟩ (Nat.le_of_ble_eq_true rfl) ⟨by (try dsimp only); omega, by (try dsimp only); omega⟩ hS (wa_b hm1.2.1 hzH1.2.1) (fun H4 locs hpH4 hszH4 hkH4 hS => ?_)
              obtain ⟨r1, q1, hm2, nr, nq⟩ := hpH4
              have hzH2 := hz0.at hAB hS
              have hL2 := lw_mod hLX hzH2 hu hcw ho1 hfr hfq hm2 nr nq hkH4
              refine lv_istore (lv' := [(6, .int (iI (-9))), (5, .int (iI 0)), (4, .int (iI i)), (3, .ref o), (2, .ref (w 0)), (1, .ref (u 0)), (0, .ref b)]) hx hb dL_law_1915 hl (by decide) rfl (fun ls hl => ?_)
              refine lv_goto (tgt := 2331) hx hb dL_law_1917 (by decide) ?_
              exact kk _ _ _ _ _ ⟨_, _, _, _, _, _, _, _, _, _, hL2⟩ hS (by omega) (by omega) (lv_sub hl [2, 3, 4, 5, 6] rfl)
            · exact (show False by omega).elim
          · exact (show False by omega).elim
        · refine lv_aload_n hx hb dL_law_1852 rfl (lv_at hl 3 rfl) ?_
          refine lv_aload_n hx hb dL_law_1853 rfl (lv_at hl 4 rfl) ?_
          refine lv_iload hx hb dL_law_1854 (lv_at hl 0 rfl) ?_
          refine q_con hx hb dL_law_1856 ?_
          refine q_add hx hb dL_law_1857 ?_
          refine r_xld hx hb hX hbl hbA hS (i := i + 1) (z := x1) (by omega) hL ex1 dL_law_1858 ?_
          refine lv_aload_n hx hb dL_law_1859 rfl (lv_at hl 4 rfl) ?_
          refine lv_iload hx hb dL_law_1860 (lv_at hl 0 rfl) ?_
          refine q_con hx hb dL_law_1862 ?_
          refine q_add hx hb dL_law_1863 ?_
          refine r_xld hx hb hX hbl hbA hS (i := i + 2) (z := x2) (by omega) hL ex2 dL_law_1864 ?_
          refine lv_aload_n hx hb dL_law_1865 rfl (lv_at hl 4 rfl) ?_
          refine lv_iload hx hb dL_law_1866 (lv_at hl 0 rfl) ?_
          refine q_con hx hb dL_law_1868 ?_
          refine q_add hx hb dL_law_1869 ?_
          refine r_xld hx hb hX hbl hbA hS (i := i + 3) (z := x3) (by omega) hL ex3 dL_law_1870 ?_
          refine q_ieq (tgt := 1878) hx hb dL_law_1871 (by decide) (by omega) (fun c5 => ?_) (fun c5 => ?_)
          · refine q_con hx hb dL_law_1878 ?_
            refine lv_aload_n hx hb dL_law_1879 rfl (lv_at hl 1 rfl) ?_
            refine c_SWr (As := [.ref (u 0), .int (iI x1), .int (iI x2), .int (iI 0), .ref o]) (rest := []) (r := .int (iI 0)) fx hl (wr_toNext θ l hl0 S0 _ u dt (fun j => sv j 0) (fun j => sv j 1) (fun j => sv j 2) bc rf kn hcr hjH hn o nv sv9 ho hLX.1 x1 x2 0 (by first | assumption | omega | (dsimp only; first | assumption | omega) | exact Hid.mk (by first | assumption | omega) | exact Hid.mk ⟨fun _ => by first | assumption | omega, fun _ => by first | assumption | omega⟩) (by first | assumption | omega | (dsimp only; first | assumption | omega) | exact Hid.mk (by first | assumption | omega) | exact Hid.mk ⟨fun _ => by first | assumption | omega, fun _ => by first | assumption | omega⟩) (by first | assumption | omega | (dsimp only; first | assumption | omega) | exact Hid.mk (by first | assumption | omega) | exact Hid.mk ⟨fun _ => by first | assumption | omega, fun _ => by first | assumption | omega⟩) (by first | assumption | omega | (dsimp only; first | assumption | omega) | exact Hid.mk (by first | assumption | omega) | exact Hid.mk ⟨fun _ => by first | assumption | omega, fun _ => by first | assumption | omega⟩) (by first | assumption | omega | (dsimp only; first | assumption | omega) | exact Hid.mk (by first | assumption | omega) | exact Hid.mk ⟨fun _ => by first | assumption | omega, fun _ => by first | assumption | omega⟩) (by first | assumption | omega | (dsimp only; first | assumption | omega) | exact Hid.mk (by first | assumption | omega) | exact Hid.mk ⟨fun _ => by first | assumption | omega, fun _ => by first | assumption | omega⟩) (by first | assumption | omega | (dsimp only; first | assumption | omega) | exact Hid.mk (by first | assumption | omega) | exact Hid.mk ⟨fun _ => by first | assumption | omega, fun _ => by first | assumption | omega⟩)) dL_law_1880 k994 k995 k0 k996 hd_L_toNext rfl ⟨by omega, by omega⟩ (Nat.le_of_ble_eq_true rfl) ⟨by (try dsimp only); omega, by (try dsimp only); omega⟩ hS (fun x h => h.elim (fun h => h.elim (fun ⟨j, hj, e⟩ => e ▸ hu.2 j hj) (fun h => Nat.le_trans hzH.2.1 h)) (fun e => e ▸ hoθ)) (fun H6 locs hpH6 hszH6 hkH6 hS => ?_)
            obtain ⟨hcw, ho1⟩ := hpH6
            have hzH1 := hz0.at hAB hS
            have hjH1 := hj0.at hAB hS
            have hm1 := lw_cls hLX hw hzH1 hkH6
            refine lv_istore (lv' := [(5, .int (iI 0)), (4, .int (iI i)), (3, .ref o), (2, .ref (w 0)), (1, .ref (u 0)), (0, .ref b)]) hx hb dL_law_1883 hl (by decide) rfl (fun ls hl => ?_)
            refine lv_aload_n hx hb dL_law_1885 rfl (lv_at hl 3 rfl) ?_
            refine lv_aload_n hx hb dL_law_1886 rfl (lv_at hl 5 rfl) ?_
            refine lv_iload hx hb dL_law_1887 (lv_at hl 1 rfl) ?_
            refine q_con hx hb dL_law_1889 ?_
            refine q_add hx hb dL_law_1890 ?_
            refine r_xld hx hb hX hbl hbA hS (i := i + 1) (z := x1) (by omega) hL ex1 dL_law_1891 ?_
            refine lv_aload_n hx hb dL_law_1892 rfl (lv_at hl 5 rfl) ?_
            refine lv_iload hx hb dL_law_1893 (lv_at hl 1 rfl) ?_
            refine q_con hx hb dL_law_1895 ?_
            refine q_add hx hb dL_law_1896 ?_
            refine r_xld hx hb hX hbl hbA hS (i := i + 2) (z := x2) (by omega) hL ex2 dL_law_1897 ?_
            refine lv_aload_n hx hb dL_law_1898 rfl (lv_at hl 5 rfl) ?_
            refine lv_iload hx hb dL_law_1899 (lv_at hl 1 rfl) ?_
            refine q_con hx hb dL_law_1901 ?_
            refine q_add hx hb dL_law_1902 ?_
            refine r_xld hx hb hX hbl hbA hS (i := i + 3) (z := x3) (by omega) hL ex3 dL_law_1903 ?_
            refine q_ieq (tgt := 1911) hx hb dL_law_1904 (by decide) (by omega) (fun c7 => ?_) (fun c7 => ?_)
            · refine q_con hx hb dL_law_1911 ?_
              refine c_Vr (As := [.int (iI x1), .int (iI x2), .int (iI 0)]) (rest := []) (b := w 0) (C := RX3) (r := some (.int (iI (anI (dt x1.toNat) (unI (dt x1.toNat) (dt x2.toNat) 0 + 1) 0 - dt x2.toNat)))) (st1 := [.int (iI (anI (dt x1.toNat) (unI (dt x1.toNat) (dt x2.toNat) 0 + 1) 0 - dt x2.toNat))]) fx hl (mok_toNext θ l S0 _ w r q dt sv th bc rf kn hm1 x1 x2 0 (by first | assumption | omega | (dsimp only; first | assumption | omega) | exact Hid.mk (by first | assumption | omega) | exact Hid.mk ⟨fun _ => by first | assumption | omega, fun _ => by first | assumption | omega⟩) (by first | assumption | omega | (dsimp only; first | assumption | omega) | exact Hid.mk (by first | assumption | omega) | exact Hid.mk ⟨fun _ => by first | assumption | omega, fun _ => by first | assumption | omega⟩) (by first | assumption | omega | (dsimp only; first | assumption | omega) | exact Hid.mk (by first | assumption | omega) | exact Hid.mk ⟨fun _ => by first | assumption | omega, fun _ => by first | assumption | omega⟩) (by first | assumption | omega | (dsimp only; first | assumption | omega) | exact Hid.mk (by first | assumption | omega) | exact Hid.mk ⟨fun _ => by first | assumption | omega, fun _ => by first | assumption | omega⟩) (by first | assumption | omega | (dsimp only; first | assumption | omega) | exact Hid.mk (by first | assumption | omega) | exact Hid.mk ⟨fun _ => by first | assumption | omega, fun _ => by first | assumption | omega⟩) (by first | assumption | omega | (dsimp only; first | assumption | omega) | exact Hid.mk (by first | assumption | omega) | exact Hid.mk ⟨fun _ => by first | assumption | omega, fun _ => by first | assumption | omega⟩) (by first | assumption | omega | (dsimp only; first | assumption | omega) | exact Hid.mk (by first | assumption | omega) | exact Hid.mk ⟨fun _ => by first | assumption | omega, fun _ => by first | assumption | omega⟩)) (ob_recv hK hm1.2.2.1.1 rfl) dL_law_1912 k1536 k1537 k1538 k6 k1539 hd_X3_toNext rfl rfl ⟨by omega, by omega⟩ (Nat.le_of_ble_eq_true rfl) ⟨by (try dsimp only); omega, by (try dsimp only); omega⟩ hS (wa_b hm1.2.1 hzH1.2.1) (fun H8 locs hpH8 hszH8 hkH8 hS => ?_)
              obtain ⟨r1, q1, hm2, nr, nq⟩ := hpH8
              have hzH2 := hz0.at hAB hS
              have hL2 := lw_mod hLX hzH2 hu hcw ho1 hfr hfq hm2 nr nq hkH8
              refine q_nm (fun z9 ez9 => ?_)
              refine lv_istore (lv' := [(6, .int (iI z9)), (5, .int (iI 0)), (4, .int (iI i)), (3, .ref o), (2, .ref (w 0)), (1, .ref (u 0)), (0, .ref b)]) hx hb dL_law_1915 hl (by decide) rfl (fun ls hl => ?_)
              refine lv_goto (tgt := 2331) hx hb dL_law_1917 (by decide) ?_
              exact kk _ _ _ _ _ ⟨_, _, _, _, _, _, _, _, _, _, hL2⟩ hS (by omega) (by omega) (lv_sub hl [2, 3, 4, 5, 6] rfl)
            · exact (show False by omega).elim
          · exact (show False by omega).elim
      · refine lv_aload_n hx hb dL_law_1852 rfl (lv_at hl 3 rfl) ?_
        refine lv_aload_n hx hb dL_law_1853 rfl (lv_at hl 4 rfl) ?_
        refine lv_iload hx hb dL_law_1854 (lv_at hl 0 rfl) ?_
        refine q_con hx hb dL_law_1856 ?_
        refine q_add hx hb dL_law_1857 ?_
        refine r_xld hx hb hX hbl hbA hS (i := i + 1) (z := x1) (by omega) hL ex1 dL_law_1858 ?_
        refine lv_aload_n hx hb dL_law_1859 rfl (lv_at hl 4 rfl) ?_
        refine lv_iload hx hb dL_law_1860 (lv_at hl 0 rfl) ?_
        refine q_con hx hb dL_law_1862 ?_
        refine q_add hx hb dL_law_1863 ?_
        refine r_xld hx hb hX hbl hbA hS (i := i + 2) (z := x2) (by omega) hL ex2 dL_law_1864 ?_
        refine lv_aload_n hx hb dL_law_1865 rfl (lv_at hl 4 rfl) ?_
        refine lv_iload hx hb dL_law_1866 (lv_at hl 0 rfl) ?_
        refine q_con hx hb dL_law_1868 ?_
        refine q_add hx hb dL_law_1869 ?_
        refine r_xld hx hb hX hbl hbA hS (i := i + 3) (z := x3) (by omega) hL ex3 dL_law_1870 ?_
        refine q_ieq (tgt := 1878) hx hb dL_law_1871 (by decide) (by omega) (fun c10 => ?_) (fun c10 => ?_)
        · refine q_con hx hb dL_law_1878 ?_
          refine lv_aload_n hx hb dL_law_1879 rfl (lv_at hl 1 rfl) ?_
          refine c_SWr (As := [.ref (u 0), .int (iI x1), .int (iI x2), .int (iI 0), .ref o]) (rest := []) (r := .int (iI 1)) fx hl (wn2_toNext θ l hl0 S0 _ u dt (fun j => sv j 0) (fun j => sv j 1) (fun j => sv j 2) bc rf kn hcr hjH hn o nv sv9 ho hLX.1 x1 x2 0 (by first | assumption | omega | (dsimp only; first | assumption | omega) | exact Hid.mk (by first | assumption | omega) | exact Hid.mk ⟨fun _ => by first | assumption | omega, fun _ => by first | assumption | omega⟩) (by first | assumption | omega | (dsimp only; first | assumption | omega) | exact Hid.mk (by first | assumption | omega) | exact Hid.mk ⟨fun _ => by first | assumption | omega, fun _ => by first | assumption | omega⟩) (by first | assumption | omega | (dsimp only; first | assumption | omega) | exact Hid.mk (by first | assumption | omega) | exact Hid.mk ⟨fun _ => by first | assumption | omega, fun _ => by first | assumption | omega⟩) (by first | assumption | omega | (dsimp only; first | assumption | omega) | exact Hid.mk (by first | assumption | omega) | exact Hid.mk ⟨fun _ => by first | assumption | omega, fun _ => by first | assumption | omega⟩) (by first | assumption | omega | (dsimp only; first | assumption | omega) | exact Hid.mk (by first | assumption | omega) | exact Hid.mk ⟨fun _ => by first | assumption | omega, fun _ => by first | assumption | omega⟩) (by first | assumption | omega | (dsimp only; first | assumption | omega) | exact Hid.mk (by first | assumption | omega) | exact Hid.mk ⟨fun _ => by first | assumption | omega, fun _ => by first | assumption | omega⟩)) dL_law_1880 k994 k995 k0 k996 hd_L_toNext rfl ⟨by omega, by omega⟩ (Nat.le_of_ble_eq_true rfl) ⟨by (try dsimp only); omega, by (try dsimp only); omega⟩ hS (fun x h => h.elim (fun h => h.elim (fun ⟨j, hj, e⟩ => e ▸ hu.2 j hj) (fun h => Nat.le_trans hzH.2.1 h)) (fun e => e ▸ hoθ)) (fun H11 locs hpH11 hszH11 hkH11 hS => ?_)
          obtain ⟨hcw, ho1⟩ := hpH11
          have hzH1 := hz0.at hAB hS
          have hjH1 := hj0.at hAB hS
          have hm1 := lw_cls hLX hw hzH1 hkH11
          refine lv_istore (lv' := [(5, .int (iI 1)), (4, .int (iI i)), (3, .ref o), (2, .ref (w 0)), (1, .ref (u 0)), (0, .ref b)]) hx hb dL_law_1883 hl (by decide) rfl (fun ls hl => ?_)
          refine lv_aload_n hx hb dL_law_1885 rfl (lv_at hl 3 rfl) ?_
          refine lv_aload_n hx hb dL_law_1886 rfl (lv_at hl 5 rfl) ?_
          refine lv_iload hx hb dL_law_1887 (lv_at hl 1 rfl) ?_
          refine q_con hx hb dL_law_1889 ?_
          refine q_add hx hb dL_law_1890 ?_
          refine r_xld hx hb hX hbl hbA hS (i := i + 1) (z := x1) (by omega) hL ex1 dL_law_1891 ?_
          refine lv_aload_n hx hb dL_law_1892 rfl (lv_at hl 5 rfl) ?_
          refine lv_iload hx hb dL_law_1893 (lv_at hl 1 rfl) ?_
          refine q_con hx hb dL_law_1895 ?_
          refine q_add hx hb dL_law_1896 ?_
          refine r_xld hx hb hX hbl hbA hS (i := i + 2) (z := x2) (by omega) hL ex2 dL_law_1897 ?_
          refine lv_aload_n hx hb dL_law_1898 rfl (lv_at hl 5 rfl) ?_
          refine lv_iload hx hb dL_law_1899 (lv_at hl 1 rfl) ?_
          refine q_con hx hb dL_law_1901 ?_
          refine q_add hx hb dL_law_1902 ?_
          refine r_xld hx hb hX hbl hbA hS (i := i + 3) (z := x3) (by omega) hL ex3 dL_law_1903 ?_
          refine q_ieq (tgt := 1911) hx hb dL_law_1904 (by decide) (by omega) (fun c12 => ?_) (fun c12 => ?_)
          · refine q_con hx hb dL_law_1911 ?_
            refine c_Vr (As := [.int (iI x1), .int (iI x2), .int (iI 0)]) (rest := []) (b := w 0) (C := RX3) (r := some (.int (iI 0))) (st1 := [.int (iI 0)]) fx hl (mno2_toNext θ l S0 _ w r q dt sv th bc rf kn hm1 x1 x2 0 (by first | assumption | omega | (dsimp only; first | assumption | omega) | exact Hid.mk (by first | assumption | omega) | exact Hid.mk ⟨fun _ => by first | assumption | omega, fun _ => by first | assumption | omega⟩) (by first | assumption | omega | (dsimp only; first | assumption | omega) | exact Hid.mk (by first | assumption | omega) | exact Hid.mk ⟨fun _ => by first | assumption | omega, fun _ => by first | assumption | omega⟩) (by first | assumption | omega | (dsimp only; first | assumption | omega) | exact Hid.mk (by first | assumption | omega) | exact Hid.mk ⟨fun _ => by first | assumption | omega, fun _ => by first | assumption | omega⟩) (by first | assumption | omega | (dsimp only; first | assumption | omega) | exact Hid.mk (by first | assumption | omega) | exact Hid.mk ⟨fun _ => by first | assumption | omega, fun _ => by first | assumption | omega⟩) (by first | assumption | omega | (dsimp only; first | assumption | omega) | exact Hid.mk (by first | assumption | omega) | exact Hid.mk ⟨fun _ => by first | assumption | omega, fun _ => by first | assumption | omega⟩) (by first | assumption | omega | (dsimp only; first | assumption | omega) | exact Hid.mk (by first | assumption | omega) | exact Hid.mk ⟨fun _ => by first | assumption | omega, fun _ => by first | assumption | omega⟩)) (ob_recv hK hm1.2.2.1.1 rfl) dL_law_1912 k1536 k1537 k1538 k6 k1539 hd_X3_toNext rfl rfl ⟨by omega, by omega⟩ (Nat.le_of_ble_eq_true rfl) ⟨by (try dsimp only); omega, by (try dsimp only); omega⟩ hS (wa_b hm1.2.1 hzH1.2.1) (fun H13 locs hpH13 hszH13 hkH13 hS => ?_)
            obtain ⟨r1, q1, hm2, nr, nq⟩ := hpH13
            have hzH2 := hz0.at hAB hS
            have hL2 := lw_mod hLX hzH2 hu hcw ho1 hfr hfq hm2 nr nq hkH13
            refine lv_istore (lv' := [(6, .int (iI 0)), (5, .int (iI 1)), (4, .int (iI i)), (3, .ref o), (2, .ref (w 0)), (1, .ref (u 0)), (0, .ref b)]) hx hb dL_law_1915 hl (by decide) rfl (fun ls hl => ?_)
            refine lv_goto (tgt := 2331) hx hb dL_law_1917 (by decide) ?_
            exact kk _ _ _ _ _ ⟨_, _, _, _, _, _, _, _, _, _, hL2⟩ hS (by omega) (by omega) (lv_sub hl [2, 3, 4, 5, 6] rfl)
          · exact (show False by omega).elim
        · exact (show False by omega).elim
    · refine lv_aload_n hx hb dL_law_1852 rfl (lv_at hl 3 rfl) ?_
      refine lv_aload_n hx hb dL_law_1853 rfl (lv_at hl 4 rfl) ?_
      refine lv_iload hx hb dL_law_1854 (lv_at hl 0 rfl) ?_
      refine q_con hx hb dL_law_1856 ?_
      refine q_add hx hb dL_law_1857 ?_
      refine r_xld hx hb hX hbl hbA hS (i := i + 1) (z := x1) (by omega) hL ex1 dL_law_1858 ?_
      refine lv_aload_n hx hb dL_law_1859 rfl (lv_at hl 4 rfl) ?_
      refine lv_iload hx hb dL_law_1860 (lv_at hl 0 rfl) ?_
      refine q_con hx hb dL_law_1862 ?_
      refine q_add hx hb dL_law_1863 ?_
      refine r_xld hx hb hX hbl hbA hS (i := i + 2) (z := x2) (by omega) hL ex2 dL_law_1864 ?_
      refine lv_aload_n hx hb dL_law_1865 rfl (lv_at hl 4 rfl) ?_
      refine lv_iload hx hb dL_law_1866 (lv_at hl 0 rfl) ?_
      refine q_con hx hb dL_law_1868 ?_
      refine q_add hx hb dL_law_1869 ?_
      refine r_xld hx hb hX hbl hbA hS (i := i + 3) (z := x3) (by omega) hL ex3 dL_law_1870 ?_
      refine q_ieq (tgt := 1878) hx hb dL_law_1871 (by decide) (by omega) (fun c14 => ?_) (fun c14 => ?_)
      · refine q_con hx hb dL_law_1878 ?_
        refine lv_aload_n hx hb dL_law_1879 rfl (lv_at hl 1 rfl) ?_
        refine c_SWr (As := [.ref (u 0), .int (iI x1), .int (iI x2), .int (iI 0), .ref o]) (rest := []) (r := .int (iI 1)) fx hl (wn1_toNext θ l hl0 S0 _ u dt (fun j => sv j 0) (fun j => sv j 1) (fun j => sv j 2) bc rf kn hcr hjH hn o nv sv9 ho hLX.1 x1 x2 0 (by first | assumption | omega | (dsimp only; first | assumption | omega) | exact Hid.mk (by first | assumption | omega) | exact Hid.mk ⟨fun _ => by first | assumption | omega, fun _ => by first | assumption | omega⟩) (by first | assumption | omega | (dsimp only; first | assumption | omega) | exact Hid.mk (by first | assumption | omega) | exact Hid.mk ⟨fun _ => by first | assumption | omega, fun _ => by first | assumption | omega⟩) (by first | assumption | omega | (dsimp only; first | assumption | omega) | exact Hid.mk (by first | assumption | omega) | exact Hid.mk ⟨fun _ => by first | assumption | omega, fun _ => by first | assumption | omega⟩) (by first | assumption | omega | (dsimp only; first | assumption | omega) | exact Hid.mk (by first | assumption | omega) | exact Hid.mk ⟨fun _ => by first | assumption | omega, fun _ => by first | assumption | omega⟩) (by first | assumption | omega | (dsimp only; first | assumption | omega) | exact Hid.mk (by first | assumption | omega) | exact Hid.mk ⟨fun _ => by first | assumption | omega, fun _ => by first | assumption | omega⟩)) dL_law_1880 k994 k995 k0 k996 hd_L_toNext rfl ⟨by omega, by omega⟩ (Nat.le_of_ble_eq_true rfl) ⟨by (try dsimp only); omega, by (try dsimp only); omega⟩ hS (fun x h => h.elim (fun h => h.elim (fun ⟨j, hj, e⟩ => e ▸ hu.2 j hj) (fun h => Nat.le_trans hzH.2.1 h)) (fun e => e ▸ hoθ)) (fun H15 locs hpH15 hszH15 hkH15 hS => ?_)
        obtain ⟨hcw, ho1⟩ := hpH15
        have hzH1 := hz0.at hAB hS
        have hjH1 := hj0.at hAB hS
        have hm1 := lw_cls hLX hw hzH1 hkH15
        refine lv_istore (lv' := [(5, .int (iI 1)), (4, .int (iI i)), (3, .ref o), (2, .ref (w 0)), (1, .ref (u 0)), (0, .ref b)]) hx hb dL_law_1883 hl (by decide) rfl (fun ls hl => ?_)
        refine lv_aload_n hx hb dL_law_1885 rfl (lv_at hl 3 rfl) ?_
        refine lv_aload_n hx hb dL_law_1886 rfl (lv_at hl 5 rfl) ?_
        refine lv_iload hx hb dL_law_1887 (lv_at hl 1 rfl) ?_
        refine q_con hx hb dL_law_1889 ?_
        refine q_add hx hb dL_law_1890 ?_
        refine r_xld hx hb hX hbl hbA hS (i := i + 1) (z := x1) (by omega) hL ex1 dL_law_1891 ?_
        refine lv_aload_n hx hb dL_law_1892 rfl (lv_at hl 5 rfl) ?_
        refine lv_iload hx hb dL_law_1893 (lv_at hl 1 rfl) ?_
        refine q_con hx hb dL_law_1895 ?_
        refine q_add hx hb dL_law_1896 ?_
        refine r_xld hx hb hX hbl hbA hS (i := i + 2) (z := x2) (by omega) hL ex2 dL_law_1897 ?_
        refine lv_aload_n hx hb dL_law_1898 rfl (lv_at hl 5 rfl) ?_
        refine lv_iload hx hb dL_law_1899 (lv_at hl 1 rfl) ?_
        refine q_con hx hb dL_law_1901 ?_
        refine q_add hx hb dL_law_1902 ?_
        refine r_xld hx hb hX hbl hbA hS (i := i + 3) (z := x3) (by omega) hL ex3 dL_law_1903 ?_
        refine q_ieq (tgt := 1911) hx hb dL_law_1904 (by decide) (by omega) (fun c16 => ?_) (fun c16 => ?_)
        · refine q_con hx hb dL_law_1911 ?_
          refine c_Vr (As := [.int (iI x1), .int (iI x2), .int (iI 0)]) (rest := []) (b := w 0) (C := RX3) (r := some (.int (iI 0))) (st1 := [.int (iI 0)]) fx hl (mno1_toNext θ l S0 _ w r q dt sv th bc rf kn hm1 x1 x2 0 (by first | assumption | omega | (dsimp only; first | assumption | omega) | exact Hid.mk (by first | assumption | omega) | exact Hid.mk ⟨fun _ => by first | assumption | omega, fun _ => by first | assumption | omega⟩) (by first | assumption | omega | (dsimp only; first | assumption | omega) | exact Hid.mk (by first | assumption | omega) | exact Hid.mk ⟨fun _ => by first | assumption | omega, fun _ => by first | assumption | omega⟩) (by first | assumption | omega | (dsimp only; first | assumption | omega) | exact Hid.mk (by first | assumption | omega) | exact Hid.mk ⟨fun _ => by first | assumption | omega, fun _ => by first | assumption | omega⟩) (by first | assumption | omega | (dsimp only; first | assumption | omega) | exact Hid.mk (by first | assumption | omega) | exact Hid.mk ⟨fun _ => by first | assumption | omega, fun _ => by first | assumption | omega⟩) (by first | assumption | omega | (dsimp only; first | assumption | omega) | exact Hid.mk (by first | assumption | omega) | exact Hid.mk ⟨fun _ => by first | assumption | omega, fun _ => by first | assumption | omega⟩)) (ob_recv hK hm1.2.2.1.1 rfl) dL_law_1912 k1536 k1537 k1538 k6 k1539 hd_X3_toNext rfl rfl ⟨by omega, by omega⟩ (Nat.le_of_ble_eq_true rfl) ⟨by (try dsimp only); omega, by (try dsimp only); omega⟩ hS (wa_b hm1.2.1 hzH1.2.1) (fun H17 locs hpH17 hszH17 hkH17 hS => ?_)
          obtain ⟨r1, q1, hm2, nr, nq⟩ := hpH17
          have hzH2 := hz0.at hAB hS
          have hL2 := lw_mod hLX hzH2 hu hcw ho1 hfr hfq hm2 nr nq hkH17
          refine lv_istore (lv' := [(6, .int (iI 0)), (5, .int (iI 1)), (4, .int (iI i)), (3, .ref o), (2, .ref (w 0)), (1, .ref (u 0)), (0, .ref b)]) hx hb dL_law_1915 hl (by decide) rfl (fun ls hl => ?_)
          refine lv_goto (tgt := 2331) hx hb dL_law_1917 (by decide) ?_
          exact kk _ _ _ _ _ ⟨_, _, _, _, _, _, _, _, _, _, hL2⟩ hS (by omega) (by omega) (lv_sub hl [2, 3, 4, 5, 6] rfl)
        · exact (show False by omega).elim
      · exact (show False by omega).elim
  · by_cases hc1 : 0 ≤ x1 ∧ x1 < 6
    · by_cases hc2 : 0 ≤ x2 ∧ x2 < 6
      · by_cases href : dt x2.toNat < dt x1.toNat ∨ 40000 < dt x2.toNat - dt x1.toNat
        · refine lv_aload_n hx hb dL_law_1852 rfl (lv_at hl 3 rfl) ?_
          refine lv_aload_n hx hb dL_law_1853 rfl (lv_at hl 4 rfl) ?_
          refine lv_iload hx hb dL_law_1854 (lv_at hl 0 rfl) ?_
          refine q_con hx hb dL_law_1856 ?_
          refine q_add hx hb dL_law_1857 ?_
          refine r_xld hx hb hX hbl hbA hS (i := i + 1) (z := x1) (by omega) hL ex1 dL_law_1858 ?_
          refine lv_aload_n hx hb dL_law_1859 rfl (lv_at hl 4 rfl) ?_
          refine lv_iload hx hb dL_law_1860 (lv_at hl 0 rfl) ?_
          refine q_con hx hb dL_law_1862 ?_
          refine q_add hx hb dL_law_1863 ?_
          refine r_xld hx hb hX hbl hbA hS (i := i + 2) (z := x2) (by omega) hL ex2 dL_law_1864 ?_
          refine lv_aload_n hx hb dL_law_1865 rfl (lv_at hl 4 rfl) ?_
          refine lv_iload hx hb dL_law_1866 (lv_at hl 0 rfl) ?_
          refine q_con hx hb dL_law_1868 ?_
          refine q_add hx hb dL_law_1869 ?_
          refine r_xld hx hb hX hbl hbA hS (i := i + 3) (z := x3) (by omega) hL ex3 dL_law_1870 ?_
          refine q_ieq (tgt := 1878) hx hb dL_law_1871 (by decide) (by omega) (fun c18 => ?_) (fun c18 => ?_)
          · exact (show False by omega).elim
          · refine q_con hx hb dL_law_1874 ?_
            refine lv_goto (tgt := 1879) hx hb dL_law_1875 (by decide) ?_
            refine lv_aload_n hx hb dL_law_1879 rfl (lv_at hl 1 rfl) ?_
            refine c_SWr (As := [.ref (u 0), .int (iI x1), .int (iI x2), .int (iI 1), .ref o]) (rest := []) (r := .int (iI 0)) fx hl (wr_toNext_r θ l hl0 S0 _ u dt (fun j => sv j 0) (fun j => sv j 1) (fun j => sv j 2) bc rf kn hcr hjH hn o nv sv9 ho hLX.1 x1 x2 1 (by first | assumption | omega | (dsimp only; first | assumption | omega) | exact Hid.mk (by first | assumption | omega) | exact Hid.mk ⟨fun _ => by first | assumption | omega, fun _ => by first | assumption | omega⟩) (by first | assumption | omega | (dsimp only; first | assumption | omega) | exact Hid.mk (by first | assumption | omega) | exact Hid.mk ⟨fun _ => by first | assumption | omega, fun _ => by first | assumption | omega⟩) (by first | assumption | omega | (dsimp only; first | assumption | omega) | exact Hid.mk (by first | assumption | omega) | exact Hid.mk ⟨fun _ => by first | assumption | omega, fun _ => by first | assumption | omega⟩) (by first | assumption | omega | (dsimp only; first | assumption | omega) | exact Hid.mk (by first | assumption | omega) | exact Hid.mk ⟨fun _ => by first | assumption | omega, fun _ => by first | assumption | omega⟩) (by first | assumption | omega | (dsimp only; first | assumption | omega) | exact Hid.mk (by first | assumption | omega) | exact Hid.mk ⟨fun _ => by first | assumption | omega, fun _ => by first | assumption | omega⟩) (by first | assumption | omega | (dsimp only; first | assumption | omega) | exact Hid.mk (by first | assumption | omega) | exact Hid.mk ⟨fun _ => by first | assumption | omega, fun _ => by first | assumption | omega⟩) (by first | assumption | omega | (dsimp only; first | assumption | omega) | exact Hid.mk (by first | assumption | omega) | exact Hid.mk ⟨fun _ => by first | assumption | omega, fun _ => by first | assumption | omega⟩)) dL_law_1880 k994 k995 k0 k996 hd_L_toNext rfl ⟨by omega, by omega⟩ (Nat.le_of_ble_eq_true rfl) ⟨by (try dsimp only); omega, by (try dsimp only); omega⟩ hS (fun x h => h.elim (fun h => h.elim (fun ⟨j, hj, e⟩ => e ▸ hu.2 j hj) (fun h => Nat.le_trans hzH.2.1 h)) (fun e => e ▸ hoθ)) (fun H19 locs hpH19 hszH19 hkH19 hS => ?_)
            obtain ⟨hcw, ho1⟩ := hpH19
            have hzH1 := hz0.at hAB hS
            have hjH1 := hj0.at hAB hS
            have hm1 := lw_cls hLX hw hzH1 hkH19
            refine lv_istore (lv' := [(5, .int (iI 0)), (4, .int (iI i)), (3, .ref o), (2, .ref (w 0)), (1, .ref (u 0)), (0, .ref b)]) hx hb dL_law_1883 hl (by decide) rfl (fun ls hl => ?_)
            refine lv_aload_n hx hb dL_law_1885 rfl (lv_at hl 3 rfl) ?_
            refine lv_aload_n hx hb dL_law_1886 rfl (lv_at hl 5 rfl) ?_
            refine lv_iload hx hb dL_law_1887 (lv_at hl 1 rfl) ?_
            refine q_con hx hb dL_law_1889 ?_
            refine q_add hx hb dL_law_1890 ?_
            refine r_xld hx hb hX hbl hbA hS (i := i + 1) (z := x1) (by omega) hL ex1 dL_law_1891 ?_
            refine lv_aload_n hx hb dL_law_1892 rfl (lv_at hl 5 rfl) ?_
            refine lv_iload hx hb dL_law_1893 (lv_at hl 1 rfl) ?_
            refine q_con hx hb dL_law_1895 ?_
            refine q_add hx hb dL_law_1896 ?_
            refine r_xld hx hb hX hbl hbA hS (i := i + 2) (z := x2) (by omega) hL ex2 dL_law_1897 ?_
            refine lv_aload_n hx hb dL_law_1898 rfl (lv_at hl 5 rfl) ?_
            refine lv_iload hx hb dL_law_1899 (lv_at hl 1 rfl) ?_
            refine q_con hx hb dL_law_1901 ?_
            refine q_add hx hb dL_law_1902 ?_
            refine r_xld hx hb hX hbl hbA hS (i := i + 3) (z := x3) (by omega) hL ex3 dL_law_1903 ?_
            refine q_ieq (tgt := 1911) hx hb dL_law_1904 (by decide) (by omega) (fun c20 => ?_) (fun c20 => ?_)
            · exact (show False by omega).elim
            · refine q_con hx hb dL_law_1907 ?_
              refine lv_goto (tgt := 1912) hx hb dL_law_1908 (by decide) ?_
              refine c_Vr (As := [.int (iI x1), .int (iI x2), .int (iI 1)]) (rest := []) (b := w 0) (C := RX3) (r := some (.int (iI (-9)))) (st1 := [.int (iI (-9))]) fx hl (mok_toNext_r θ l S0 _ w r q dt sv th bc rf kn hm1 x1 x2 1 (by first | assumption | omega | (dsimp only; first | assumption | omega) | exact Hid.mk (by first | assumption | omega) | exact Hid.mk ⟨fun _ => by first | assumption | omega, fun _ => by first | assumption | omega⟩) (by first | assumption | omega | (dsimp only; first | assumption | omega) | exact Hid.mk (by first | assumption | omega) | exact Hid.mk ⟨fun _ => by first | assumption | omega, fun _ => by first | assumption | omega⟩) (by first | assumption | omega | (dsimp only; first | assumption | omega) | exact Hid.mk (by first | assumption | omega) | exact Hid.mk ⟨fun _ => by first | assumption | omega, fun _ => by first | assumption | omega⟩) (by first | assumption | omega | (dsimp only; first | assumption | omega) | exact Hid.mk (by first | assumption | omega) | exact Hid.mk ⟨fun _ => by first | assumption | omega, fun _ => by first | assumption | omega⟩) (by first | assumption | omega | (dsimp only; first | assumption | omega) | exact Hid.mk (by first | assumption | omega) | exact Hid.mk ⟨fun _ => by first | assumption | omega, fun _ => by first | assumption | omega⟩) (by first | assumption | omega | (dsimp only; first | assumption | omega) | exact Hid.mk (by first | assumption | omega) | exact Hid.mk ⟨fun _ => by first | assumption | omega, fun _ => by first | assumption | omega⟩) (by first | assumption | omega | (dsimp only; first | assumption | omega) | exact Hid.mk (by first | assumption | omega) | exact Hid.mk ⟨fun _ => by first | assumption | omega, fun _ => by first | assumption | omega⟩)) (ob_recv hK hm1.2.2.1.1 rfl) dL_law_1912 k1536 k1537 k1538 k6 k1539 hd_X3_toNext rfl rfl ⟨by omega, by omega⟩ (Nat.le_of_ble_eq_true rfl) ⟨by (try dsimp only); omega, by (try dsimp only); omega⟩ hS (wa_b hm1.2.1 hzH1.2.1) (fun H21 locs hpH21 hszH21 hkH21 hS => ?_)
              obtain ⟨r1, q1, hm2, nr, nq⟩ := hpH21
              have hzH2 := hz0.at hAB hS
              have hL2 := lw_mod hLX hzH2 hu hcw ho1 hfr hfq hm2 nr nq hkH21
              refine lv_istore (lv' := [(6, .int (iI (-9))), (5, .int (iI 0)), (4, .int (iI i)), (3, .ref o), (2, .ref (w 0)), (1, .ref (u 0)), (0, .ref b)]) hx hb dL_law_1915 hl (by decide) rfl (fun ls hl => ?_)
              refine lv_goto (tgt := 2331) hx hb dL_law_1917 (by decide) ?_
              exact kk _ _ _ _ _ ⟨_, _, _, _, _, _, _, _, _, _, hL2⟩ hS (by omega) (by omega) (lv_sub hl [2, 3, 4, 5, 6] rfl)
        · refine lv_aload_n hx hb dL_law_1852 rfl (lv_at hl 3 rfl) ?_
          refine lv_aload_n hx hb dL_law_1853 rfl (lv_at hl 4 rfl) ?_
          refine lv_iload hx hb dL_law_1854 (lv_at hl 0 rfl) ?_
          refine q_con hx hb dL_law_1856 ?_
          refine q_add hx hb dL_law_1857 ?_
          refine r_xld hx hb hX hbl hbA hS (i := i + 1) (z := x1) (by omega) hL ex1 dL_law_1858 ?_
          refine lv_aload_n hx hb dL_law_1859 rfl (lv_at hl 4 rfl) ?_
          refine lv_iload hx hb dL_law_1860 (lv_at hl 0 rfl) ?_
          refine q_con hx hb dL_law_1862 ?_
          refine q_add hx hb dL_law_1863 ?_
          refine r_xld hx hb hX hbl hbA hS (i := i + 2) (z := x2) (by omega) hL ex2 dL_law_1864 ?_
          refine lv_aload_n hx hb dL_law_1865 rfl (lv_at hl 4 rfl) ?_
          refine lv_iload hx hb dL_law_1866 (lv_at hl 0 rfl) ?_
          refine q_con hx hb dL_law_1868 ?_
          refine q_add hx hb dL_law_1869 ?_
          refine r_xld hx hb hX hbl hbA hS (i := i + 3) (z := x3) (by omega) hL ex3 dL_law_1870 ?_
          refine q_ieq (tgt := 1878) hx hb dL_law_1871 (by decide) (by omega) (fun c22 => ?_) (fun c22 => ?_)
          · exact (show False by omega).elim
          · refine q_con hx hb dL_law_1874 ?_
            refine lv_goto (tgt := 1879) hx hb dL_law_1875 (by decide) ?_
            refine lv_aload_n hx hb dL_law_1879 rfl (lv_at hl 1 rfl) ?_
            refine c_SWr (As := [.ref (u 0), .int (iI x1), .int (iI x2), .int (iI 1), .ref o]) (rest := []) (r := .int (iI 0)) fx hl (wr_toNext θ l hl0 S0 _ u dt (fun j => sv j 0) (fun j => sv j 1) (fun j => sv j 2) bc rf kn hcr hjH hn o nv sv9 ho hLX.1 x1 x2 1 (by first | assumption | omega | (dsimp only; first | assumption | omega) | exact Hid.mk (by first | assumption | omega) | exact Hid.mk ⟨fun _ => by first | assumption | omega, fun _ => by first | assumption | omega⟩) (by first | assumption | omega | (dsimp only; first | assumption | omega) | exact Hid.mk (by first | assumption | omega) | exact Hid.mk ⟨fun _ => by first | assumption | omega, fun _ => by first | assumption | omega⟩) (by first | assumption | omega | (dsimp only; first | assumption | omega) | exact Hid.mk (by first | assumption | omega) | exact Hid.mk ⟨fun _ => by first | assumption | omega, fun _ => by first | assumption | omega⟩) (by first | assumption | omega | (dsimp only; first | assumption | omega) | exact Hid.mk (by first | assumption | omega) | exact Hid.mk ⟨fun _ => by first | assumption | omega, fun _ => by first | assumption | omega⟩) (by first | assumption | omega | (dsimp only; first | assumption | omega) | exact Hid.mk (by first | assumption | omega) | exact Hid.mk ⟨fun _ => by first | assumption | omega, fun _ => by first | assumption | omega⟩) (by first | assumption | omega | (dsimp only; first | assumption | omega) | exact Hid.mk (by first | assumption | omega) | exact Hid.mk ⟨fun _ => by first | assumption | omega, fun _ => by first | assumption | omega⟩) (by first | assumption | omega | (dsimp only; first | assumption | omega) | exact Hid.mk (by first | assumption | omega) | exact Hid.mk ⟨fun _ => by first | assumption | omega, fun _ => by first | assumption | omega⟩)) dL_law_1880 k994 k995 k0 k996 hd_L_toNext rfl ⟨by omega, by omega⟩ (Nat.le_of_ble_eq_true rfl) ⟨by (try dsimp only); omega, by (try dsimp only); omega⟩ hS (fun x h => h.elim (fun h => h.elim (fun ⟨j, hj, e⟩ => e ▸ hu.2 j hj) (fun h => Nat.le_trans hzH.2.1 h)) (fun e => e ▸ hoθ)) (fun H23 locs hpH23 hszH23 hkH23 hS => ?_)
            obtain ⟨hcw, ho1⟩ := hpH23
            have hzH1 := hz0.at hAB hS
            have hjH1 := hj0.at hAB hS
            have hm1 := lw_cls hLX hw hzH1 hkH23
            refine lv_istore (lv' := [(5, .int (iI 0)), (4, .int (iI i)), (3, .ref o), (2, .ref (w 0)), (1, .ref (u 0)), (0, .ref b)]) hx hb dL_law_1883 hl (by decide) rfl (fun ls hl => ?_)
            refine lv_aload_n hx hb dL_law_1885 rfl (lv_at hl 3 rfl) ?_
            refine lv_aload_n hx hb dL_law_1886 rfl (lv_at hl 5 rfl) ?_
            refine lv_iload hx hb dL_law_1887 (lv_at hl 1 rfl) ?_
            refine q_con hx hb dL_law_1889 ?_
            refine q_add hx hb dL_law_1890 ?_
            refine r_xld hx hb hX hbl hbA hS (i := i + 1) (z := x1) (by omega) hL ex1 dL_law_1891 ?_
            refine lv_aload_n hx hb dL_law_1892 rfl (lv_at hl 5 rfl) ?_
            refine lv_iload hx hb dL_law_1893 (lv_at hl 1 rfl) ?_
            refine q_con hx hb dL_law_1895 ?_
            refine q_add hx hb dL_law_1896 ?_
            refine r_xld hx hb hX hbl hbA hS (i := i + 2) (z := x2) (by omega) hL ex2 dL_law_1897 ?_
            refine lv_aload_n hx hb dL_law_1898 rfl (lv_at hl 5 rfl) ?_
            refine lv_iload hx hb dL_law_1899 (lv_at hl 1 rfl) ?_
            refine q_con hx hb dL_law_1901 ?_
            refine q_add hx hb dL_law_1902 ?_
            refine r_xld hx hb hX hbl hbA hS (i := i + 3) (z := x3) (by omega) hL ex3 dL_law_1903 ?_
            refine q_ieq (tgt := 1911) hx hb dL_law_1904 (by decide) (by omega) (fun c24 => ?_) (fun c24 => ?_)
            · exact (show False by omega).elim
            · refine q_con hx hb dL_law_1907 ?_
              refine lv_goto (tgt := 1912) hx hb dL_law_1908 (by decide) ?_
              refine c_Vr (As := [.int (iI x1), .int (iI x2), .int (iI 1)]) (rest := []) (b := w 0) (C := RX3) (r := some (.int (iI (anI (dt x1.toNat) (unI (dt x1.toNat) (dt x2.toNat) 1 + 1) 1 - dt x2.toNat)))) (st1 := [.int (iI (anI (dt x1.toNat) (unI (dt x1.toNat) (dt x2.toNat) 1 + 1) 1 - dt x2.toNat))]) fx hl (mok_toNext θ l S0 _ w r q dt sv th bc rf kn hm1 x1 x2 1 (by first | assumption | omega | (dsimp only; first | assumption | omega) | exact Hid.mk (by first | assumption | omega) | exact Hid.mk ⟨fun _ => by first | assumption | omega, fun _ => by first | assumption | omega⟩) (by first | assumption | omega | (dsimp only; first | assumption | omega) | exact Hid.mk (by first | assumption | omega) | exact Hid.mk ⟨fun _ => by first | assumption | omega, fun _ => by first | assumption | omega⟩) (by first | assumption | omega | (dsimp only; first | assumption | omega) | exact Hid.mk (by first | assumption | omega) | exact Hid.mk ⟨fun _ => by first | assumption | omega, fun _ => by first | assumption | omega⟩) (by first | assumption | omega | (dsimp only; first | assumption | omega) | exact Hid.mk (by first | assumption | omega) | exact Hid.mk ⟨fun _ => by first | assumption | omega, fun _ => by first | assumption | omega⟩) (by first | assumption | omega | (dsimp only; first | assumption | omega) | exact Hid.mk (by first | assumption | omega) | exact Hid.mk ⟨fun _ => by first | assumption | omega, fun _ => by first | assumption | omega⟩) (by first | assumption | omega | (dsimp only; first | assumption | omega) | exact Hid.mk (by first | assumption | omega) | exact Hid.mk ⟨fun _ => by first | assumption | omega, fun _ => by first | assumption | omega⟩) (by first | assumption | omega | (dsimp only; first | assumption | omega) | exact Hid.mk (by first | assumption | omega) | exact Hid.mk ⟨fun _ => by first | assumption | omega, fun _ => by first | assumption | omega⟩)) (ob_recv hK hm1.2.2.1.1 rfl) dL_law_1912 k1536 k1537 k1538 k6 k1539 hd_X3_toNext rfl rfl ⟨by omega, by omega⟩ (Nat.le_of_ble_eq_true rfl) ⟨by (try dsimp only); omega, by (try dsimp only); omega⟩ hS (wa_b hm1.2.1 hzH1.2.1) (fun H25 locs hpH25 hszH25 hkH25 hS => ?_)
              obtain ⟨r1, q1, hm2, nr, nq⟩ := hpH25
              have hzH2 := hz0.at hAB hS
              have hL2 := lw_mod hLX hzH2 hu hcw ho1 hfr hfq hm2 nr nq hkH25
              refine q_nm (fun z26 ez26 => ?_)
              refine lv_istore (lv' := [(6, .int (iI z26)), (5, .int (iI 0)), (4, .int (iI i)), (3, .ref o), (2, .ref (w 0)), (1, .ref (u 0)), (0, .ref b)]) hx hb dL_law_1915 hl (by decide) rfl (fun ls hl => ?_)
              refine lv_goto (tgt := 2331) hx hb dL_law_1917 (by decide) ?_
              exact kk _ _ _ _ _ ⟨_, _, _, _, _, _, _, _, _, _, hL2⟩ hS (by omega) (by omega) (lv_sub hl [2, 3, 4, 5, 6] rfl)
      · refine lv_aload_n hx hb dL_law_1852 rfl (lv_at hl 3 rfl) ?_
        refine lv_aload_n hx hb dL_law_1853 rfl (lv_at hl 4 rfl) ?_
        refine lv_iload hx hb dL_law_1854 (lv_at hl 0 rfl) ?_
        refine q_con hx hb dL_law_1856 ?_
        refine q_add hx hb dL_law_1857 ?_
        refine r_xld hx hb hX hbl hbA hS (i := i + 1) (z := x1) (by omega) hL ex1 dL_law_1858 ?_
        refine lv_aload_n hx hb dL_law_1859 rfl (lv_at hl 4 rfl) ?_
        refine lv_iload hx hb dL_law_1860 (lv_at hl 0 rfl) ?_
        refine q_con hx hb dL_law_1862 ?_
        refine q_add hx hb dL_law_1863 ?_
        refine r_xld hx hb hX hbl hbA hS (i := i + 2) (z := x2) (by omega) hL ex2 dL_law_1864 ?_
        refine lv_aload_n hx hb dL_law_1865 rfl (lv_at hl 4 rfl) ?_
        refine lv_iload hx hb dL_law_1866 (lv_at hl 0 rfl) ?_
        refine q_con hx hb dL_law_1868 ?_
        refine q_add hx hb dL_law_1869 ?_
        refine r_xld hx hb hX hbl hbA hS (i := i + 3) (z := x3) (by omega) hL ex3 dL_law_1870 ?_
        refine q_ieq (tgt := 1878) hx hb dL_law_1871 (by decide) (by omega) (fun c27 => ?_) (fun c27 => ?_)
        · exact (show False by omega).elim
        · refine q_con hx hb dL_law_1874 ?_
          refine lv_goto (tgt := 1879) hx hb dL_law_1875 (by decide) ?_
          refine lv_aload_n hx hb dL_law_1879 rfl (lv_at hl 1 rfl) ?_
          refine c_SWr (As := [.ref (u 0), .int (iI x1), .int (iI x2), .int (iI 1), .ref o]) (rest := []) (r := .int (iI 1)) fx hl (wn2_toNext θ l hl0 S0 _ u dt (fun j => sv j 0) (fun j => sv j 1) (fun j => sv j 2) bc rf kn hcr hjH hn o nv sv9 ho hLX.1 x1 x2 1 (by first | assumption | omega | (dsimp only; first | assumption | omega) | exact Hid.mk (by first | assumption | omega) | exact Hid.mk ⟨fun _ => by first | assumption | omega, fun _ => by first | assumption | omega⟩) (by first | assumption | omega | (dsimp only; first | assumption | omega) | exact Hid.mk (by first | assumption | omega) | exact Hid.mk ⟨fun _ => by first | assumption | omega, fun _ => by first | assumption | omega⟩) (by first | assumption | omega | (dsimp only; first | assumption | omega) | exact Hid.mk (by first | assumption | omega) | exact Hid.mk ⟨fun _ => by first | assumption | omega, fun _ => by first | assumption | omega⟩) (by first | assumption | omega | (dsimp only; first | assumption | omega) | exact Hid.mk (by first | assumption | omega) | exact Hid.mk ⟨fun _ => by first | assumption | omega, fun _ => by first | assumption | omega⟩) (by first | assumption | omega | (dsimp only; first | assumption | omega) | exact Hid.mk (by first | assumption | omega) | exact Hid.mk ⟨fun _ => by first | assumption | omega, fun _ => by first | assumption | omega⟩) (by first | assumption | omega | (dsimp only; first | assumption | omega) | exact Hid.mk (by first | assumption | omega) | exact Hid.mk ⟨fun _ => by first | assumption | omega, fun _ => by first | assumption | omega⟩)) dL_law_1880 k994 k995 k0 k996 hd_L_toNext rfl ⟨by omega, by omega⟩ (Nat.le_of_ble_eq_true rfl) ⟨by (try dsimp only); omega, by (try dsimp only); omega⟩ hS (fun x h => h.elim (fun h => h.elim (fun ⟨j, hj, e⟩ => e ▸ hu.2 j hj) (fun h => Nat.le_trans hzH.2.1 h)) (fun e => e ▸ hoθ)) (fun H28 locs hpH28 hszH28 hkH28 hS => ?_)
          obtain ⟨hcw, ho1⟩ := hpH28
          have hzH1 := hz0.at hAB hS
          have hjH1 := hj0.at hAB hS
          have hm1 := lw_cls hLX hw hzH1 hkH28
          refine lv_istore (lv' := [(5, .int (iI 1)), (4, .int (iI i)), (3, .ref o), (2, .ref (w 0)), (1, .ref (u 0)), (0, .ref b)]) hx hb dL_law_1883 hl (by decide) rfl (fun ls hl => ?_)
          refine lv_aload_n hx hb dL_law_1885 rfl (lv_at hl 3 rfl) ?_
          refine lv_aload_n hx hb dL_law_1886 rfl (lv_at hl 5 rfl) ?_
          refine lv_iload hx hb dL_law_1887 (lv_at hl 1 rfl) ?_
          refine q_con hx hb dL_law_1889 ?_
          refine q_add hx hb dL_law_1890 ?_
          refine r_xld hx hb hX hbl hbA hS (i := i + 1) (z := x1) (by omega) hL ex1 dL_law_1891 ?_
          refine lv_aload_n hx hb dL_law_1892 rfl (lv_at hl 5 rfl) ?_
          refine lv_iload hx hb dL_law_1893 (lv_at hl 1 rfl) ?_
          refine q_con hx hb dL_law_1895 ?_
          refine q_add hx hb dL_law_1896 ?_
          refine r_xld hx hb hX hbl hbA hS (i := i + 2) (z := x2) (by omega) hL ex2 dL_law_1897 ?_
          refine lv_aload_n hx hb dL_law_1898 rfl (lv_at hl 5 rfl) ?_
          refine lv_iload hx hb dL_law_1899 (lv_at hl 1 rfl) ?_
          refine q_con hx hb dL_law_1901 ?_
          refine q_add hx hb dL_law_1902 ?_
          refine r_xld hx hb hX hbl hbA hS (i := i + 3) (z := x3) (by omega) hL ex3 dL_law_1903 ?_
          refine q_ieq (tgt := 1911) hx hb dL_law_1904 (by decide) (by omega) (fun c29 => ?_) (fun c29 => ?_)
          · exact (show False by omega).elim
          · refine q_con hx hb dL_law_1907 ?_
            refine lv_goto (tgt := 1912) hx hb dL_law_1908 (by decide) ?_
            refine c_Vr (As := [.int (iI x1), .int (iI x2), .int (iI 1)]) (rest := []) (b := w 0) (C := RX3) (r := some (.int (iI 0))) (st1 := [.int (iI 0)]) fx hl (mno2_toNext θ l S0 _ w r q dt sv th bc rf kn hm1 x1 x2 1 (by first | assumption | omega | (dsimp only; first | assumption | omega) | exact Hid.mk (by first | assumption | omega) | exact Hid.mk ⟨fun _ => by first | assumption | omega, fun _ => by first | assumption | omega⟩) (by first | assumption | omega | (dsimp only; first | assumption | omega) | exact Hid.mk (by first | assumption | omega) | exact Hid.mk ⟨fun _ => by first | assumption | omega, fun _ => by first | assumption | omega⟩) (by first | assumption | omega | (dsimp only; first | assumption | omega) | exact Hid.mk (by first | assumption | omega) | exact Hid.mk ⟨fun _ => by first | assumption | omega, fun _ => by first | assumption | omega⟩) (by first | assumption | omega | (dsimp only; first | assumption | omega) | exact Hid.mk (by first | assumption | omega) | exact Hid.mk ⟨fun _ => by first | assumption | omega, fun _ => by first | assumption | omega⟩) (by first | assumption | omega | (dsimp only; first | assumption | omega) | exact Hid.mk (by first | assumption | omega) | exact Hid.mk ⟨fun _ => by first | assumption | omega, fun _ => by first | assumption | omega⟩) (by first | assumption | omega | (dsimp only; first | assumption | omega) | exact Hid.mk (by first | assumption | omega) | exact Hid.mk ⟨fun _ => by first | assumption | omega, fun _ => by first | assumption | omega⟩)) (ob_recv hK hm1.2.2.1.1 rfl) dL_law_1912 k1536 k1537 k1538 k6 k1539 hd_X3_toNext rfl rfl ⟨by omega, by omega⟩ (Nat.le_of_ble_eq_true rfl) ⟨by (try dsimp only); omega, by (try dsimp only); omega⟩ hS (wa_b hm1.2.1 hzH1.2.1) (fun H30 locs hpH30 hszH30 hkH30 hS => ?_)
            obtain ⟨r1, q1, hm2, nr, nq⟩ := hpH30
            have hzH2 := hz0.at hAB hS
            have hL2 := lw_mod hLX hzH2 hu hcw ho1 hfr hfq hm2 nr nq hkH30
            refine lv_istore (lv' := [(6, .int (iI 0)), (5, .int (iI 1)), (4, .int (iI i)), (3, .ref o), (2, .ref (w 0)), (1, .ref (u 0)), (0, .ref b)]) hx hb dL_law_1915 hl (by decide) rfl (fun ls hl => ?_)
            refine lv_goto (tgt := 2331) hx hb dL_law_1917 (by decide) ?_
            exact kk _ _ _ _ _ ⟨_, _, _, _, _, _, _, _, _, _, hL2⟩ hS (by omega) (by omega) (lv_sub hl [2, 3, 4, 5, 6] rfl)
    · refine lv_aload_n hx hb dL_law_1852 rfl (lv_at hl 3 rfl) ?_
      refine lv_aload_n hx hb dL_law_1853 rfl (lv_at hl 4 rfl) ?_
      refine lv_iload hx hb dL_law_1854 (lv_at hl 0 rfl) ?_
      refine q_con hx hb dL_law_1856 ?_
      refine q_add hx hb dL_law_1857 ?_
      refine r_xld hx hb hX hbl hbA hS (i := i + 1) (z := x1) (by omega) hL ex1 dL_law_1858 ?_
      refine lv_aload_n hx hb dL_law_1859 rfl (lv_at hl 4 rfl) ?_
      refine lv_iload hx hb dL_law_1860 (lv_at hl 0 rfl) ?_
      refine q_con hx hb dL_law_1862 ?_
      refine q_add hx hb dL_law_1863 ?_
      refine r_xld hx hb hX hbl hbA hS (i := i + 2) (z := x2) (by omega) hL ex2 dL_law_1864 ?_
      refine lv_aload_n hx hb dL_law_1865 rfl (lv_at hl 4 rfl) ?_
      refine lv_iload hx hb dL_law_1866 (lv_at hl 0 rfl) ?_
      refine q_con hx hb dL_law_1868 ?_
      refine q_add hx hb dL_law_1869 ?_
      refine r_xld hx hb hX hbl hbA hS (i := i + 3) (z := x3) (by omega) hL ex3 dL_law_1870 ?_
      refine q_ieq (tgt := 1878) hx hb dL_law_1871 (by decide) (by omega) (fun c31 => ?_) (fun c31 => ?_)
      · exact (show False by omega).elim
      · refine q_con hx hb dL_law_1874 ?_
        refine lv_goto (tgt := 1879) hx hb dL_law_1875 (by decide) ?_
        refine lv_aload_n hx hb dL_law_1879 rfl (lv_at hl 1 rfl) ?_
        refine c_SWr (As := [.ref (u 0), .int (iI x1), .int (iI x2), .int (iI 1), .ref o]) (rest := []) (r := .int (iI 1)) fx hl (wn1_toNext θ l hl0 S0 _ u dt (fun j => sv j 0) (fun j => sv j 1) (fun j => sv j 2) bc rf kn hcr hjH hn o nv sv9 ho hLX.1 x1 x2 1 (by first | assumption | omega | (dsimp only; first | assumption | omega) | exact Hid.mk (by first | assumption | omega) | exact Hid.mk ⟨fun _ => by first | assumption | omega, fun _ => by first | assumption | omega⟩) (by first | assumption | omega | (dsimp only; first | assumption | omega) | exact Hid.mk (by first | assumption | omega) | exact Hid.mk ⟨fun _ => by first | assumption | omega, fun _ => by first | assumption | omega⟩) (by first | assumption | omega | (dsimp only; first | assumption | omega) | exact Hid.mk (by first | assumption | omega) | exact Hid.mk ⟨fun _ => by first | assumption | omega, fun _ => by first | assumption | omega⟩) (by first | assumption | omega | (dsimp only; first | assumption | omega) | exact Hid.mk (by first | assumption | omega) | exact Hid.mk ⟨fun _ => by first | assumption | omega, fun _ => by first | assumption | omega⟩) (by first | assumption | omega | (dsimp only; first | assumption | omega) | exact Hid.mk (by first | assumption | omega) | exact Hid.mk ⟨fun _ => by first | assumption | omega, fun _ => by first | assumption | omega⟩)) dL_law_1880 k994 k995 k0 k996 hd_L_toNext rfl ⟨by omega, by omega⟩ (Nat.le_of_ble_eq_true rfl) ⟨by (try dsimp only); omega, by (try dsimp only); omega⟩ hS (fun x h => h.elim (fun h => h.elim (fun ⟨j, hj, e⟩ => e ▸ hu.2 j hj) (fun h => Nat.le_trans hzH.2.1 h)) (fun e => e ▸ hoθ)) (fun H32 locs hpH32 hszH32 hkH32 hS => ?_)
        obtain ⟨hcw, ho1⟩ := hpH32
        have hzH1 := hz0.at hAB hS
        have hjH1 := hj0.at hAB hS
        have hm1 := lw_cls hLX hw hzH1 hkH32
        refine lv_istore (lv' := [(5, .int (iI 1)), (4, .int (iI i)), (3, .ref o), (2, .ref (w 0)), (1, .ref (u 0)), (0, .ref b)]) hx hb dL_law_1883 hl (by decide) rfl (fun ls hl => ?_)
        refine lv_aload_n hx hb dL_law_1885 rfl (lv_at hl 3 rfl) ?_
        refine lv_aload_n hx hb dL_law_1886 rfl (lv_at hl 5 rfl) ?_
        refine lv_iload hx hb dL_law_1887 (lv_at hl 1 rfl) ?_
        refine q_con hx hb dL_law_1889 ?_
        refine q_add hx hb dL_law_1890 ?_
        refine r_xld hx hb hX hbl hbA hS (i := i + 1) (z := x1) (by omega) hL ex1 dL_law_1891 ?_
        refine lv_aload_n hx hb dL_law_1892 rfl (lv_at hl 5 rfl) ?_
        refine lv_iload hx hb dL_law_1893 (lv_at hl 1 rfl) ?_
        refine q_con hx hb dL_law_1895 ?_
        refine q_add hx hb dL_law_1896 ?_
        refine r_xld hx hb hX hbl hbA hS (i := i + 2) (z := x2) (by omega) hL ex2 dL_law_1897 ?_
        refine lv_aload_n hx hb dL_law_1898 rfl (lv_at hl 5 rfl) ?_
        refine lv_iload hx hb dL_law_1899 (lv_at hl 1 rfl) ?_
        refine q_con hx hb dL_law_1901 ?_
        refine q_add hx hb dL_law_1902 ?_
        refine r_xld hx hb hX hbl hbA hS (i := i + 3) (z := x3) (by omega) hL ex3 dL_law_1903 ?_
        refine q_ieq (tgt := 1911) hx hb dL_law_1904 (by decide) (by omega) (fun c33 => ?_) (fun c33 => ?_)
        · exact (show False by omega).elim
        · refine q_con hx hb dL_law_1907 ?_
          refine lv_goto (tgt := 1912) hx hb dL_law_1908 (by decide) ?_
          refine c_Vr (As := [.int (iI x1), .int (iI x2), .int (iI 1)]) (rest := []) (b := w 0) (C := RX3) (r := some (.int (iI 0))) (st1 := [.int (iI 0)]) fx hl (mno1_toNext θ l S0 _ w r q dt sv th bc rf kn hm1 x1 x2 1 (by first | assumption | omega | (dsimp only; first | assumption | omega) | exact Hid.mk (by first | assumption | omega) | exact Hid.mk ⟨fun _ => by first | assumption | omega, fun _ => by first | assumption | omega⟩) (by first | assumption | omega | (dsimp only; first | assumption | omega) | exact Hid.mk (by first | assumption | omega) | exact Hid.mk ⟨fun _ => by first | assumption | omega, fun _ => by first | assumption | omega⟩) (by first | assumption | omega | (dsimp only; first | assumption | omega) | exact Hid.mk (by first | assumption | omega) | exact Hid.mk ⟨fun _ => by first | assumption | omega, fun _ => by first | assumption | omega⟩) (by first | assumption | omega | (dsimp only; first | assumption | omega) | exact Hid.mk (by first | assumption | omega) | exact Hid.mk ⟨fun _ => by first | assumption | omega, fun _ => by first | assumption | omega⟩) (by first | assumption | omega | (dsimp only; first | assumption | omega) | exact Hid.mk (by first | assumption | omega) | exact Hid.mk ⟨fun _ => by first | assumption | omega, fun _ => by first | assumption | omega⟩)) (ob_recv hK hm1.2.2.1.1 rfl) dL_law_1912 k1536 k1537 k1538 k6 k1539 hd_X3_toNext rfl rfl ⟨by omega, by omega⟩ (Nat.le_of_ble_eq_true rfl) ⟨by (try dsimp only); omega, by (try dsimp only); omega⟩ hS (wa_b hm1.2.1 hzH1.2.1) (fun H34 locs hpH34 hszH34 hkH34 hS => ?_)
          obtain ⟨r1, q1, hm2, nr, nq⟩ := hpH34
          have hzH2 := hz0.at hAB hS
          have hL2 := lw_mod hLX hzH2 hu hcw ho1 hfr hfq hm2 nr nq hkH34
          refine lv_istore (lv' := [(6, .int (iI 0)), (5, .int (iI 1)), (4, .int (iI i)), (3, .ref o), (2, .ref (w 0)), (1, .ref (u 0)), (0, .ref b)]) hx hb dL_law_1915 hl (by decide) rfl (fun ls hl => ?_)
          refine lv_goto (tgt := 2331) hx hb dL_law_1917 (by decide) ?_
          exact kk _ _ _ _ _ ⟨_, _, _, _, _, _, _, _, _, _, hL2⟩ hS (by omega) (by omega) (lv_sub hl [2, 3, 4, 5, 6] rfl)

set_option maxHeartbeats 4000000 in
set_option maxRecDepth 100000 in
theorem lc_wholeMonths {p : Program} {l : Launch} {e : Env} {R : Room} {s : State} {m : MethodId} {args : Array Value} {below : List Frame} {meth : Method} {c : Code} {Q : State → Prop} {θ : TH} {S0 : State} (fx : FX p m c cL_law 7 s args yL_law.cls S0) (hl0 : l.stackTraces = false) (hz0 : SZ θ S0 s.heap) (hj0 : SJ θ S0 s.heap) (hn : NX S0) {u w : Nat → Nat} {o b L : Nat} {xs : Nat → Int32} (hLX : LX u w o) (hoθ : θ.2.2.2 ≤ o) (hX : va_X b L xs s s.heap) (hbl : b < s.heap.size) (hbA : ¬ AJ θ b) (hL : L ≤ 2560) (hRF : 1000 ≤ R.frames ∧ 1000 ≤ R.locals) {H : Heap} {locs : List Loc} {cells slots : Nat} {ls : Array Slot} {i : Int} (hi : 0 ≤ i ∧ i + 5 ≤ (L : Int)) (hw : LWE θ S0 u w o H) (hS : va_S (AJ θ) s.heap H locs) (hRc : cells + 400 ≤ R.cells ∧ slots + 7000 ≤ R.slots) (hl : lv_has ls 7 [(4, .int (iI i)), (3, .ref o), (2, .ref (w 0)), (1, .ref (u 0)), (0, .ref b)]) (kk : LK p l e R s m args below meth c Q θ S0 u w o b i cells slots 2331) : W p l e R s m args below meth c H locs cells slots Q (F0 m 1920 ls []) := by
  obtain ⟨hx, hb, hml, hown, hts⟩ := id fx.1
  have hAB : ∀ x : Nat, AJ θ x → θ.2.2.2 ≤ x := fun _ h => h
  obtain ⟨r, q, dt, sv, th, bc, rf, kn, nv, sv9, hw⟩ := hw
  obtain ⟨hcr, hmr, ho, hfr, hfq⟩ := id hw
  have hzH := hz0.at hAB hS
  have hjH := hj0.at hAB hS
  have hK := sz_K fx.2 hz0
  have hu := hcr.2.1
  obtain ⟨x1, ex1⟩ : ∃ z : Int, z = (xs (i + 1).toNat).toInt := ⟨_, rfl⟩
  have bx1 := x32_b ex1
  obtain ⟨x2, ex2⟩ : ∃ z : Int, z = (xs (i + 2).toNat).toInt := ⟨_, rfl⟩
  have bx2 := x32_b ex2
  by_cases hc1 : 0 ≤ x1 ∧ x1 < 6
  · by_cases hc2 : 0 ≤ x2 ∧ x2 < 6
    · refine lv_aload_n hx hb dL_law_1920 rfl (lv_at hl 3 rfl) ?_
      refine lv_aload_n hx hb dL_law_1921 rfl (lv_at hl 4 rfl) ?_
      refine lv_iload hx hb dL_law_1922 (lv_at hl 0 rfl) ?_
      refine q_con hx hb dL_law_1924 ?_
      refine q_add hx hb dL_law_1925 ?_
      refine r_xld hx hb hX hbl hbA hS (i := i + 1) (z := x1) (by omega) hL ex1 dL_law_1926 ?_
      refine lv_aload_n hx hb dL_law_1927 rfl (lv_at hl 4 rfl) ?_
      refine lv_iload hx hb dL_law_1928 (lv_at hl 0 rfl) ?_
      refine q_con hx hb dL_law_1930 ?_
      refine q_add hx hb dL_law_1931 ?_
      refine r_xld hx hb hX hbl hbA hS (i := i + 2) (z := x2) (by omega) hL ex2 dL_law_1932 ?_
      refine lv_aload_n hx hb dL_law_1933 rfl (lv_at hl 1 rfl) ?_
      refine c_SWr (As := [.ref (u 0), .int (iI x1), .int (iI x2), .ref o]) (rest := []) (r := .int (iI 0)) fx hl (wr_wholeMonths θ l hl0 S0 _ u dt (fun j => sv j 0) (fun j => sv j 1) (fun j => sv j 2) bc rf kn hcr hjH hn o nv sv9 ho hLX.1 x1 x2 (by first | assumption | omega | (dsimp only; first | assumption | omega) | exact Hid.mk (by first | assumption | omega) | exact Hid.mk ⟨fun _ => by first | assumption | omega, fun _ => by first | assumption | omega⟩) (by first | assumption | omega | (dsimp only; first | assumption | omega) | exact Hid.mk (by first | assumption | omega) | exact Hid.mk ⟨fun _ => by first | assumption | omega, fun _ => by first | assumption | omega⟩) (by first | assumption | omega | (dsimp only; first | assumption | omega) | exact Hid.mk (by first | assumption | omega) | exact Hid.mk ⟨fun _ => by first | assumption | omega, fun _ => by first | assumption | omega⟩) (by first | assumption | omega | (dsimp only; first | assumption | omega) | exact Hid.mk (by first | assumption | omega) | exact Hid.mk ⟨fun _ => by first | assumption | omega, fun _ => by first | assumption | omega⟩)) dL_law_1934 k1002 k1003 k0 k1004 hd_L_wholeMonths rfl ⟨by omega, by omega⟩ (Nat.le_of_ble_eq_true rfl) ⟨by (try dsimp only); omega, by (try dsimp only); omega⟩ hS (fun x h => h.elim (fun h => h.elim (fun ⟨j, hj, e⟩ => e ▸ hu.2 j hj) (fun h => Nat.le_trans hzH.2.1 h)) (fun e => e ▸ hoθ)) (fun H1 locs hpH1 hszH1 hkH1 hS => ?_)
      obtain ⟨hcw, ho1⟩ := hpH1
      have hzH1 := hz0.at hAB hS
      have hjH1 := hj0.at hAB hS
      have hm1 := lw_cls hLX hw hzH1 hkH1
      refine lv_istore (lv' := [(5, .int (iI 0)), (4, .int (iI i)), (3, .ref o), (2, .ref (w 0)), (1, .ref (u 0)), (0, .ref b)]) hx hb dL_law_1937 hl (by decide) rfl (fun ls hl => ?_)
      refine lv_aload_n hx hb dL_law_1939 rfl (lv_at hl 3 rfl) ?_
      refine lv_aload_n hx hb dL_law_1940 rfl (lv_at hl 5 rfl) ?_
      refine lv_iload hx hb dL_law_1941 (lv_at hl 1 rfl) ?_
      refine q_con hx hb dL_law_1943 ?_
      refine q_add hx hb dL_law_1944 ?_
      refine r_xld hx hb hX hbl hbA hS (i := i + 1) (z := x1) (by omega) hL ex1 dL_law_1945 ?_
      refine lv_aload_n hx hb dL_law_1946 rfl (lv_at hl 5 rfl) ?_
      refine lv_iload hx hb dL_law_1947 (lv_at hl 1 rfl) ?_
      refine q_con hx hb dL_law_1949 ?_
      refine q_add hx hb dL_law_1950 ?_
      refine r_xld hx hb hX hbl hbA hS (i := i + 2) (z := x2) (by omega) hL ex2 dL_law_1951 ?_
      refine c_Vr (As := [.int (iI x1), .int (iI x2)]) (rest := []) (b := w 0) (C := RX3) (r := some (.int (iI (if dt x2.toNat < dt x1.toNat then -muI (dt x2.toNat) (dt x1.toNat) else muI (dt x1.toNat) (dt x2.toNat))))) (st1 := [.int (iI (if dt x2.toNat < dt x1.toNat then -muI (dt x2.toNat) (dt x1.toNat) else muI (dt x1.toNat) (dt x2.toNat)))]) fx hl (mok_wholeMonths θ l S0 _ w r q dt sv th bc rf kn hm1 x1 x2 (by first | assumption | omega | (dsimp only; first | assumption | omega) | exact Hid.mk (by first | assumption | omega) | exact Hid.mk ⟨fun _ => by first | assumption | omega, fun _ => by first | assumption | omega⟩) (by first | assumption | omega | (dsimp only; first | assumption | omega) | exact Hid.mk (by first | assumption | omega) | exact Hid.mk ⟨fun _ => by first | assumption | omega, fun _ => by first | assumption | omega⟩) (by first | assumption | omega | (dsimp only; first | assumption | omega) | exact Hid.mk (by first | assumption | omega) | exact Hid.mk ⟨fun _ => by first | assumption | omega, fun _ => by first | assumption | omega⟩) (by first | assumption | omega | (dsimp only; first | assumption | omega) | exact Hid.mk (by first | assumption | omega) | exact Hid.mk ⟨fun _ => by first | assumption | omega, fun _ => by first | assumption | omega⟩)) (ob_recv hK hm1.2.2.1.1 rfl) dL_law_1952 k1540 k1541 k1542 k6 k1543 hd_X3_wholeMonths rfl rfl ⟨by omega, by omega⟩ (Nat.le_of_ble_eq_true rfl) ⟨by (try dsimp only); omega, by (try dsimp only); omega⟩ hS (wa_b hm1.2.1 hzH1.2.1) (fun H2 locs hpH2 hszH2 hkH2 hS => ?_)
      obtain ⟨r1, q1, hm2, nr, nq⟩ := hpH2
      have hzH2 := hz0.at hAB hS
      have hL2 := lw_mod hLX hzH2 hu hcw ho1 hfr hfq hm2 nr nq hkH2
      refine q_nm (fun z3 ez3 => ?_)
      refine lv_istore (lv' := [(6, .int (iI z3)), (5, .int (iI 0)), (4, .int (iI i)), (3, .ref o), (2, .ref (w 0)), (1, .ref (u 0)), (0, .ref b)]) hx hb dL_law_1955 hl (by decide) rfl (fun ls hl => ?_)
      refine lv_goto (tgt := 2331) hx hb dL_law_1957 (by decide) ?_
      exact kk _ _ _ _ _ ⟨_, _, _, _, _, _, _, _, _, _, hL2⟩ hS (by omega) (by omega) (lv_sub hl [2, 3, 4, 5, 6] rfl)
    · refine lv_aload_n hx hb dL_law_1920 rfl (lv_at hl 3 rfl) ?_
      refine lv_aload_n hx hb dL_law_1921 rfl (lv_at hl 4 rfl) ?_
      refine lv_iload hx hb dL_law_1922 (lv_at hl 0 rfl) ?_
      refine q_con hx hb dL_law_1924 ?_
      refine q_add hx hb dL_law_1925 ?_
      refine r_xld hx hb hX hbl hbA hS (i := i + 1) (z := x1) (by omega) hL ex1 dL_law_1926 ?_
      refine lv_aload_n hx hb dL_law_1927 rfl (lv_at hl 4 rfl) ?_
      refine lv_iload hx hb dL_law_1928 (lv_at hl 0 rfl) ?_
      refine q_con hx hb dL_law_1930 ?_
      refine q_add hx hb dL_law_1931 ?_
      refine r_xld hx hb hX hbl hbA hS (i := i + 2) (z := x2) (by omega) hL ex2 dL_law_1932 ?_
      refine lv_aload_n hx hb dL_law_1933 rfl (lv_at hl 1 rfl) ?_
      refine c_SWr (As := [.ref (u 0), .int (iI x1), .int (iI x2), .ref o]) (rest := []) (r := .int (iI 1)) fx hl (wn2_wholeMonths θ l hl0 S0 _ u dt (fun j => sv j 0) (fun j => sv j 1) (fun j => sv j 2) bc rf kn hcr hjH hn o nv sv9 ho hLX.1 x1 x2 (by first | assumption | omega | (dsimp only; first | assumption | omega) | exact Hid.mk (by first | assumption | omega) | exact Hid.mk ⟨fun _ => by first | assumption | omega, fun _ => by first | assumption | omega⟩) (by first | assumption | omega | (dsimp only; first | assumption | omega) | exact Hid.mk (by first | assumption | omega) | exact Hid.mk ⟨fun _ => by first | assumption | omega, fun _ => by first | assumption | omega⟩) (by first | assumption | omega | (dsimp only; first | assumption | omega) | exact Hid.mk (by first | assumption | omega) | exact Hid.mk ⟨fun _ => by first | assumption | omega, fun _ => by first | assumption | omega⟩) (by first | assumption | omega | (dsimp only; first | assumption | omega) | exact Hid.mk (by first | assumption | omega) | exact Hid.mk ⟨fun _ => by first | assumption | omega, fun _ => by first | assumption | omega⟩)) dL_law_1934 k1002 k1003 k0 k1004 hd_L_wholeMonths rfl ⟨by omega, by omega⟩ (Nat.le_of_ble_eq_true rfl) ⟨by (try dsimp only); omega, by (try dsimp only); omega⟩ hS (fun x h => h.elim (fun h => h.elim (fun ⟨j, hj, e⟩ => e ▸ hu.2 j hj) (fun h => Nat.le_trans hzH.2.1 h)) (fun e => e ▸ hoθ)) (fun H4 locs hpH4 hszH4 hkH4 hS => ?_)
      obtain ⟨hcw, ho1⟩ := hpH4
      have hzH1 := hz0.at hAB hS
      have hjH1 := hj0.at hAB hS
      have hm1 := lw_cls hLX hw hzH1 hkH4
      refine lv_istore (lv' := [(5, .int (iI 1)), (4, .int (iI i)), (3, .ref o), (2, .ref (w 0)), (1, .ref (u 0)), (0, .ref b)]) hx hb dL_law_1937 hl (by decide) rfl (fun ls hl => ?_)
      refine lv_aload_n hx hb dL_law_1939 rfl (lv_at hl 3 rfl) ?_
      refine lv_aload_n hx hb dL_law_1940 rfl (lv_at hl 5 rfl) ?_
      refine lv_iload hx hb dL_law_1941 (lv_at hl 1 rfl) ?_
      refine q_con hx hb dL_law_1943 ?_
      refine q_add hx hb dL_law_1944 ?_
      refine r_xld hx hb hX hbl hbA hS (i := i + 1) (z := x1) (by omega) hL ex1 dL_law_1945 ?_
      refine lv_aload_n hx hb dL_law_1946 rfl (lv_at hl 5 rfl) ?_
      refine lv_iload hx hb dL_law_1947 (lv_at hl 1 rfl) ?_
      refine q_con hx hb dL_law_1949 ?_
      refine q_add hx hb dL_law_1950 ?_
      refine r_xld hx hb hX hbl hbA hS (i := i + 2) (z := x2) (by omega) hL ex2 dL_law_1951 ?_
      refine c_Vr (As := [.int (iI x1), .int (iI x2)]) (rest := []) (b := w 0) (C := RX3) (r := some (.int (iI 0))) (st1 := [.int (iI 0)]) fx hl (mno2_wholeMonths θ l S0 _ w r q dt sv th bc rf kn hm1 x1 x2 (by first | assumption | omega | (dsimp only; first | assumption | omega) | exact Hid.mk (by first | assumption | omega) | exact Hid.mk ⟨fun _ => by first | assumption | omega, fun _ => by first | assumption | omega⟩) (by first | assumption | omega | (dsimp only; first | assumption | omega) | exact Hid.mk (by first | assumption | omega) | exact Hid.mk ⟨fun _ => by first | assumption | omega, fun _ => by first | assumption | omega⟩) (by first | assumption | omega | (dsimp only; first | assumption | omega) | exact Hid.mk (by first | assumption | omega) | exact Hid.mk ⟨fun _ => by first | assumption | omega, fun _ => by first | assumption | omega⟩) (by first | assumption | omega | (dsimp only; first | assumption | omega) | exact Hid.mk (by first | assumption | omega) | exact Hid.mk ⟨fun _ => by first | assumption | omega, fun _ => by first | assumption | omega⟩)) (ob_recv hK hm1.2.2.1.1 rfl) dL_law_1952 k1540 k1541 k1542 k6 k1543 hd_X3_wholeMonths rfl rfl ⟨by omega, by omega⟩ (Nat.le_of_ble_eq_true rfl) ⟨by (try dsimp only); omega, by (try dsimp only); omega⟩ hS (wa_b hm1.2.1 hzH1.2.1) (fun H5 locs hpH5 hszH5 hkH5 hS => ?_)
      obtain ⟨r1, q1, hm2, nr, nq⟩ := hpH5
      have hzH2 := hz0.at hAB hS
      have hL2 := lw_mod hLX hzH2 hu hcw ho1 hfr hfq hm2 nr nq hkH5
      refine lv_istore (lv' := [(6, .int (iI 0)), (5, .int (iI 1)), (4, .int (iI i)), (3, .ref o), (2, .ref (w 0)), (1, .ref (u 0)), (0, .ref b)]) hx hb dL_law_1955 hl (by decide) rfl (fun ls hl => ?_)
      refine lv_goto (tgt := 2331) hx hb dL_law_1957 (by decide) ?_
      exact kk _ _ _ _ _ ⟨_, _, _, _, _, _, _, _, _, _, hL2⟩ hS (by omega) (by omega) (lv_sub hl [2, 3, 4, 5, 6] rfl)
  · refine lv_aload_n hx hb dL_law_1920 rfl (lv_at hl 3 rfl) ?_
    refine lv_aload_n hx hb dL_law_1921 rfl (lv_at hl 4 rfl) ?_
    refine lv_iload hx hb dL_law_1922 (lv_at hl 0 rfl) ?_
    refine q_con hx hb dL_law_1924 ?_
    refine q_add hx hb dL_law_1925 ?_
    refine r_xld hx hb hX hbl hbA hS (i := i + 1) (z := x1) (by omega) hL ex1 dL_law_1926 ?_
    refine lv_aload_n hx hb dL_law_1927 rfl (lv_at hl 4 rfl) ?_
    refine lv_iload hx hb dL_law_1928 (lv_at hl 0 rfl) ?_
    refine q_con hx hb dL_law_1930 ?_
    refine q_add hx hb dL_law_1931 ?_
    refine r_xld hx hb hX hbl hbA hS (i := i + 2) (z := x2) (by omega) hL ex2 dL_law_1932 ?_
    refine lv_aload_n hx hb dL_law_1933 rfl (lv_at hl 1 rfl) ?_
    refine c_SWr (As := [.ref (u 0), .int (iI x1), .int (iI x2), .ref o]) (rest := []) (r := .int (iI 1)) fx hl (wn1_wholeMonths θ l hl0 S0 _ u dt (fun j => sv j 0) (fun j => sv j 1) (fun j => sv j 2) bc rf kn hcr hjH hn o nv sv9 ho hLX.1 x1 x2 (by first | assumption | omega | (dsimp only; first | assumption | omega) | exact Hid.mk (by first | assumption | omega) | exact Hid.mk ⟨fun _ => by first | assumption | omega, fun _ => by first | assumption | omega⟩) (by first | assumption | omega | (dsimp only; first | assumption | omega) | exact Hid.mk (by first | assumption | omega) | exact Hid.mk ⟨fun _ => by first | assumption | omega, fun _ => by first | assumption | omega⟩) (by first | assumption | omega | (dsimp only; first | assumption | omega) | exact Hid.mk (by first | assumption | omega) | exact Hid.mk ⟨fun _ => by first | assumption | omega, fun _ => by first | assumption | omega⟩)) dL_law_1934 k1002 k1003 k0 k1004 hd_L_wholeMonths rfl ⟨by omega, by omega⟩ (Nat.le_of_ble_eq_true rfl) ⟨by (try dsimp only); omega, by (try dsimp only); omega⟩ hS (fun x h => h.elim (fun h => h.elim (fun ⟨j, hj, e⟩ => e ▸ hu.2 j hj) (fun h => Nat.le_trans hzH.2.1 h)) (fun e => e ▸ hoθ)) (fun H6 locs hpH6 hszH6 hkH6 hS => ?_)
    obtain ⟨hcw, ho1⟩ := hpH6
    have hzH1 := hz0.at hAB hS
    have hjH1 := hj0.at hAB hS
    have hm1 := lw_cls hLX hw hzH1 hkH6
    refine lv_istore (lv' := [(5, .int (iI 1)), (4, .int (iI i)), (3, .ref o), (2, .ref (w 0)), (1, .ref (u 0)), (0, .ref b)]) hx hb dL_law_1937 hl (by decide) rfl (fun ls hl => ?_)
    refine lv_aload_n hx hb dL_law_1939 rfl (lv_at hl 3 rfl) ?_
    refine lv_aload_n hx hb dL_law_1940 rfl (lv_at hl 5 rfl) ?_
    refine lv_iload hx hb dL_law_1941 (lv_at hl 1 rfl) ?_
    refine q_con hx hb dL_law_1943 ?_
    refine q_add hx hb dL_law_1944 ?_
    refine r_xld hx hb hX hbl hbA hS (i := i + 1) (z := x1) (by omega) hL ex1 dL_law_1945 ?_
    refine lv_aload_n hx hb dL_law_1946 rfl (lv_at hl 5 rfl) ?_
    refine lv_iload hx hb dL_law_1947 (lv_at hl 1 rfl) ?_
    refine q_con hx hb dL_law_1949 ?_
    refine q_add hx hb dL_law_1950 ?_
    refine r_xld hx hb hX hbl hbA hS (i := i + 2) (z := x2) (by omega) hL ex2 dL_law_1951 ?_
    refine c_Vr (As := [.int (iI x1), .int (iI x2)]) (rest := []) (b := w 0) (C := RX3) (r := some (.int (iI 0))) (st1 := [.int (iI 0)]) fx hl (mno1_wholeMonths θ l S0 _ w r q dt sv th bc rf kn hm1 x1 x2 (by first | assumption | omega | (dsimp only; first | assumption | omega) | exact Hid.mk (by first | assumption | omega) | exact Hid.mk ⟨fun _ => by first | assumption | omega, fun _ => by first | assumption | omega⟩) (by first | assumption | omega | (dsimp only; first | assumption | omega) | exact Hid.mk (by first | assumption | omega) | exact Hid.mk ⟨fun _ => by first | assumption | omega, fun _ => by first | assumption | omega⟩) (by first | assumption | omega | (dsimp only; first | assumption | omega) | exact Hid.mk (by first | assumption | omega) | exact Hid.mk ⟨fun _ => by first | assumption | omega, fun _ => by first | assumption | omega⟩)) (ob_recv hK hm1.2.2.1.1 rfl) dL_law_1952 k1540 k1541 k1542 k6 k1543 hd_X3_wholeMonths rfl rfl ⟨by omega, by omega⟩ (Nat.le_of_ble_eq_true rfl) ⟨by (try dsimp only); omega, by (try dsimp only); omega⟩ hS (wa_b hm1.2.1 hzH1.2.1) (fun H7 locs hpH7 hszH7 hkH7 hS => ?_)
    obtain ⟨r1, q1, hm2, nr, nq⟩ := hpH7
    have hzH2 := hz0.at hAB hS
    have hL2 := lw_mod hLX hzH2 hu hcw ho1 hfr hfq hm2 nr nq hkH7
    refine lv_istore (lv' := [(6, .int (iI 0)), (5, .int (iI 1)), (4, .int (iI i)), (3, .ref o), (2, .ref (w 0)), (1, .ref (u 0)), (0, .ref b)]) hx hb dL_law_1955 hl (by decide) rfl (fun ls hl => ?_)
    refine lv_goto (tgt := 2331) hx hb dL_law_1957 (by decide) ?_
    exact kk _ _ _ _ _ ⟨_, _, _, _, _, _, _, _, _, _, hL2⟩ hS (by omega) (by omega) (lv_sub hl [2, 3, 4, 5, 6] rfl)

set_option maxHeartbeats 4000000 in
set_option maxRecDepth 100000 in
theorem lc_year {p : Program} {l : Launch} {e : Env} {R : Room} {s : State} {m : MethodId} {args : Array Value} {below : List Frame} {meth : Method} {c : Code} {Q : State → Prop} {θ : TH} {S0 : State} (fx : FX p m c cL_law 7 s args yL_law.cls S0) (hl0 : l.stackTraces = false) (hz0 : SZ θ S0 s.heap) (hj0 : SJ θ S0 s.heap) (hn : NX S0) {u w : Nat → Nat} {o b L : Nat} {xs : Nat → Int32} (hLX : LX u w o) (hoθ : θ.2.2.2 ≤ o) (hX : va_X b L xs s s.heap) (hbl : b < s.heap.size) (hbA : ¬ AJ θ b) (hL : L ≤ 2560) (hRF : 1000 ≤ R.frames ∧ 1000 ≤ R.locals) {H : Heap} {locs : List Loc} {cells slots : Nat} {ls : Array Slot} {i : Int} (hi : 0 ≤ i ∧ i + 5 ≤ (L : Int)) (hw : LWE θ S0 u w o H) (hS : va_S (AJ θ) s.heap H locs) (hRc : cells + 400 ≤ R.cells ∧ slots + 7000 ≤ R.slots) (hl : lv_has ls 7 [(4, .int (iI i)), (3, .ref o), (2, .ref (w 0)), (1, .ref (u 0)), (0, .ref b)]) (kk : LK p l e R s m args below meth c Q θ S0 u w o b i cells slots 2331) : W p l e R s m args below meth c H locs cells slots Q (F0 m 1960 ls []) := by
  obtain ⟨hx, hb, hml, hown, hts⟩ := id fx.1
  have hAB : ∀ x : Nat, AJ θ x → θ.2.2.2 ≤ x := fun _ h => h
  obtain ⟨r, q, dt, sv, th, bc, rf, kn, nv, sv9, hw⟩ := hw
  obtain ⟨hcr, hmr, ho, hfr, hfq⟩ := id hw
  have hzH := hz0.at hAB hS
  have hjH := hj0.at hAB hS
  have hK := sz_K fx.2 hz0
  have hu := hcr.2.1
  obtain ⟨x1, ex1⟩ : ∃ z : Int, z = (xs (i + 1).toNat).toInt := ⟨_, rfl⟩
  have bx1 := x32_b ex1
  by_cases hc1 : 0 ≤ x1 ∧ x1 < 6
  · refine lv_aload_n hx hb dL_law_1960 rfl (lv_at hl 3 rfl) ?_
    refine lv_aload_n hx hb dL_law_1961 rfl (lv_at hl 4 rfl) ?_
    refine lv_iload hx hb dL_law_1962 (lv_at hl 0 rfl) ?_
    refine q_con hx hb dL_law_1964 ?_
    refine q_add hx hb dL_law_1965 ?_
    refine r_xld hx hb hX hbl hbA hS (i := i + 1) (z := x1) (by omega) hL ex1 dL_law_1966 ?_
    refine lv_aload_n hx hb dL_law_1967 rfl (lv_at hl 1 rfl) ?_
    refine c_SWr (As := [.ref (u 0), .int (iI x1), .ref o]) (rest := []) (r := .int (iI 0)) fx hl (wr_year θ l hl0 S0 _ u dt (fun j => sv j 0) (fun j => sv j 1) (fun j => sv j 2) bc rf kn hcr hjH hn o nv sv9 ho hLX.1 x1 (by first | assumption | omega | (dsimp only; first | assumption | omega) | exact Hid.mk (by first | assumption | omega) | exact Hid.mk ⟨fun _ => by first | assumption | omega, fun _ => by first | assumption | omega⟩) (by first | assumption | omega | (dsimp only; first | assumption | omega) | exact Hid.mk (by first | assumption | omega) | exact Hid.mk ⟨fun _ => by first | assumption | omega, fun _ => by first | assumption | omega⟩)) dL_law_1968 k1006 k1007 k0 k1008 hd_L_year rfl ⟨by omega, by omega⟩ (Nat.le_of_ble_eq_true rfl) ⟨by (try dsimp only); omega, by (try dsimp only); omega⟩ hS (fun x h => h.elim (fun h => h.elim (fun ⟨j, hj, e⟩ => e ▸ hu.2 j hj) (fun h => Nat.le_trans hzH.2.1 h)) (fun e => e ▸ hoθ)) (fun H1 locs hpH1 hszH1 hkH1 hS => ?_)
    obtain ⟨hcw, ho1⟩ := hpH1
    have hzH1 := hz0.at hAB hS
    have hjH1 := hj0.at hAB hS
    have hm1 := lw_cls hLX hw hzH1 hkH1
    refine lv_istore (lv' := [(5, .int (iI 0)), (4, .int (iI i)), (3, .ref o), (2, .ref (w 0)), (1, .ref (u 0)), (0, .ref b)]) hx hb dL_law_1971 hl (by decide) rfl (fun ls hl => ?_)
    refine lv_aload_n hx hb dL_law_1973 rfl (lv_at hl 3 rfl) ?_
    refine lv_aload_n hx hb dL_law_1974 rfl (lv_at hl 5 rfl) ?_
    refine lv_iload hx hb dL_law_1975 (lv_at hl 1 rfl) ?_
    refine q_con hx hb dL_law_1977 ?_
    refine q_add hx hb dL_law_1978 ?_
    refine r_xld hx hb hX hbl hbA hS (i := i + 1) (z := x1) (by omega) hL ex1 dL_law_1979 ?_
    refine c_Vr (As := [.int (iI x1)]) (rest := []) (b := w 0) (C := RX3) (r := some (.int (iI (mI (dt x1.toNat) / 12)))) (st1 := [.int (iI (mI (dt x1.toNat) / 12))]) fx hl (mok_year θ l S0 _ w r q dt sv th bc rf kn hm1 x1 (by first | assumption | omega | (dsimp only; first | assumption | omega) | exact Hid.mk (by first | assumption | omega) | exact Hid.mk ⟨fun _ => by first | assumption | omega, fun _ => by first | assumption | omega⟩) (by first | assumption | omega | (dsimp only; first | assumption | omega) | exact Hid.mk (by first | assumption | omega) | exact Hid.mk ⟨fun _ => by first | assumption | omega, fun _ => by first | assumption | omega⟩)) (ob_recv hK hm1.2.2.1.1 rfl) dL_law_1980 k1548 k1549 k1550 k6 k1551 hd_X3_year rfl rfl ⟨by omega, by omega⟩ (Nat.le_of_ble_eq_true rfl) ⟨by (try dsimp only); omega, by (try dsimp only); omega⟩ hS (wa_b hm1.2.1 hzH1.2.1) (fun H2 locs hpH2 hszH2 hkH2 hS => ?_)
    obtain ⟨r1, q1, hm2, nr, nq⟩ := hpH2
    have hzH2 := hz0.at hAB hS
    have hL2 := lw_mod hLX hzH2 hu hcw ho1 hfr hfq hm2 nr nq hkH2
    refine q_nm (fun z3 ez3 => ?_)
    refine lv_istore (lv' := [(6, .int (iI z3)), (5, .int (iI 0)), (4, .int (iI i)), (3, .ref o), (2, .ref (w 0)), (1, .ref (u 0)), (0, .ref b)]) hx hb dL_law_1983 hl (by decide) rfl (fun ls hl => ?_)
    refine lv_goto (tgt := 2331) hx hb dL_law_1985 (by decide) ?_
    exact kk _ _ _ _ _ ⟨_, _, _, _, _, _, _, _, _, _, hL2⟩ hS (by omega) (by omega) (lv_sub hl [2, 3, 4, 5, 6] rfl)
  · refine lv_aload_n hx hb dL_law_1960 rfl (lv_at hl 3 rfl) ?_
    refine lv_aload_n hx hb dL_law_1961 rfl (lv_at hl 4 rfl) ?_
    refine lv_iload hx hb dL_law_1962 (lv_at hl 0 rfl) ?_
    refine q_con hx hb dL_law_1964 ?_
    refine q_add hx hb dL_law_1965 ?_
    refine r_xld hx hb hX hbl hbA hS (i := i + 1) (z := x1) (by omega) hL ex1 dL_law_1966 ?_
    refine lv_aload_n hx hb dL_law_1967 rfl (lv_at hl 1 rfl) ?_
    refine c_SWr (As := [.ref (u 0), .int (iI x1), .ref o]) (rest := []) (r := .int (iI 1)) fx hl (wn1_year θ l hl0 S0 _ u dt (fun j => sv j 0) (fun j => sv j 1) (fun j => sv j 2) bc rf kn hcr hjH hn o nv sv9 ho hLX.1 x1 (by first | assumption | omega | (dsimp only; first | assumption | omega) | exact Hid.mk (by first | assumption | omega) | exact Hid.mk ⟨fun _ => by first | assumption | omega, fun _ => by first | assumption | omega⟩) (by first | assumption | omega | (dsimp only; first | assumption | omega) | exact Hid.mk (by first | assumption | omega) | exact Hid.mk ⟨fun _ => by first | assumption | omega, fun _ => by first | assumption | omega⟩)) dL_law_1968 k1006 k1007 k0 k1008 hd_L_year rfl ⟨by omega, by omega⟩ (Nat.le_of_ble_eq_true rfl) ⟨by (try dsimp only); omega, by (try dsimp only); omega⟩ hS (fun x h => h.elim (fun h => h.elim (fun ⟨j, hj, e⟩ => e ▸ hu.2 j hj) (fun h => Nat.le_trans hzH.2.1 h)) (fun e => e ▸ hoθ)) (fun H4 locs hpH4 hszH4 hkH4 hS => ?_)
    obtain ⟨hcw, ho1⟩ := hpH4
    have hzH1 := hz0.at hAB hS
    have hjH1 := hj0.at hAB hS
    have hm1 := lw_cls hLX hw hzH1 hkH4
    refine lv_istore (lv' := [(5, .int (iI 1)), (4, .int (iI i)), (3, .ref o), (2, .ref (w 0)), (1, .ref (u 0)), (0, .ref b)]) hx hb dL_law_1971 hl (by decide) rfl (fun ls hl => ?_)
    refine lv_aload_n hx hb dL_law_1973 rfl (lv_at hl 3 rfl) ?_
    refine lv_aload_n hx hb dL_law_1974 rfl (lv_at hl 5 rfl) ?_
    refine lv_iload hx hb dL_law_1975 (lv_at hl 1 rfl) ?_
    refine q_con hx hb dL_law_1977 ?_
    refine q_add hx hb dL_law_1978 ?_
    refine r_xld hx hb hX hbl hbA hS (i := i + 1) (z := x1) (by omega) hL ex1 dL_law_1979 ?_
    refine c_Vr (As := [.int (iI x1)]) (rest := []) (b := w 0) (C := RX3) (r := some (.int (iI 0))) (st1 := [.int (iI 0)]) fx hl (mno1_year θ l S0 _ w r q dt sv th bc rf kn hm1 x1 (by first | assumption | omega | (dsimp only; first | assumption | omega) | exact Hid.mk (by first | assumption | omega) | exact Hid.mk ⟨fun _ => by first | assumption | omega, fun _ => by first | assumption | omega⟩) (by first | assumption | omega | (dsimp only; first | assumption | omega) | exact Hid.mk (by first | assumption | omega) | exact Hid.mk ⟨fun _ => by first | assumption | omega, fun _ => by first | assumption | omega⟩)) (ob_recv hK hm1.2.2.1.1 rfl) dL_law_1980 k1548 k1549 k1550 k6 k1551 hd_X3_year rfl rfl ⟨by omega, by omega⟩ (Nat.le_of_ble_eq_true rfl) ⟨by (try dsimp only); omega, by (try dsimp only); omega⟩ hS (wa_b hm1.2.1 hzH1.2.1) (fun H5 locs hpH5 hszH5 hkH5 hS => ?_)
    obtain ⟨r1, q1, hm2, nr, nq⟩ := hpH5
    have hzH2 := hz0.at hAB hS
    have hL2 := lw_mod hLX hzH2 hu hcw ho1 hfr hfq hm2 nr nq hkH5
    refine lv_istore (lv' := [(6, .int (iI 0)), (5, .int (iI 1)), (4, .int (iI i)), (3, .ref o), (2, .ref (w 0)), (1, .ref (u 0)), (0, .ref b)]) hx hb dL_law_1983 hl (by decide) rfl (fun ls hl => ?_)
    refine lv_goto (tgt := 2331) hx hb dL_law_1985 (by decide) ?_
    exact kk _ _ _ _ _ ⟨_, _, _, _, _, _, _, _, _, _, hL2⟩ hS (by omega) (by omega) (lv_sub hl [2, 3, 4, 5, 6] rfl)

set_option maxHeartbeats 4000000 in
set_option maxRecDepth 100000 in
theorem lc_monthOfYear {p : Program} {l : Launch} {e : Env} {R : Room} {s : State} {m : MethodId} {args : Array Value} {below : List Frame} {meth : Method} {c : Code} {Q : State → Prop} {θ : TH} {S0 : State} (fx : FX p m c cL_law 7 s args yL_law.cls S0) (hl0 : l.stackTraces = false) (hz0 : SZ θ S0 s.heap) (hj0 : SJ θ S0 s.heap) (hn : NX S0) {u w : Nat → Nat} {o b L : Nat} {xs : Nat → Int32} (hLX : LX u w o) (hoθ : θ.2.2.2 ≤ o) (hX : va_X b L xs s s.heap) (hbl : b < s.heap.size) (hbA : ¬ AJ θ b) (hL : L ≤ 2560) (hRF : 1000 ≤ R.frames ∧ 1000 ≤ R.locals) {H : Heap} {locs : List Loc} {cells slots : Nat} {ls : Array Slot} {i : Int} (hi : 0 ≤ i ∧ i + 5 ≤ (L : Int)) (hw : LWE θ S0 u w o H) (hS : va_S (AJ θ) s.heap H locs) (hRc : cells + 400 ≤ R.cells ∧ slots + 7000 ≤ R.slots) (hl : lv_has ls 7 [(4, .int (iI i)), (3, .ref o), (2, .ref (w 0)), (1, .ref (u 0)), (0, .ref b)]) (kk : LK p l e R s m args below meth c Q θ S0 u w o b i cells slots 2331) : W p l e R s m args below meth c H locs cells slots Q (F0 m 1988 ls []) := by
  obtain ⟨hx, hb, hml, hown, hts⟩ := id fx.1
  have hAB : ∀ x : Nat, AJ θ x → θ.2.2.2 ≤ x := fun _ h => h
  obtain ⟨r, q, dt, sv, th, bc, rf, kn, nv, sv9, hw⟩ := hw
  obtain ⟨hcr, hmr, ho, hfr, hfq⟩ := id hw
  have hzH := hz0.at hAB hS
  have hjH := hj0.at hAB hS
  have hK := sz_K fx.2 hz0
  have hu := hcr.2.1
  obtain ⟨x1, ex1⟩ : ∃ z : Int, z = (xs (i + 1).toNat).toInt := ⟨_, rfl⟩
  have bx1 := x32_b ex1
  by_cases hc1 : 0 ≤ x1 ∧ x1 < 6
  · refine lv_aload_n hx hb dL_law_1988 rfl (lv_at hl 3 rfl) ?_
    refine lv_aload_n hx hb dL_law_1989 rfl (lv_at hl 4 rfl) ?_
    refine lv_iload hx hb dL_law_1990 (lv_at hl 0 rfl) ?_
    refine q_con hx hb dL_law_1992 ?_
    refine q_add hx hb dL_law_1993 ?_
    refine r_xld hx hb hX hbl hbA hS (i := i + 1) (z := x1) (by omega) hL ex1 dL_law_1994 ?_
    refine lv_aload_n hx hb dL_law_1995 rfl (lv_at hl 1 rfl) ?_
    refine c_SWr (As := [.ref (u 0), .int (iI x1), .ref o]) (rest := []) (r := .int (iI 0)) fx hl (wr_monthOfYear θ l hl0 S0 _ u dt (fun j => sv j 0) (fun j => sv j 1) (fun j => sv j 2) bc rf kn hcr hjH hn o nv sv9 ho hLX.1 x1 (by first | assumption | omega | (dsimp only; first | assumption | omega) | exact Hid.mk (by first | assumption | omega) | exact Hid.mk ⟨fun _ => by first | assumption | omega, fun _ => by first | assumption | omega⟩) (by first | assumption | omega | (dsimp only; first | assumption | omega) | exact Hid.mk (by first | assumption | omega) | exact Hid.mk ⟨fun _ => by first | assumption | omega, fun _ => by first | assumption | omega⟩)) dL_law_1996 k1013 k1014 k0 k1015 hd_L_monthOfYear rfl ⟨by omega, by omega⟩ (Nat.le_of_ble_eq_true rfl) ⟨by (try dsimp only); omega, by (try dsimp only); omega⟩ hS (fun x h => h.elim (fun h => h.elim (fun ⟨j, hj, e⟩ => e ▸ hu.2 j hj) (fun h => Nat.le_trans hzH.2.1 h)) (fun e => e ▸ hoθ)) (fun H1 locs hpH1 hszH1 hkH1 hS => ?_)
    obtain ⟨hcw, ho1⟩ := hpH1
    have hzH1 := hz0.at hAB hS
    have hjH1 := hj0.at hAB hS
    have hm1 := lw_cls hLX hw hzH1 hkH1
    refine lv_istore (lv' := [(5, .int (iI 0)), (4, .int (iI i)), (3, .ref o), (2, .ref (w 0)), (1, .ref (u 0)), (0, .ref b)]) hx hb dL_law_1999 hl (by decide) rfl (fun ls hl => ?_)
    refine lv_aload_n hx hb dL_law_2001 rfl (lv_at hl 3 rfl) ?_
    refine lv_aload_n hx hb dL_law_2002 rfl (lv_at hl 5 rfl) ?_
    refine lv_iload hx hb dL_law_2003 (lv_at hl 1 rfl) ?_
    refine q_con hx hb dL_law_2005 ?_
    refine q_add hx hb dL_law_2006 ?_
    refine r_xld hx hb hX hbl hbA hS (i := i + 1) (z := x1) (by omega) hL ex1 dL_law_2007 ?_
    refine c_Vr (As := [.int (iI x1)]) (rest := []) (b := w 0) (C := RX3) (r := some (.int (iI (mI (dt x1.toNat) % 12 + 1)))) (st1 := [.int (iI (mI (dt x1.toNat) % 12 + 1))]) fx hl (mok_monthOfYear θ l S0 _ w r q dt sv th bc rf kn hm1 x1 (by first | assumption | omega | (dsimp only; first | assumption | omega) | exact Hid.mk (by first | assumption | omega) | exact Hid.mk ⟨fun _ => by first | assumption | omega, fun _ => by first | assumption | omega⟩) (by first | assumption | omega | (dsimp only; first | assumption | omega) | exact Hid.mk (by first | assumption | omega) | exact Hid.mk ⟨fun _ => by first | assumption | omega, fun _ => by first | assumption | omega⟩)) (ob_recv hK hm1.2.2.1.1 rfl) dL_law_2008 k1552 k1553 k1554 k6 k1555 hd_X3_monthOfYear rfl rfl ⟨by omega, by omega⟩ (Nat.le_of_ble_eq_true rfl) ⟨by (try dsimp only); omega, by (try dsimp only); omega⟩ hS (wa_b hm1.2.1 hzH1.2.1) (fun H2 locs hpH2 hszH2 hkH2 hS => ?_)
    obtain ⟨r1, q1, hm2, nr, nq⟩ := hpH2
    have hzH2 := hz0.at hAB hS
    have hL2 := lw_mod hLX hzH2 hu hcw ho1 hfr hfq hm2 nr nq hkH2
    refine q_nm (fun z3 ez3 => ?_)
    refine lv_istore (lv' := [(6, .int (iI z3)), (5, .int (iI 0)), (4, .int (iI i)), (3, .ref o), (2, .ref (w 0)), (1, .ref (u 0)), (0, .ref b)]) hx hb dL_law_2011 hl (by decide) rfl (fun ls hl => ?_)
    refine lv_goto (tgt := 2331) hx hb dL_law_2013 (by decide) ?_
    exact kk _ _ _ _ _ ⟨_, _, _, _, _, _, _, _, _, _, hL2⟩ hS (by omega) (by omega) (lv_sub hl [2, 3, 4, 5, 6] rfl)
  · refine lv_aload_n hx hb dL_law_1988 rfl (lv_at hl 3 rfl) ?_
    refine lv_aload_n hx hb dL_law_1989 rfl (lv_at hl 4 rfl) ?_
    refine lv_iload hx hb dL_law_1990 (lv_at hl 0 rfl) ?_
    refine q_con hx hb dL_law_1992 ?_
    refine q_add hx hb dL_law_1993 ?_
    refine r_xld hx hb hX hbl hbA hS (i := i + 1) (z := x1) (by omega) hL ex1 dL_law_1994 ?_
    refine lv_aload_n hx hb dL_law_1995 rfl (lv_at hl 1 rfl) ?_
    refine c_SWr (As := [.ref (u 0), .int (iI x1), .ref o]) (rest := []) (r := .int (iI 1)) fx hl (wn1_monthOfYear θ l hl0 S0 _ u dt (fun j => sv j 0) (fun j => sv j 1) (fun j => sv j 2) bc rf kn hcr hjH hn o nv sv9 ho hLX.1 x1 (by first | assumption | omega | (dsimp only; first | assumption | omega) | exact Hid.mk (by first | assumption | omega) | exact Hid.mk ⟨fun _ => by first | assumption | omega, fun _ => by first | assumption | omega⟩) (by first | assumption | omega | (dsimp only; first | assumption | omega) | exact Hid.mk (by first | assumption | omega) | exact Hid.mk ⟨fun _ => by first | assumption | omega, fun _ => by first | assumption | omega⟩)) dL_law_1996 k1013 k1014 k0 k1015 hd_L_monthOfYear rfl ⟨by omega, by omega⟩ (Nat.le_of_ble_eq_true rfl) ⟨by (try dsimp only); omega, by (try dsimp only); omega⟩ hS (fun x h => h.elim (fun h => h.elim (fun ⟨j, hj, e⟩ => e ▸ hu.2 j hj) (fun h => Nat.le_trans hzH.2.1 h)) (fun e => e ▸ hoθ)) (fun H4 locs hpH4 hszH4 hkH4 hS => ?_)
    obtain ⟨hcw, ho1⟩ := hpH4
    have hzH1 := hz0.at hAB hS
    have hjH1 := hj0.at hAB hS
    have hm1 := lw_cls hLX hw hzH1 hkH4
    refine lv_istore (lv' := [(5, .int (iI 1)), (4, .int (iI i)), (3, .ref o), (2, .ref (w 0)), (1, .ref (u 0)), (0, .ref b)]) hx hb dL_law_1999 hl (by decide) rfl (fun ls hl => ?_)
    refine lv_aload_n hx hb dL_law_2001 rfl (lv_at hl 3 rfl) ?_
    refine lv_aload_n hx hb dL_law_2002 rfl (lv_at hl 5 rfl) ?_
    refine lv_iload hx hb dL_law_2003 (lv_at hl 1 rfl) ?_
    refine q_con hx hb dL_law_2005 ?_
    refine q_add hx hb dL_law_2006 ?_
    refine r_xld hx hb hX hbl hbA hS (i := i + 1) (z := x1) (by omega) hL ex1 dL_law_2007 ?_
    refine c_Vr (As := [.int (iI x1)]) (rest := []) (b := w 0) (C := RX3) (r := some (.int (iI 0))) (st1 := [.int (iI 0)]) fx hl (mno1_monthOfYear θ l S0 _ w r q dt sv th bc rf kn hm1 x1 (by first | assumption | omega | (dsimp only; first | assumption | omega) | exact Hid.mk (by first | assumption | omega) | exact Hid.mk ⟨fun _ => by first | assumption | omega, fun _ => by first | assumption | omega⟩) (by first | assumption | omega | (dsimp only; first | assumption | omega) | exact Hid.mk (by first | assumption | omega) | exact Hid.mk ⟨fun _ => by first | assumption | omega, fun _ => by first | assumption | omega⟩)) (ob_recv hK hm1.2.2.1.1 rfl) dL_law_2008 k1552 k1553 k1554 k6 k1555 hd_X3_monthOfYear rfl rfl ⟨by omega, by omega⟩ (Nat.le_of_ble_eq_true rfl) ⟨by (try dsimp only); omega, by (try dsimp only); omega⟩ hS (wa_b hm1.2.1 hzH1.2.1) (fun H5 locs hpH5 hszH5 hkH5 hS => ?_)
    obtain ⟨r1, q1, hm2, nr, nq⟩ := hpH5
    have hzH2 := hz0.at hAB hS
    have hL2 := lw_mod hLX hzH2 hu hcw ho1 hfr hfq hm2 nr nq hkH5
    refine lv_istore (lv' := [(6, .int (iI 0)), (5, .int (iI 1)), (4, .int (iI i)), (3, .ref o), (2, .ref (w 0)), (1, .ref (u 0)), (0, .ref b)]) hx hb dL_law_2011 hl (by decide) rfl (fun ls hl => ?_)
    refine lv_goto (tgt := 2331) hx hb dL_law_2013 (by decide) ?_
    exact kk _ _ _ _ _ ⟨_, _, _, _, _, _, _, _, _, _, hL2⟩ hS (by omega) (by omega) (lv_sub hl [2, 3, 4, 5, 6] rfl)

set_option maxHeartbeats 4000000 in
set_option maxRecDepth 100000 in
theorem lc_day {p : Program} {l : Launch} {e : Env} {R : Room} {s : State} {m : MethodId} {args : Array Value} {below : List Frame} {meth : Method} {c : Code} {Q : State → Prop} {θ : TH} {S0 : State} (fx : FX p m c cL_law 7 s args yL_law.cls S0) (hl0 : l.stackTraces = false) (hz0 : SZ θ S0 s.heap) (hj0 : SJ θ S0 s.heap) (hn : NX S0) {u w : Nat → Nat} {o b L : Nat} {xs : Nat → Int32} (hLX : LX u w o) (hoθ : θ.2.2.2 ≤ o) (hX : va_X b L xs s s.heap) (hbl : b < s.heap.size) (hbA : ¬ AJ θ b) (hL : L ≤ 2560) (hRF : 1000 ≤ R.frames ∧ 1000 ≤ R.locals) {H : Heap} {locs : List Loc} {cells slots : Nat} {ls : Array Slot} {i : Int} (hi : 0 ≤ i ∧ i + 5 ≤ (L : Int)) (hw : LWE θ S0 u w o H) (hS : va_S (AJ θ) s.heap H locs) (hRc : cells + 400 ≤ R.cells ∧ slots + 7000 ≤ R.slots) (hl : lv_has ls 7 [(4, .int (iI i)), (3, .ref o), (2, .ref (w 0)), (1, .ref (u 0)), (0, .ref b)]) (kk : LK p l e R s m args below meth c Q θ S0 u w o b i cells slots 2331) : W p l e R s m args below meth c H locs cells slots Q (F0 m 2016 ls []) := by
  obtain ⟨hx, hb, hml, hown, hts⟩ := id fx.1
  have hAB : ∀ x : Nat, AJ θ x → θ.2.2.2 ≤ x := fun _ h => h
  obtain ⟨r, q, dt, sv, th, bc, rf, kn, nv, sv9, hw⟩ := hw
  obtain ⟨hcr, hmr, ho, hfr, hfq⟩ := id hw
  have hzH := hz0.at hAB hS
  have hjH := hj0.at hAB hS
  have hK := sz_K fx.2 hz0
  have hu := hcr.2.1
  obtain ⟨x1, ex1⟩ : ∃ z : Int, z = (xs (i + 1).toNat).toInt := ⟨_, rfl⟩
  have bx1 := x32_b ex1
  by_cases hc1 : 0 ≤ x1 ∧ x1 < 6
  · refine lv_aload_n hx hb dL_law_2016 rfl (lv_at hl 3 rfl) ?_
    refine lv_aload_n hx hb dL_law_2017 rfl (lv_at hl 4 rfl) ?_
    refine lv_iload hx hb dL_law_2018 (lv_at hl 0 rfl) ?_
    refine q_con hx hb dL_law_2020 ?_
    refine q_add hx hb dL_law_2021 ?_
    refine r_xld hx hb hX hbl hbA hS (i := i + 1) (z := x1) (by omega) hL ex1 dL_law_2022 ?_
    refine lv_aload_n hx hb dL_law_2023 rfl (lv_at hl 1 rfl) ?_
    refine c_SWr (As := [.ref (u 0), .int (iI x1), .ref o]) (rest := []) (r := .int (iI 0)) fx hl (wr_day θ l hl0 S0 _ u dt (fun j => sv j 0) (fun j => sv j 1) (fun j => sv j 2) bc rf kn hcr hjH hn o nv sv9 ho hLX.1 x1 (by first | assumption | omega | (dsimp only; first | assumption | omega) | exact Hid.mk (by first | assumption | omega) | exact Hid.mk ⟨fun _ => by first | assumption | omega, fun _ => by first | assumption | omega⟩) (by first | assumption | omega | (dsimp only; first | assumption | omega) | exact Hid.mk (by first | assumption | omega) | exact Hid.mk ⟨fun _ => by first | assumption | omega, fun _ => by first | assumption | omega⟩)) dL_law_2024 k1020 k1021 k0 k1022 hd_L_day rfl ⟨by omega, by omega⟩ (Nat.le_of_ble_eq_true rfl) ⟨by (try dsimp only); omega, by (try dsimp only); omega⟩ hS (fun x h => h.elim (fun h => h.elim (fun ⟨j, hj, e⟩ => e ▸ hu.2 j hj) (fun h => Nat.le_trans hzH.2.1 h)) (fun e => e ▸ hoθ)) (fun H1 locs hpH1 hszH1 hkH1 hS => ?_)
    obtain ⟨hcw, ho1⟩ := hpH1
    have hzH1 := hz0.at hAB hS
    have hjH1 := hj0.at hAB hS
    have hm1 := lw_cls hLX hw hzH1 hkH1
    refine lv_istore (lv' := [(5, .int (iI 0)), (4, .int (iI i)), (3, .ref o), (2, .ref (w 0)), (1, .ref (u 0)), (0, .ref b)]) hx hb dL_law_2027 hl (by decide) rfl (fun ls hl => ?_)
    refine lv_aload_n hx hb dL_law_2029 rfl (lv_at hl 3 rfl) ?_
    refine lv_aload_n hx hb dL_law_2030 rfl (lv_at hl 5 rfl) ?_
    refine lv_iload hx hb dL_law_2031 (lv_at hl 1 rfl) ?_
    refine q_con hx hb dL_law_2033 ?_
    refine q_add hx hb dL_law_2034 ?_
    refine r_xld hx hb hX hbl hbA hS (i := i + 1) (z := x1) (by omega) hL ex1 dL_law_2035 ?_
    refine c_Vr (As := [.int (iI x1)]) (rest := []) (b := w 0) (C := RX3) (r := some (.int (iI (dI (dt x1.toNat))))) (st1 := [.int (iI (dI (dt x1.toNat)))]) fx hl (mok_day θ l S0 _ w r q dt sv th bc rf kn hm1 x1 (by first | assumption | omega | (dsimp only; first | assumption | omega) | exact Hid.mk (by first | assumption | omega) | exact Hid.mk ⟨fun _ => by first | assumption | omega, fun _ => by first | assumption | omega⟩) (by first | assumption | omega | (dsimp only; first | assumption | omega) | exact Hid.mk (by first | assumption | omega) | exact Hid.mk ⟨fun _ => by first | assumption | omega, fun _ => by first | assumption | omega⟩)) (ob_recv hK hm1.2.2.1.1 rfl) dL_law_2036 k1556 k1557 k1558 k6 k1559 hd_X3_day rfl rfl ⟨by omega, by omega⟩ (Nat.le_of_ble_eq_true rfl) ⟨by (try dsimp only); omega, by (try dsimp only); omega⟩ hS (wa_b hm1.2.1 hzH1.2.1) (fun H2 locs hpH2 hszH2 hkH2 hS => ?_)
    obtain ⟨r1, q1, hm2, nr, nq⟩ := hpH2
    have hzH2 := hz0.at hAB hS
    have hL2 := lw_mod hLX hzH2 hu hcw ho1 hfr hfq hm2 nr nq hkH2
    refine lv_istore (lv' := [(6, .int (iI (dI (dt x1.toNat)))), (5, .int (iI 0)), (4, .int (iI i)), (3, .ref o), (2, .ref (w 0)), (1, .ref (u 0)), (0, .ref b)]) hx hb dL_law_2039 hl (by decide) rfl (fun ls hl => ?_)
    refine lv_goto (tgt := 2331) hx hb dL_law_2041 (by decide) ?_
    exact kk _ _ _ _ _ ⟨_, _, _, _, _, _, _, _, _, _, hL2⟩ hS (by omega) (by omega) (lv_sub hl [2, 3, 4, 5, 6] rfl)
  · refine lv_aload_n hx hb dL_law_2016 rfl (lv_at hl 3 rfl) ?_
    refine lv_aload_n hx hb dL_law_2017 rfl (lv_at hl 4 rfl) ?_
    refine lv_iload hx hb dL_law_2018 (lv_at hl 0 rfl) ?_
    refine q_con hx hb dL_law_2020 ?_
    refine q_add hx hb dL_law_2021 ?_
    refine r_xld hx hb hX hbl hbA hS (i := i + 1) (z := x1) (by omega) hL ex1 dL_law_2022 ?_
    refine lv_aload_n hx hb dL_law_2023 rfl (lv_at hl 1 rfl) ?_
    refine c_SWr (As := [.ref (u 0), .int (iI x1), .ref o]) (rest := []) (r := .int (iI 1)) fx hl (wn1_day θ l hl0 S0 _ u dt (fun j => sv j 0) (fun j => sv j 1) (fun j => sv j 2) bc rf kn hcr hjH hn o nv sv9 ho hLX.1 x1 (by first | assumption | omega | (dsimp only; first | assumption | omega) | exact Hid.mk (by first | assumption | omega) | exact Hid.mk ⟨fun _ => by first | assumption | omega, fun _ => by first | assumption | omega⟩) (by first | assumption | omega | (dsimp only; first | assumption | omega) | exact Hid.mk (by first | assumption | omega) | exact Hid.mk ⟨fun _ => by first | assumption | omega, fun _ => by first | assumption | omega⟩)) dL_law_2024 k1020 k1021 k0 k1022 hd_L_day rfl ⟨by omega, by omega⟩ (Nat.le_of_ble_eq_true rfl) ⟨by (try dsimp only); omega, by (try dsimp only); omega⟩ hS (fun x h => h.elim (fun h => h.elim (fun ⟨j, hj, e⟩ => e ▸ hu.2 j hj) (fun h => Nat.le_trans hzH.2.1 h)) (fun e => e ▸ hoθ)) (fun H3 locs hpH3 hszH3 hkH3 hS => ?_)
    obtain ⟨hcw, ho1⟩ := hpH3
    have hzH1 := hz0.at hAB hS
    have hjH1 := hj0.at hAB hS
    have hm1 := lw_cls hLX hw hzH1 hkH3
    refine lv_istore (lv' := [(5, .int (iI 1)), (4, .int (iI i)), (3, .ref o), (2, .ref (w 0)), (1, .ref (u 0)), (0, .ref b)]) hx hb dL_law_2027 hl (by decide) rfl (fun ls hl => ?_)
    refine lv_aload_n hx hb dL_law_2029 rfl (lv_at hl 3 rfl) ?_
    refine lv_aload_n hx hb dL_law_2030 rfl (lv_at hl 5 rfl) ?_
    refine lv_iload hx hb dL_law_2031 (lv_at hl 1 rfl) ?_
    refine q_con hx hb dL_law_2033 ?_
    refine q_add hx hb dL_law_2034 ?_
    refine r_xld hx hb hX hbl hbA hS (i := i + 1) (z := x1) (by omega) hL ex1 dL_law_2035 ?_
    refine c_Vr (As := [.int (iI x1)]) (rest := []) (b := w 0) (C := RX3) (r := some (.int (iI 0))) (st1 := [.int (iI 0)]) fx hl (mno1_day θ l S0 _ w r q dt sv th bc rf kn hm1 x1 (by first | assumption | omega | (dsimp only; first | assumption | omega) | exact Hid.mk (by first | assumption | omega) | exact Hid.mk ⟨fun _ => by first | assumption | omega, fun _ => by first | assumption | omega⟩) (by first | assumption | omega | (dsimp only; first | assumption | omega) | exact Hid.mk (by first | assumption | omega) | exact Hid.mk ⟨fun _ => by first | assumption | omega, fun _ => by first | assumption | omega⟩)) (ob_recv hK hm1.2.2.1.1 rfl) dL_law_2036 k1556 k1557 k1558 k6 k1559 hd_X3_day rfl rfl ⟨by omega, by omega⟩ (Nat.le_of_ble_eq_true rfl) ⟨by (try dsimp only); omega, by (try dsimp only); omega⟩ hS (wa_b hm1.2.1 hzH1.2.1) (fun H4 locs hpH4 hszH4 hkH4 hS => ?_)
    obtain ⟨r1, q1, hm2, nr, nq⟩ := hpH4
    have hzH2 := hz0.at hAB hS
    have hL2 := lw_mod hLX hzH2 hu hcw ho1 hfr hfq hm2 nr nq hkH4
    refine lv_istore (lv' := [(6, .int (iI 0)), (5, .int (iI 1)), (4, .int (iI i)), (3, .ref o), (2, .ref (w 0)), (1, .ref (u 0)), (0, .ref b)]) hx hb dL_law_2039 hl (by decide) rfl (fun ls hl => ?_)
    refine lv_goto (tgt := 2331) hx hb dL_law_2041 (by decide) ?_
    exact kk _ _ _ _ _ ⟨_, _, _, _, _, _, _, _, _, _, hL2⟩ hS (by omega) (by omega) (lv_sub hl [2, 3, 4, 5, 6] rfl)

set_option maxHeartbeats 4000000 in
set_option maxRecDepth 100000 in
theorem lc_dayOfYear {p : Program} {l : Launch} {e : Env} {R : Room} {s : State} {m : MethodId} {args : Array Value} {below : List Frame} {meth : Method} {c : Code} {Q : State → Prop} {θ : TH} {S0 : State} (fx : FX p m c cL_law 7 s args yL_law.cls S0) (hl0 : l.stackTraces = false) (hz0 : SZ θ S0 s.heap) (hj0 : SJ θ S0 s.heap) (hn : NX S0) {u w : Nat → Nat} {o b L : Nat} {xs : Nat → Int32} (hLX : LX u w o) (hoθ : θ.2.2.2 ≤ o) (hX : va_X b L xs s s.heap) (hbl : b < s.heap.size) (hbA : ¬ AJ θ b) (hL : L ≤ 2560) (hRF : 1000 ≤ R.frames ∧ 1000 ≤ R.locals) {H : Heap} {locs : List Loc} {cells slots : Nat} {ls : Array Slot} {i : Int} (hi : 0 ≤ i ∧ i + 5 ≤ (L : Int)) (hw : LWE θ S0 u w o H) (hS : va_S (AJ θ) s.heap H locs) (hRc : cells + 400 ≤ R.cells ∧ slots + 7000 ≤ R.slots) (hl : lv_has ls 7 [(4, .int (iI i)), (3, .ref o), (2, .ref (w 0)), (1, .ref (u 0)), (0, .ref b)]) (kk : LK p l e R s m args below meth c Q θ S0 u w o b i cells slots 2331) : W p l e R s m args below meth c H locs cells slots Q (F0 m 2044 ls []) := by
  obtain ⟨hx, hb, hml, hown, hts⟩ := id fx.1
  have hAB : ∀ x : Nat, AJ θ x → θ.2.2.2 ≤ x := fun _ h => h
  obtain ⟨r, q, dt, sv, th, bc, rf, kn, nv, sv9, hw⟩ := hw
  obtain ⟨hcr, hmr, ho, hfr, hfq⟩ := id hw
  have hzH := hz0.at hAB hS
  have hjH := hj0.at hAB hS
  have hK := sz_K fx.2 hz0
  have hu := hcr.2.1
  obtain ⟨x1, ex1⟩ : ∃ z : Int, z = (xs (i + 1).toNat).toInt := ⟨_, rfl⟩
  have bx1 := x32_b ex1
  by_cases hc1 : 0 ≤ x1 ∧ x1 < 6
  · refine lv_aload_n hx hb dL_law_2044 rfl (lv_at hl 3 rfl) ?_
    refine lv_aload_n hx hb dL_law_2045 rfl (lv_at hl 4 rfl) ?_
    refine lv_iload hx hb dL_law_2046 (lv_at hl 0 rfl) ?_
    refine q_con hx hb dL_law_2048 ?_
    refine q_add hx hb dL_law_2049 ?_
    refine r_xld hx hb hX hbl hbA hS (i := i + 1) (z := x1) (by omega) hL ex1 dL_law_2050 ?_
    refine lv_aload_n hx hb dL_law_2051 rfl (lv_at hl 1 rfl) ?_
    refine c_SWr (As := [.ref (u 0), .int (iI x1), .ref o]) (rest := []) (r := .int (iI 0)) fx hl (wr_dayOfYear θ l hl0 S0 _ u dt (fun j => sv j 0) (fun j => sv j 1) (fun j => sv j 2) bc rf kn hcr hjH hn o nv sv9 ho hLX.1 x1 (by first | assumption | omega | (dsimp only; first | assumption | omega) | exact Hid.mk (by first | assumption | omega) | exact Hid.mk ⟨fun _ => by first | assumption | omega, fun _ => by first | assumption | omega⟩) (by first | assumption | omega | (dsimp only; first | assumption | omega) | exact Hid.mk (by first | assumption | omega) | exact Hid.mk ⟨fun _ => by first | assumption | omega, fun _ => by first | assumption | omega⟩)) dL_law_2052 k1024 k1025 k0 k1026 hd_L_dayOfYear rfl ⟨by omega, by omega⟩ (Nat.le_of_ble_eq_true rfl) ⟨by (try dsimp only); omega, by (try dsimp only); omega⟩ hS (fun x h => h.elim (fun h => h.elim (fun ⟨j, hj, e⟩ => e ▸ hu.2 j hj) (fun h => Nat.le_trans hzH.2.1 h)) (fun e => e ▸ hoθ)) (fun H1 locs hpH1 hszH1 hkH1 hS => ?_)
    obtain ⟨hcw, ho1⟩ := hpH1
    have hzH1 := hz0.at hAB hS
    have hjH1 := hj0.at hAB hS
    have hm1 := lw_cls hLX hw hzH1 hkH1
    refine lv_istore (lv' := [(5, .int (iI 0)), (4, .int (iI i)), (3, .ref o), (2, .ref (w 0)), (1, .ref (u 0)), (0, .ref b)]) hx hb dL_law_2055 hl (by decide) rfl (fun ls hl => ?_)
    refine lv_aload_n hx hb dL_law_2057 rfl (lv_at hl 3 rfl) ?_
    refine lv_aload_n hx hb dL_law_2058 rfl (lv_at hl 5 rfl) ?_
    refine lv_iload hx hb dL_law_2059 (lv_at hl 1 rfl) ?_
    refine q_con hx hb dL_law_2061 ?_
    refine q_add hx hb dL_law_2062 ?_
    refine r_xld hx hb hX hbl hbA hS (i := i + 1) (z := x1) (by omega) hL ex1 dL_law_2063 ?_
    refine c_Vr (As := [.int (iI x1)]) (rest := []) (b := w 0) (C := RX3) (r := some (.int (iI (dt x1.toNat - fI (12 * (mI (dt x1.toNat) / 12)) + 1)))) (st1 := [.int (iI (dt x1.toNat - fI (12 * (mI (dt x1.toNat) / 12)) + 1))]) fx hl (mok_dayOfYear θ l S0 _ w r q dt sv th bc rf kn hm1 x1 (by first | assumption | omega | (dsimp only; first | assumption | omega) | exact Hid.mk (by first | assumption | omega) | exact Hid.mk ⟨fun _ => by first | assumption | omega, fun _ => by first | assumption | omega⟩) (by first | assumption | omega | (dsimp only; first | assumption | omega) | exact Hid.mk (by first | assumption | omega) | exact Hid.mk ⟨fun _ => by first | assumption | omega, fun _ => by first | assumption | omega⟩)) (ob_recv hK hm1.2.2.1.1 rfl) dL_law_2064 k1560 k1561 k1562 k6 k1563 hd_X3_dayOfYear rfl rfl ⟨by omega, by omega⟩ (Nat.le_of_ble_eq_true rfl) ⟨by (try dsimp only); omega, by (try dsimp only); omega⟩ hS (wa_b hm1.2.1 hzH1.2.1) (fun H2 locs hpH2 hszH2 hkH2 hS => ?_)
    obtain ⟨r1, q1, hm2, nr, nq⟩ := hpH2
    have hzH2 := hz0.at hAB hS
    have hL2 := lw_mod hLX hzH2 hu hcw ho1 hfr hfq hm2 nr nq hkH2
    refine q_nm (fun z3 ez3 => ?_)
    refine lv_istore (lv' := [(6, .int (iI z3)), (5, .int (iI 0)), (4, .int (iI i)), (3, .ref o), (2, .ref (w 0)), (1, .ref (u 0)), (0, .ref b)]) hx hb dL_law_2067 hl (by decide) rfl (fun ls hl => ?_)
    refine lv_goto (tgt := 2331) hx hb dL_law_2069 (by decide) ?_
    exact kk _ _ _ _ _ ⟨_, _, _, _, _, _, _, _, _, _, hL2⟩ hS (by omega) (by omega) (lv_sub hl [2, 3, 4, 5, 6] rfl)
  · refine lv_aload_n hx hb dL_law_2044 rfl (lv_at hl 3 rfl) ?_
    refine lv_aload_n hx hb dL_law_2045 rfl (lv_at hl 4 rfl) ?_
    refine lv_iload hx hb dL_law_2046 (lv_at hl 0 rfl) ?_
    refine q_con hx hb dL_law_2048 ?_
    refine q_add hx hb dL_law_2049 ?_
    refine r_xld hx hb hX hbl hbA hS (i := i + 1) (z := x1) (by omega) hL ex1 dL_law_2050 ?_
    refine lv_aload_n hx hb dL_law_2051 rfl (lv_at hl 1 rfl) ?_
    refine c_SWr (As := [.ref (u 0), .int (iI x1), .ref o]) (rest := []) (r := .int (iI 1)) fx hl (wn1_dayOfYear θ l hl0 S0 _ u dt (fun j => sv j 0) (fun j => sv j 1) (fun j => sv j 2) bc rf kn hcr hjH hn o nv sv9 ho hLX.1 x1 (by first | assumption | omega | (dsimp only; first | assumption | omega) | exact Hid.mk (by first | assumption | omega) | exact Hid.mk ⟨fun _ => by first | assumption | omega, fun _ => by first | assumption | omega⟩) (by first | assumption | omega | (dsimp only; first | assumption | omega) | exact Hid.mk (by first | assumption | omega) | exact Hid.mk ⟨fun _ => by first | assumption | omega, fun _ => by first | assumption | omega⟩)) dL_law_2052 k1024 k1025 k0 k1026 hd_L_dayOfYear rfl ⟨by omega, by omega⟩ (Nat.le_of_ble_eq_true rfl) ⟨by (try dsimp only); omega, by (try dsimp only); omega⟩ hS (fun x h => h.elim (fun h => h.elim (fun ⟨j, hj, e⟩ => e ▸ hu.2 j hj) (fun h => Nat.le_trans hzH.2.1 h)) (fun e => e ▸ hoθ)) (fun H4 locs hpH4 hszH4 hkH4 hS => ?_)
    obtain ⟨hcw, ho1⟩ := hpH4
    have hzH1 := hz0.at hAB hS
    have hjH1 := hj0.at hAB hS
    have hm1 := lw_cls hLX hw hzH1 hkH4
    refine lv_istore (lv' := [(5, .int (iI 1)), (4, .int (iI i)), (3, .ref o), (2, .ref (w 0)), (1, .ref (u 0)), (0, .ref b)]) hx hb dL_law_2055 hl (by decide) rfl (fun ls hl => ?_)
    refine lv_aload_n hx hb dL_law_2057 rfl (lv_at hl 3 rfl) ?_
    refine lv_aload_n hx hb dL_law_2058 rfl (lv_at hl 5 rfl) ?_
    refine lv_iload hx hb dL_law_2059 (lv_at hl 1 rfl) ?_
    refine q_con hx hb dL_law_2061 ?_
    refine q_add hx hb dL_law_2062 ?_
    refine r_xld hx hb hX hbl hbA hS (i := i + 1) (z := x1) (by omega) hL ex1 dL_law_2063 ?_
    refine c_Vr (As := [.int (iI x1)]) (rest := []) (b := w 0) (C := RX3) (r := some (.int (iI 0))) (st1 := [.int (iI 0)]) fx hl (mno1_dayOfYear θ l S0 _ w r q dt sv th bc rf kn hm1 x1 (by first | assumption | omega | (dsimp only; first | assumption | omega) | exact Hid.mk (by first | assumption | omega) | exact Hid.mk ⟨fun _ => by first | assumption | omega, fun _ => by first | assumption | omega⟩) (by first | assumption | omega | (dsimp only; first | assumption | omega) | exact Hid.mk (by first | assumption | omega) | exact Hid.mk ⟨fun _ => by first | assumption | omega, fun _ => by first | assumption | omega⟩)) (ob_recv hK hm1.2.2.1.1 rfl) dL_law_2064 k1560 k1561 k1562 k6 k1563 hd_X3_dayOfYear rfl rfl ⟨by omega, by omega⟩ (Nat.le_of_ble_eq_true rfl) ⟨by (try dsimp only); omega, by (try dsimp only); omega⟩ hS (wa_b hm1.2.1 hzH1.2.1) (fun H5 locs hpH5 hszH5 hkH5 hS => ?_)
    obtain ⟨r1, q1, hm2, nr, nq⟩ := hpH5
    have hzH2 := hz0.at hAB hS
    have hL2 := lw_mod hLX hzH2 hu hcw ho1 hfr hfq hm2 nr nq hkH5
    refine lv_istore (lv' := [(6, .int (iI 0)), (5, .int (iI 1)), (4, .int (iI i)), (3, .ref o), (2, .ref (w 0)), (1, .ref (u 0)), (0, .ref b)]) hx hb dL_law_2067 hl (by decide) rfl (fun ls hl => ?_)
    refine lv_goto (tgt := 2331) hx hb dL_law_2069 (by decide) ?_
    exact kk _ _ _ _ _ ⟨_, _, _, _, _, _, _, _, _, _, hL2⟩ hS (by omega) (by omega) (lv_sub hl [2, 3, 4, 5, 6] rfl)

set_option maxHeartbeats 4000000 in
set_option maxRecDepth 100000 in
theorem lc_number {p : Program} {l : Launch} {e : Env} {R : Room} {s : State} {m : MethodId} {args : Array Value} {below : List Frame} {meth : Method} {c : Code} {Q : State → Prop} {θ : TH} {S0 : State} (fx : FX p m c cL_law 7 s args yL_law.cls S0) (hl0 : l.stackTraces = false) (hz0 : SZ θ S0 s.heap) (hj0 : SJ θ S0 s.heap) (hn : NX S0) {u w : Nat → Nat} {o b L : Nat} {xs : Nat → Int32} (hLX : LX u w o) (hoθ : θ.2.2.2 ≤ o) (hX : va_X b L xs s s.heap) (hbl : b < s.heap.size) (hbA : ¬ AJ θ b) (hL : L ≤ 2560) (hRF : 1000 ≤ R.frames ∧ 1000 ≤ R.locals) {H : Heap} {locs : List Loc} {cells slots : Nat} {ls : Array Slot} {i : Int} (hi : 0 ≤ i ∧ i + 5 ≤ (L : Int)) (hw : LWE θ S0 u w o H) (hS : va_S (AJ θ) s.heap H locs) (hRc : cells + 400 ≤ R.cells ∧ slots + 7000 ≤ R.slots) (hl : lv_has ls 7 [(4, .int (iI i)), (3, .ref o), (2, .ref (w 0)), (1, .ref (u 0)), (0, .ref b)]) (kk : LK p l e R s m args below meth c Q θ S0 u w o b i cells slots 2331) : W p l e R s m args below meth c H locs cells slots Q (F0 m 2072 ls []) := by
  obtain ⟨hx, hb, hml, hown, hts⟩ := id fx.1
  have hAB : ∀ x : Nat, AJ θ x → θ.2.2.2 ≤ x := fun _ h => h
  obtain ⟨r, q, dt, sv, th, bc, rf, kn, nv, sv9, hw⟩ := hw
  obtain ⟨hcr, hmr, ho, hfr, hfq⟩ := id hw
  have hzH := hz0.at hAB hS
  have hjH := hj0.at hAB hS
  have hK := sz_K fx.2 hz0
  have hu := hcr.2.1
  obtain ⟨x1, ex1⟩ : ∃ z : Int, z = (xs (i + 1).toNat).toInt := ⟨_, rfl⟩
  have bx1 := x32_b ex1
  by_cases hc1 : 0 ≤ x1 ∧ x1 < 6
  · refine lv_aload_n hx hb dL_law_2072 rfl (lv_at hl 3 rfl) ?_
    refine lv_aload_n hx hb dL_law_2073 rfl (lv_at hl 4 rfl) ?_
    refine lv_iload hx hb dL_law_2074 (lv_at hl 0 rfl) ?_
    refine q_con hx hb dL_law_2076 ?_
    refine q_add hx hb dL_law_2077 ?_
    refine r_xld hx hb hX hbl hbA hS (i := i + 1) (z := x1) (by omega) hL ex1 dL_law_2078 ?_
    refine lv_aload_n hx hb dL_law_2079 rfl (lv_at hl 1 rfl) ?_
    refine c_SWr (As := [.ref (u 0), .int (iI x1), .ref o]) (rest := []) (r := .int (iI 0)) fx hl (wr_number θ l hl0 S0 _ u dt (fun j => sv j 0) (fun j => sv j 1) (fun j => sv j 2) bc rf kn hcr hjH hn o nv sv9 ho hLX.1 x1 (by first | assumption | omega | (dsimp only; first | assumption | omega) | exact Hid.mk (by first | assumption | omega) | exact Hid.mk ⟨fun _ => by first | assumption | omega, fun _ => by first | assumption | omega⟩) (by first | assumption | omega | (dsimp only; first | assumption | omega) | exact Hid.mk (by first | assumption | omega) | exact Hid.mk ⟨fun _ => by first | assumption | omega, fun _ => by first | assumption | omega⟩)) dL_law_2080 k1028 k1029 k0 k1030 hd_L_number rfl ⟨by omega, by omega⟩ (Nat.le_of_ble_eq_true rfl) ⟨by (try dsimp only); omega, by (try dsimp only); omega⟩ hS (fun x h => h.elim (fun h => h.elim (fun ⟨j, hj, e⟩ => e ▸ hu.2 j hj) (fun h => Nat.le_trans hzH.2.1 h)) (fun e => e ▸ hoθ)) (fun H1 locs hpH1 hszH1 hkH1 hS => ?_)
    obtain ⟨hcw, ho1⟩ := hpH1
    have hzH1 := hz0.at hAB hS
    have hjH1 := hj0.at hAB hS
    have hm1 := lw_cls hLX hw hzH1 hkH1
    refine lv_istore (lv' := [(5, .int (iI 0)), (4, .int (iI i)), (3, .ref o), (2, .ref (w 0)), (1, .ref (u 0)), (0, .ref b)]) hx hb dL_law_2083 hl (by decide) rfl (fun ls hl => ?_)
    refine lv_aload_n hx hb dL_law_2085 rfl (lv_at hl 3 rfl) ?_
    refine lv_aload_n hx hb dL_law_2086 rfl (lv_at hl 5 rfl) ?_
    refine lv_iload hx hb dL_law_2087 (lv_at hl 1 rfl) ?_
    refine q_con hx hb dL_law_2089 ?_
    refine q_add hx hb dL_law_2090 ?_
    refine r_xld hx hb hX hbl hbA hS (i := i + 1) (z := x1) (by omega) hL ex1 dL_law_2091 ?_
    refine c_Vr (As := [.int (iI x1)]) (rest := []) (b := w 0) (C := RX3) (r := some (.int (iI (dt x1.toNat)))) (st1 := [.int (iI (dt x1.toNat))]) fx hl (mok_number θ l S0 _ w r q dt sv th bc rf kn hm1 x1 (by first | assumption | omega | (dsimp only; first | assumption | omega) | exact Hid.mk (by first | assumption | omega) | exact Hid.mk ⟨fun _ => by first | assumption | omega, fun _ => by first | assumption | omega⟩) (by first | assumption | omega | (dsimp only; first | assumption | omega) | exact Hid.mk (by first | assumption | omega) | exact Hid.mk ⟨fun _ => by first | assumption | omega, fun _ => by first | assumption | omega⟩)) (ob_recv hK hm1.2.2.1.1 rfl) dL_law_2092 k1568 k1569 k1570 k6 k1571 hd_X3_number rfl rfl ⟨by omega, by omega⟩ (Nat.le_of_ble_eq_true rfl) ⟨by (try dsimp only); omega, by (try dsimp only); omega⟩ hS (wa_b hm1.2.1 hzH1.2.1) (fun H2 locs hpH2 hszH2 hkH2 hS => ?_)
    obtain ⟨r1, q1, hm2, nr, nq⟩ := hpH2
    have hzH2 := hz0.at hAB hS
    have hL2 := lw_mod hLX hzH2 hu hcw ho1 hfr hfq hm2 nr nq hkH2
    refine lv_istore (lv' := [(6, .int (iI (dt x1.toNat))), (5, .int (iI 0)), (4, .int (iI i)), (3, .ref o), (2, .ref (w 0)), (1, .ref (u 0)), (0, .ref b)]) hx hb dL_law_2095 hl (by decide) rfl (fun ls hl => ?_)
    refine lv_goto (tgt := 2331) hx hb dL_law_2097 (by decide) ?_
    exact kk _ _ _ _ _ ⟨_, _, _, _, _, _, _, _, _, _, hL2⟩ hS (by omega) (by omega) (lv_sub hl [2, 3, 4, 5, 6] rfl)
  · refine lv_aload_n hx hb dL_law_2072 rfl (lv_at hl 3 rfl) ?_
    refine lv_aload_n hx hb dL_law_2073 rfl (lv_at hl 4 rfl) ?_
    refine lv_iload hx hb dL_law_2074 (lv_at hl 0 rfl) ?_
    refine q_con hx hb dL_law_2076 ?_
    refine q_add hx hb dL_law_2077 ?_
    refine r_xld hx hb hX hbl hbA hS (i := i + 1) (z := x1) (by omega) hL ex1 dL_law_2078 ?_
    refine lv_aload_n hx hb dL_law_2079 rfl (lv_at hl 1 rfl) ?_
    refine c_SWr (As := [.ref (u 0), .int (iI x1), .ref o]) (rest := []) (r := .int (iI 1)) fx hl (wn1_number θ l hl0 S0 _ u dt (fun j => sv j 0) (fun j => sv j 1) (fun j => sv j 2) bc rf kn hcr hjH hn o nv sv9 ho hLX.1 x1 (by first | assumption | omega | (dsimp only; first | assumption | omega) | exact Hid.mk (by first | assumption | omega) | exact Hid.mk ⟨fun _ => by first | assumption | omega, fun _ => by first | assumption | omega⟩) (by first | assumption | omega | (dsimp only; first | assumption | omega) | exact Hid.mk (by first | assumption | omega) | exact Hid.mk ⟨fun _ => by first | assumption | omega, fun _ => by first | assumption | omega⟩)) dL_law_2080 k1028 k1029 k0 k1030 hd_L_number rfl ⟨by omega, by omega⟩ (Nat.le_of_ble_eq_true rfl) ⟨by (try dsimp only); omega, by (try dsimp only); omega⟩ hS (fun x h => h.elim (fun h => h.elim (fun ⟨j, hj, e⟩ => e ▸ hu.2 j hj) (fun h => Nat.le_trans hzH.2.1 h)) (fun e => e ▸ hoθ)) (fun H3 locs hpH3 hszH3 hkH3 hS => ?_)
    obtain ⟨hcw, ho1⟩ := hpH3
    have hzH1 := hz0.at hAB hS
    have hjH1 := hj0.at hAB hS
    have hm1 := lw_cls hLX hw hzH1 hkH3
    refine lv_istore (lv' := [(5, .int (iI 1)), (4, .int (iI i)), (3, .ref o), (2, .ref (w 0)), (1, .ref (u 0)), (0, .ref b)]) hx hb dL_law_2083 hl (by decide) rfl (fun ls hl => ?_)
    refine lv_aload_n hx hb dL_law_2085 rfl (lv_at hl 3 rfl) ?_
    refine lv_aload_n hx hb dL_law_2086 rfl (lv_at hl 5 rfl) ?_
    refine lv_iload hx hb dL_law_2087 (lv_at hl 1 rfl) ?_
    refine q_con hx hb dL_law_2089 ?_
    refine q_add hx hb dL_law_2090 ?_
    refine r_xld hx hb hX hbl hbA hS (i := i + 1) (z := x1) (by omega) hL ex1 dL_law_2091 ?_
    refine c_Vr (As := [.int (iI x1)]) (rest := []) (b := w 0) (C := RX3) (r := some (.int (iI 0))) (st1 := [.int (iI 0)]) fx hl (mno1_number θ l S0 _ w r q dt sv th bc rf kn hm1 x1 (by first | assumption | omega | (dsimp only; first | assumption | omega) | exact Hid.mk (by first | assumption | omega) | exact Hid.mk ⟨fun _ => by first | assumption | omega, fun _ => by first | assumption | omega⟩) (by first | assumption | omega | (dsimp only; first | assumption | omega) | exact Hid.mk (by first | assumption | omega) | exact Hid.mk ⟨fun _ => by first | assumption | omega, fun _ => by first | assumption | omega⟩)) (ob_recv hK hm1.2.2.1.1 rfl) dL_law_2092 k1568 k1569 k1570 k6 k1571 hd_X3_number rfl rfl ⟨by omega, by omega⟩ (Nat.le_of_ble_eq_true rfl) ⟨by (try dsimp only); omega, by (try dsimp only); omega⟩ hS (wa_b hm1.2.1 hzH1.2.1) (fun H4 locs hpH4 hszH4 hkH4 hS => ?_)
    obtain ⟨r1, q1, hm2, nr, nq⟩ := hpH4
    have hzH2 := hz0.at hAB hS
    have hL2 := lw_mod hLX hzH2 hu hcw ho1 hfr hfq hm2 nr nq hkH4
    refine lv_istore (lv' := [(6, .int (iI 0)), (5, .int (iI 1)), (4, .int (iI i)), (3, .ref o), (2, .ref (w 0)), (1, .ref (u 0)), (0, .ref b)]) hx hb dL_law_2095 hl (by decide) rfl (fun ls hl => ?_)
    refine lv_goto (tgt := 2331) hx hb dL_law_2097 (by decide) ?_
    exact kk _ _ _ _ _ ⟨_, _, _, _, _, _, _, _, _, _, hL2⟩ hS (by omega) (by omega) (lv_sub hl [2, 3, 4, 5, 6] rfl)

set_option maxHeartbeats 4000000 in
set_option maxRecDepth 100000 in
theorem lc_lengthOfMonth {p : Program} {l : Launch} {e : Env} {R : Room} {s : State} {m : MethodId} {args : Array Value} {below : List Frame} {meth : Method} {c : Code} {Q : State → Prop} {θ : TH} {S0 : State} (fx : FX p m c cL_law 7 s args yL_law.cls S0) (hl0 : l.stackTraces = false) (hz0 : SZ θ S0 s.heap) (hj0 : SJ θ S0 s.heap) (hn : NX S0) {u w : Nat → Nat} {o b L : Nat} {xs : Nat → Int32} (hLX : LX u w o) (hoθ : θ.2.2.2 ≤ o) (hX : va_X b L xs s s.heap) (hbl : b < s.heap.size) (hbA : ¬ AJ θ b) (hL : L ≤ 2560) (hRF : 1000 ≤ R.frames ∧ 1000 ≤ R.locals) {H : Heap} {locs : List Loc} {cells slots : Nat} {ls : Array Slot} {i : Int} (hi : 0 ≤ i ∧ i + 5 ≤ (L : Int)) (hw : LWE θ S0 u w o H) (hS : va_S (AJ θ) s.heap H locs) (hRc : cells + 400 ≤ R.cells ∧ slots + 7000 ≤ R.slots) (hl : lv_has ls 7 [(4, .int (iI i)), (3, .ref o), (2, .ref (w 0)), (1, .ref (u 0)), (0, .ref b)]) (kk : LK p l e R s m args below meth c Q θ S0 u w o b i cells slots 2331) : W p l e R s m args below meth c H locs cells slots Q (F0 m 2100 ls []) := by
  obtain ⟨hx, hb, hml, hown, hts⟩ := id fx.1
  have hAB : ∀ x : Nat, AJ θ x → θ.2.2.2 ≤ x := fun _ h => h
  obtain ⟨r, q, dt, sv, th, bc, rf, kn, nv, sv9, hw⟩ := hw
  obtain ⟨hcr, hmr, ho, hfr, hfq⟩ := id hw
  have hzH := hz0.at hAB hS
  have hjH := hj0.at hAB hS
  have hK := sz_K fx.2 hz0
  have hu := hcr.2.1
  obtain ⟨x1, ex1⟩ : ∃ z : Int, z = (xs (i + 1).toNat).toInt := ⟨_, rfl⟩
  have bx1 := x32_b ex1
  by_cases hc1 : 0 ≤ x1 ∧ x1 < 6
  · refine lv_aload_n hx hb dL_law_2100 rfl (lv_at hl 3 rfl) ?_
    refine lv_aload_n hx hb dL_law_2101 rfl (lv_at hl 4 rfl) ?_
    refine lv_iload hx hb dL_law_2102 (lv_at hl 0 rfl) ?_
    refine q_con hx hb dL_law_2104 ?_
    refine q_add hx hb dL_law_2105 ?_
    refine r_xld hx hb hX hbl hbA hS (i := i + 1) (z := x1) (by omega) hL ex1 dL_law_2106 ?_
    refine lv_aload_n hx hb dL_law_2107 rfl (lv_at hl 1 rfl) ?_
    refine c_SWr (As := [.ref (u 0), .int (iI x1), .ref o]) (rest := []) (r := .int (iI 0)) fx hl (wr_lengthOfMonth θ l hl0 S0 _ u dt (fun j => sv j 0) (fun j => sv j 1) (fun j => sv j 2) bc rf kn hcr hjH hn o nv sv9 ho hLX.1 x1 (by first | assumption | omega | (dsimp only; first | assumption | omega) | exact Hid.mk (by first | assumption | omega) | exact Hid.mk ⟨fun _ => by first | assumption | omega, fun _ => by first | assumption | omega⟩) (by first | assumption | omega | (dsimp only; first | assumption | omega) | exact Hid.mk (by first | assumption | omega) | exact Hid.mk ⟨fun _ => by first | assumption | omega, fun _ => by first | assumption | omega⟩)) dL_law_2108 k1032 k1033 k0 k1034 hd_L_lengthOfMonth rfl ⟨by omega, by omega⟩ (Nat.le_of_ble_eq_true rfl) ⟨by (try dsimp only); omega, by (try dsimp only); omega⟩ hS (fun x h => h.elim (fun h => h.elim (fun ⟨j, hj, e⟩ => e ▸ hu.2 j hj) (fun h => Nat.le_trans hzH.2.1 h)) (fun e => e ▸ hoθ)) (fun H1 locs hpH1 hszH1 hkH1 hS => ?_)
    obtain ⟨hcw, ho1⟩ := hpH1
    have hzH1 := hz0.at hAB hS
    have hjH1 := hj0.at hAB hS
    have hm1 := lw_cls hLX hw hzH1 hkH1
    refine lv_istore (lv' := [(5, .int (iI 0)), (4, .int (iI i)), (3, .ref o), (2, .ref (w 0)), (1, .ref (u 0)), (0, .ref b)]) hx hb dL_law_2111 hl (by decide) rfl (fun ls hl => ?_)
    refine lv_aload_n hx hb dL_law_2113 rfl (lv_at hl 3 rfl) ?_
    refine lv_aload_n hx hb dL_law_2114 rfl (lv_at hl 5 rfl) ?_
    refine lv_iload hx hb dL_law_2115 (lv_at hl 1 rfl) ?_
    refine q_con hx hb dL_law_2117 ?_
    refine q_add hx hb dL_law_2118 ?_
    refine r_xld hx hb hX hbl hbA hS (i := i + 1) (z := x1) (by omega) hL ex1 dL_law_2119 ?_
    refine c_Vr (As := [.int (iI x1)]) (rest := []) (b := w 0) (C := RX3) (r := some (.int (iI (fI (mI (dt x1.toNat) + 1) - fI (mI (dt x1.toNat)))))) (st1 := [.int (iI (fI (mI (dt x1.toNat) + 1) - fI (mI (dt x1.toNat))))]) fx hl (mok_lengthOfMonth θ l S0 _ w r q dt sv th bc rf kn hm1 x1 (by first | assumption | omega | (dsimp only; first | assumption | omega) | exact Hid.mk (by first | assumption | omega) | exact Hid.mk ⟨fun _ => by first | assumption | omega, fun _ => by first | assumption | omega⟩) (by first | assumption | omega | (dsimp only; first | assumption | omega) | exact Hid.mk (by first | assumption | omega) | exact Hid.mk ⟨fun _ => by first | assumption | omega, fun _ => by first | assumption | omega⟩)) (ob_recv hK hm1.2.2.1.1 rfl) dL_law_2120 k1572 k1573 k1574 k6 k1575 hd_X3_lengthOfMonth rfl rfl ⟨by omega, by omega⟩ (Nat.le_of_ble_eq_true rfl) ⟨by (try dsimp only); omega, by (try dsimp only); omega⟩ hS (wa_b hm1.2.1 hzH1.2.1) (fun H2 locs hpH2 hszH2 hkH2 hS => ?_)
    obtain ⟨r1, q1, hm2, nr, nq⟩ := hpH2
    have hzH2 := hz0.at hAB hS
    have hL2 := lw_mod hLX hzH2 hu hcw ho1 hfr hfq hm2 nr nq hkH2
    refine q_nm (fun z3 ez3 => ?_)
    refine lv_istore (lv' := [(6, .int (iI z3)), (5, .int (iI 0)), (4, .int (iI i)), (3, .ref o), (2, .ref (w 0)), (1, .ref (u 0)), (0, .ref b)]) hx hb dL_law_2123 hl (by decide) rfl (fun ls hl => ?_)
    refine lv_goto (tgt := 2331) hx hb dL_law_2125 (by decide) ?_
    exact kk _ _ _ _ _ ⟨_, _, _, _, _, _, _, _, _, _, hL2⟩ hS (by omega) (by omega) (lv_sub hl [2, 3, 4, 5, 6] rfl)
  · refine lv_aload_n hx hb dL_law_2100 rfl (lv_at hl 3 rfl) ?_
    refine lv_aload_n hx hb dL_law_2101 rfl (lv_at hl 4 rfl) ?_
    refine lv_iload hx hb dL_law_2102 (lv_at hl 0 rfl) ?_
    refine q_con hx hb dL_law_2104 ?_
    refine q_add hx hb dL_law_2105 ?_
    refine r_xld hx hb hX hbl hbA hS (i := i + 1) (z := x1) (by omega) hL ex1 dL_law_2106 ?_
    refine lv_aload_n hx hb dL_law_2107 rfl (lv_at hl 1 rfl) ?_
    refine c_SWr (As := [.ref (u 0), .int (iI x1), .ref o]) (rest := []) (r := .int (iI 1)) fx hl (wn1_lengthOfMonth θ l hl0 S0 _ u dt (fun j => sv j 0) (fun j => sv j 1) (fun j => sv j 2) bc rf kn hcr hjH hn o nv sv9 ho hLX.1 x1 (by first | assumption | omega | (dsimp only; first | assumption | omega) | exact Hid.mk (by first | assumption | omega) | exact Hid.mk ⟨fun _ => by first | assumption | omega, fun _ => by first | assumption | omega⟩) (by first | assumption | omega | (dsimp only; first | assumption | omega) | exact Hid.mk (by first | assumption | omega) | exact Hid.mk ⟨fun _ => by first | assumption | omega, fun _ => by first | assumption | omega⟩)) dL_law_2108 k1032 k1033 k0 k1034 hd_L_lengthOfMonth rfl ⟨by omega, by omega⟩ (Nat.le_of_ble_eq_true rfl) ⟨by (try dsimp only); omega, by (try dsimp only); omega⟩ hS (fun x h => h.elim (fun h => h.elim (fun ⟨j, hj, e⟩ => e ▸ hu.2 j hj) (fun h => Nat.le_trans hzH.2.1 h)) (fun e => e ▸ hoθ)) (fun H4 locs hpH4 hszH4 hkH4 hS => ?_)
    obtain ⟨hcw, ho1⟩ := hpH4
    have hzH1 := hz0.at hAB hS
    have hjH1 := hj0.at hAB hS
    have hm1 := lw_cls hLX hw hzH1 hkH4
    refine lv_istore (lv' := [(5, .int (iI 1)), (4, .int (iI i)), (3, .ref o), (2, .ref (w 0)), (1, .ref (u 0)), (0, .ref b)]) hx hb dL_law_2111 hl (by decide) rfl (fun ls hl => ?_)
    refine lv_aload_n hx hb dL_law_2113 rfl (lv_at hl 3 rfl) ?_
    refine lv_aload_n hx hb dL_law_2114 rfl (lv_at hl 5 rfl) ?_
    refine lv_iload hx hb dL_law_2115 (lv_at hl 1 rfl) ?_
    refine q_con hx hb dL_law_2117 ?_
    refine q_add hx hb dL_law_2118 ?_
    refine r_xld hx hb hX hbl hbA hS (i := i + 1) (z := x1) (by omega) hL ex1 dL_law_2119 ?_
    refine c_Vr (As := [.int (iI x1)]) (rest := []) (b := w 0) (C := RX3) (r := some (.int (iI 0))) (st1 := [.int (iI 0)]) fx hl (mno1_lengthOfMonth θ l S0 _ w r q dt sv th bc rf kn hm1 x1 (by first | assumption | omega | (dsimp only; first | assumption | omega) | exact Hid.mk (by first | assumption | omega) | exact Hid.mk ⟨fun _ => by first | assumption | omega, fun _ => by first | assumption | omega⟩) (by first | assumption | omega | (dsimp only; first | assumption | omega) | exact Hid.mk (by first | assumption | omega) | exact Hid.mk ⟨fun _ => by first | assumption | omega, fun _ => by first | assumption | omega⟩)) (ob_recv hK hm1.2.2.1.1 rfl) dL_law_2120 k1572 k1573 k1574 k6 k1575 hd_X3_lengthOfMonth rfl rfl ⟨by omega, by omega⟩ (Nat.le_of_ble_eq_true rfl) ⟨by (try dsimp only); omega, by (try dsimp only); omega⟩ hS (wa_b hm1.2.1 hzH1.2.1) (fun H5 locs hpH5 hszH5 hkH5 hS => ?_)
    obtain ⟨r1, q1, hm2, nr, nq⟩ := hpH5
    have hzH2 := hz0.at hAB hS
    have hL2 := lw_mod hLX hzH2 hu hcw ho1 hfr hfq hm2 nr nq hkH5
    refine lv_istore (lv' := [(6, .int (iI 0)), (5, .int (iI 1)), (4, .int (iI i)), (3, .ref o), (2, .ref (w 0)), (1, .ref (u 0)), (0, .ref b)]) hx hb dL_law_2123 hl (by decide) rfl (fun ls hl => ?_)
    refine lv_goto (tgt := 2331) hx hb dL_law_2125 (by decide) ?_
    exact kk _ _ _ _ _ ⟨_, _, _, _, _, _, _, _, _, _, hL2⟩ hS (by omega) (by omega) (lv_sub hl [2, 3, 4, 5, 6] rfl)

set_option maxHeartbeats 4000000 in
set_option maxRecDepth 100000 in
theorem lc_isLeapYear {p : Program} {l : Launch} {e : Env} {R : Room} {s : State} {m : MethodId} {args : Array Value} {below : List Frame} {meth : Method} {c : Code} {Q : State → Prop} {θ : TH} {S0 : State} (fx : FX p m c cL_law 7 s args yL_law.cls S0) (hl0 : l.stackTraces = false) (hz0 : SZ θ S0 s.heap) (hj0 : SJ θ S0 s.heap) (hn : NX S0) {u w : Nat → Nat} {o b L : Nat} {xs : Nat → Int32} (hLX : LX u w o) (hoθ : θ.2.2.2 ≤ o) (hX : va_X b L xs s s.heap) (hbl : b < s.heap.size) (hbA : ¬ AJ θ b) (hL : L ≤ 2560) (hRF : 1000 ≤ R.frames ∧ 1000 ≤ R.locals) {H : Heap} {locs : List Loc} {cells slots : Nat} {ls : Array Slot} {i : Int} (hi : 0 ≤ i ∧ i + 5 ≤ (L : Int)) (hw : LWE θ S0 u w o H) (hS : va_S (AJ θ) s.heap H locs) (hRc : cells + 400 ≤ R.cells ∧ slots + 7000 ≤ R.slots) (hl : lv_has ls 7 [(4, .int (iI i)), (3, .ref o), (2, .ref (w 0)), (1, .ref (u 0)), (0, .ref b)]) (kk : LK p l e R s m args below meth c Q θ S0 u w o b i cells slots 2331) : W p l e R s m args below meth c H locs cells slots Q (F0 m 2128 ls []) := by
  obtain ⟨hx, hb, hml, hown, hts⟩ := id fx.1
  have hAB : ∀ x : Nat, AJ θ x → θ.2.2.2 ≤ x := fun _ h => h
  obtain ⟨r, q, dt, sv, th, bc, rf, kn, nv, sv9, hw⟩ := hw
  obtain ⟨hcr, hmr, ho, hfr, hfq⟩ := id hw
  have hzH := hz0.at hAB hS
  have hjH := hj0.at hAB hS
  have hK := sz_K fx.2 hz0
  have hu := hcr.2.1
  obtain ⟨x1, ex1⟩ : ∃ z : Int, z = (xs (i + 1).toNat).toInt := ⟨_, rfl⟩
  have bx1 := x32_b ex1
  by_cases hc1 : 0 ≤ x1 ∧ x1 < 6
  · obtain ⟨r9, hr9⟩ := bex (lpI (mI (dt x1.toNat) / 12))
    refine lv_aload_n hx hb dL_law_2128 rfl (lv_at hl 3 rfl) ?_
    refine lv_aload_n hx hb dL_law_2129 rfl (lv_at hl 4 rfl) ?_
    refine lv_iload hx hb dL_law_2130 (lv_at hl 0 rfl) ?_
    refine q_con hx hb dL_law_2132 ?_
    refine q_add hx hb dL_law_2133 ?_
    refine r_xld hx hb hX hbl hbA hS (i := i + 1) (z := x1) (by omega) hL ex1 dL_law_2134 ?_
    refine lv_aload_n hx hb dL_law_2135 rfl (lv_at hl 1 rfl) ?_
    refine c_SWr (As := [.ref (u 0), .int (iI x1), .ref o]) (rest := []) (r := .int (iI 0)) fx hl (wr_isLeapYear θ l hl0 S0 _ u dt (fun j => sv j 0) (fun j => sv j 1) (fun j => sv j 2) bc rf kn hcr hjH hn o nv sv9 ho hLX.1 x1 r9 hr9 (by first | assumption | omega | (dsimp only; first | assumption | omega) | exact Hid.mk (by first | assumption | omega) | exact Hid.mk ⟨fun _ => by first | assumption | omega, fun _ => by first | assumption | omega⟩) (by first | assumption | omega | (dsimp only; first | assumption | omega) | exact Hid.mk (by first | assumption | omega) | exact Hid.mk ⟨fun _ => by first | assumption | omega, fun _ => by first | assumption | omega⟩)) dL_law_2136 k1036 k1037 k0 k1038 hd_L_isLeapYear rfl ⟨by omega, by omega⟩ (Nat.le_of_ble_eq_true rfl) ⟨by (try dsimp only); omega, by (try dsimp only); omega⟩ hS (fun x h => h.elim (fun h => h.elim (fun ⟨j, hj, e⟩ => e ▸ hu.2 j hj) (fun h => Nat.le_trans hzH.2.1 h)) (fun e => e ▸ hoθ)) (fun H1 locs hpH1 hszH1 hkH1 hS => ?_)
    obtain ⟨hcw, ho1⟩ := hpH1
    have hzH1 := hz0.at hAB hS
    have hjH1 := hj0.at hAB hS
    have hm1 := lw_cls hLX hw hzH1 hkH1
    refine lv_istore (lv' := [(5, .int (iI 0)), (4, .int (iI i)), (3, .ref o), (2, .ref (w 0)), (1, .ref (u 0)), (0, .ref b)]) hx hb dL_law_2139 hl (by decide) rfl (fun ls hl => ?_)
    refine lv_aload_n hx hb dL_law_2141 rfl (lv_at hl 3 rfl) ?_
    refine lv_aload_n hx hb dL_law_2142 rfl (lv_at hl 5 rfl) ?_
    refine lv_iload hx hb dL_law_2143 (lv_at hl 1 rfl) ?_
    refine q_con hx hb dL_law_2145 ?_
    refine q_add hx hb dL_law_2146 ?_
    refine r_xld hx hb hX hbl hbA hS (i := i + 1) (z := x1) (by omega) hL ex1 dL_law_2147 ?_
    refine c_Vr (As := [.int (iI x1)]) (rest := []) (b := w 0) (C := RX3) (r := some (.int (iI r9))) (st1 := [.int (iI r9)]) fx hl (mok_isLeapYear θ l S0 _ w r q dt sv th bc rf kn hm1 x1 r9 hr9 (by first | assumption | omega | (dsimp only; first | assumption | omega) | exact Hid.mk (by first | assumption | omega) | exact Hid.mk ⟨fun _ => by first | assumption | omega, fun _ => by first | assumption | omega⟩) (by first | assumption | omega | (dsimp only; first | assumption | omega) | exact Hid.mk (by first | assumption | omega) | exact Hid.mk ⟨fun _ => by first | assumption | omega, fun _ => by first | assumption | omega⟩)) (ob_recv hK hm1.2.2.1.1 rfl) dL_law_2148 k1576 k1577 k1578 k6 k1579 hd_X3_isLeapYear rfl rfl ⟨by omega, by omega⟩ (Nat.le_of_ble_eq_true rfl) ⟨by (try dsimp only); omega, by (try dsimp only); omega⟩ hS (wa_b hm1.2.1 hzH1.2.1) (fun H2 locs hpH2 hszH2 hkH2 hS => ?_)
    obtain ⟨r1, q1, hm2, nr, nq⟩ := hpH2
    have hzH2 := hz0.at hAB hS
    have hL2 := lw_mod hLX hzH2 hu hcw ho1 hfr hfq hm2 nr nq hkH2
    refine lv_istore (lv' := [(6, .int (iI r9)), (5, .int (iI 0)), (4, .int (iI i)), (3, .ref o), (2, .ref (w 0)), (1, .ref (u 0)), (0, .ref b)]) hx hb dL_law_2151 hl (by decide) rfl (fun ls hl => ?_)
    refine lv_goto (tgt := 2331) hx hb dL_law_2153 (by decide) ?_
    exact kk _ _ _ _ _ ⟨_, _, _, _, _, _, _, _, _, _, hL2⟩ hS (by omega) (by omega) (lv_sub hl [2, 3, 4, 5, 6] rfl)
  · refine lv_aload_n hx hb dL_law_2128 rfl (lv_at hl 3 rfl) ?_
    refine lv_aload_n hx hb dL_law_2129 rfl (lv_at hl 4 rfl) ?_
    refine lv_iload hx hb dL_law_2130 (lv_at hl 0 rfl) ?_
    refine q_con hx hb dL_law_2132 ?_
    refine q_add hx hb dL_law_2133 ?_
    refine r_xld hx hb hX hbl hbA hS (i := i + 1) (z := x1) (by omega) hL ex1 dL_law_2134 ?_
    refine lv_aload_n hx hb dL_law_2135 rfl (lv_at hl 1 rfl) ?_
    refine c_SWr (As := [.ref (u 0), .int (iI x1), .ref o]) (rest := []) (r := .int (iI 1)) fx hl (wn1_isLeapYear θ l hl0 S0 _ u dt (fun j => sv j 0) (fun j => sv j 1) (fun j => sv j 2) bc rf kn hcr hjH hn o nv sv9 ho hLX.1 x1 (by first | assumption | omega | (dsimp only; first | assumption | omega) | exact Hid.mk (by first | assumption | omega) | exact Hid.mk ⟨fun _ => by first | assumption | omega, fun _ => by first | assumption | omega⟩) (by first | assumption | omega | (dsimp only; first | assumption | omega) | exact Hid.mk (by first | assumption | omega) | exact Hid.mk ⟨fun _ => by first | assumption | omega, fun _ => by first | assumption | omega⟩)) dL_law_2136 k1036 k1037 k0 k1038 hd_L_isLeapYear rfl ⟨by omega, by omega⟩ (Nat.le_of_ble_eq_true rfl) ⟨by (try dsimp only); omega, by (try dsimp only); omega⟩ hS (fun x h => h.elim (fun h => h.elim (fun ⟨j, hj, e⟩ => e ▸ hu.2 j hj) (fun h => Nat.le_trans hzH.2.1 h)) (fun e => e ▸ hoθ)) (fun H3 locs hpH3 hszH3 hkH3 hS => ?_)
    obtain ⟨hcw, ho1⟩ := hpH3
    have hzH1 := hz0.at hAB hS
    have hjH1 := hj0.at hAB hS
    have hm1 := lw_cls hLX hw hzH1 hkH3
    refine lv_istore (lv' := [(5, .int (iI 1)), (4, .int (iI i)), (3, .ref o), (2, .ref (w 0)), (1, .ref (u 0)), (0, .ref b)]) hx hb dL_law_2139 hl (by decide) rfl (fun ls hl => ?_)
    refine lv_aload_n hx hb dL_law_2141 rfl (lv_at hl 3 rfl) ?_
    refine lv_aload_n hx hb dL_law_2142 rfl (lv_at hl 5 rfl) ?_
    refine lv_iload hx hb dL_law_2143 (lv_at hl 1 rfl) ?_
    refine q_con hx hb dL_law_2145 ?_
    refine q_add hx hb dL_law_2146 ?_
    refine r_xld hx hb hX hbl hbA hS (i := i + 1) (z := x1) (by omega) hL ex1 dL_law_2147 ?_
    refine c_Vr (As := [.int (iI x1)]) (rest := []) (b := w 0) (C := RX3) (r := some (.int (iI 0))) (st1 := [.int (iI 0)]) fx hl (mno1_isLeapYear θ l S0 _ w r q dt sv th bc rf kn hm1 x1 (by first | assumption | omega | (dsimp only; first | assumption | omega) | exact Hid.mk (by first | assumption | omega) | exact Hid.mk ⟨fun _ => by first | assumption | omega, fun _ => by first | assumption | omega⟩) (by first | assumption | omega | (dsimp only; first | assumption | omega) | exact Hid.mk (by first | assumption | omega) | exact Hid.mk ⟨fun _ => by first | assumption | omega, fun _ => by first | assumption | omega⟩)) (ob_recv hK hm1.2.2.1.1 rfl) dL_law_2148 k1576 k1577 k1578 k6 k1579 hd_X3_isLeapYear rfl rfl ⟨by omega, by omega⟩ (Nat.le_of_ble_eq_true rfl) ⟨by (try dsimp only); omega, by (try dsimp only); omega⟩ hS (wa_b hm1.2.1 hzH1.2.1) (fun H4 locs hpH4 hszH4 hkH4 hS => ?_)
    obtain ⟨r1, q1, hm2, nr, nq⟩ := hpH4
    have hzH2 := hz0.at hAB hS
    have hL2 := lw_mod hLX hzH2 hu hcw ho1 hfr hfq hm2 nr nq hkH4
    refine lv_istore (lv' := [(6, .int (iI 0)), (5, .int (iI 1)), (4, .int (iI i)), (3, .ref o), (2, .ref (w 0)), (1, .ref (u 0)), (0, .ref b)]) hx hb dL_law_2151 hl (by decide) rfl (fun ls hl => ?_)
    refine lv_goto (tgt := 2331) hx hb dL_law_2153 (by decide) ?_
    exact kk _ _ _ _ _ ⟨_, _, _, _, _, _, _, _, _, _, hL2⟩ hS (by omega) (by omega) (lv_sub hl [2, 3, 4, 5, 6] rfl)

set_option maxHeartbeats 4000000 in
set_option maxRecDepth 100000 in
theorem lc_text {p : Program} {l : Launch} {e : Env} {R : Room} {s : State} {m : MethodId} {args : Array Value} {below : List Frame} {meth : Method} {c : Code} {Q : State → Prop} {θ : TH} {S0 : State} (fx : FX p m c cL_law 7 s args yL_law.cls S0) (hl0 : l.stackTraces = false) (hz0 : SZ θ S0 s.heap) (hj0 : SJ θ S0 s.heap) (hn : NX S0) {u w : Nat → Nat} {o b L : Nat} {xs : Nat → Int32} (hLX : LX u w o) (hoθ : θ.2.2.2 ≤ o) (hX : va_X b L xs s s.heap) (hbl : b < s.heap.size) (hbA : ¬ AJ θ b) (hL : L ≤ 2560) (hRF : 1000 ≤ R.frames ∧ 1000 ≤ R.locals) {H : Heap} {locs : List Loc} {cells slots : Nat} {ls : Array Slot} {i : Int} (hi : 0 ≤ i ∧ i + 5 ≤ (L : Int)) (hw : LWE θ S0 u w o H) (hS : va_S (AJ θ) s.heap H locs) (hRc : cells + 400 ≤ R.cells ∧ slots + 7000 ≤ R.slots) (hl : lv_has ls 7 [(4, .int (iI i)), (3, .ref o), (2, .ref (w 0)), (1, .ref (u 0)), (0, .ref b)]) (kk : LK p l e R s m args below meth c Q θ S0 u w o b i cells slots 2331) : W p l e R s m args below meth c H locs cells slots Q (F0 m 2156 ls []) := by
  obtain ⟨hx, hb, hml, hown, hts⟩ := id fx.1
  have hAB : ∀ x : Nat, AJ θ x → θ.2.2.2 ≤ x := fun _ h => h
  obtain ⟨r, q, dt, sv, th, bc, rf, kn, nv, sv9, hw⟩ := hw
  obtain ⟨hcr, hmr, ho, hfr, hfq⟩ := id hw
  have hzH := hz0.at hAB hS
  have hjH := hj0.at hAB hS
  have hK := sz_K fx.2 hz0
  have hu := hcr.2.1
  obtain ⟨x1, ex1⟩ : ∃ z : Int, z = (xs (i + 1).toNat).toInt := ⟨_, rfl⟩
  have bx1 := x32_b ex1
  by_cases hc1 : 0 ≤ x1 ∧ x1 < 6
  · refine lv_aload_n hx hb dL_law_2156 rfl (lv_at hl 3 rfl) ?_
    refine lv_aload_n hx hb dL_law_2157 rfl (lv_at hl 4 rfl) ?_
    refine lv_iload hx hb dL_law_2158 (lv_at hl 0 rfl) ?_
    refine q_con hx hb dL_law_2160 ?_
    refine q_add hx hb dL_law_2161 ?_
    refine r_xld hx hb hX hbl hbA hS (i := i + 1) (z := x1) (by omega) hL ex1 dL_law_2162 ?_
    refine lv_aload_n hx hb dL_law_2163 rfl (lv_at hl 1 rfl) ?_
    refine c_SWr (As := [.ref (u 0), .int (iI x1), .ref o]) (rest := []) (r := .int (iI 0)) fx hl (wr_text θ l hl0 S0 _ u dt (fun j => sv j 0) (fun j => sv j 1) (fun j => sv j 2) bc rf kn hcr hjH hn o nv sv9 ho hLX.1 x1 (by first | assumption | omega | (dsimp only; first | assumption | omega) | exact Hid.mk (by first | assumption | omega) | exact Hid.mk ⟨fun _ => by first | assumption | omega, fun _ => by first | assumption | omega⟩)) dL_law_2164 k1040 k1041 k0 k1042 hd_L_text rfl ⟨by omega, by omega⟩ (Nat.le_of_ble_eq_true rfl) ⟨by (try dsimp only); omega, by (try dsimp only); omega⟩ hS (fun x h => h.elim (fun h => h.elim (fun ⟨j, hj, e⟩ => e ▸ hu.2 j hj) (fun h => Nat.le_trans hzH.2.1 h)) (fun e => e ▸ hoθ)) (fun H1 locs hpH1 hszH1 hkH1 hS => ?_)
    obtain ⟨hcw, z9, ho1⟩ := hpH1
    have hzH1 := hz0.at hAB hS
    have hjH1 := hj0.at hAB hS
    have hm1 := lw_cls hLX hw hzH1 hkH1
    refine lv_istore (lv' := [(5, .int (iI 0)), (4, .int (iI i)), (3, .ref o), (2, .ref (w 0)), (1, .ref (u 0)), (0, .ref b)]) hx hb dL_law_2167 hl (by decide) rfl (fun ls hl => ?_)
    refine lv_aload_n hx hb dL_law_2169 rfl (lv_at hl 3 rfl) ?_
    refine lv_aload_n hx hb dL_law_2170 rfl (lv_at hl 5 rfl) ?_
    refine lv_iload hx hb dL_law_2171 (lv_at hl 1 rfl) ?_
    refine q_con hx hb dL_law_2173 ?_
    refine q_add hx hb dL_law_2174 ?_
    refine r_xld hx hb hX hbl hbA hS (i := i + 1) (z := x1) (by omega) hL ex1 dL_law_2175 ?_
    refine c_XP (As := [.int (iI x1)]) (rest := []) (b := w 0) (C := RX3) fx hl (mok_text θ l S0 _ w r q dt sv th bc rf kn hm1 hjH1 x1 (by first | assumption | omega | (dsimp only; first | assumption | omega) | exact Hid.mk (by first | assumption | omega) | exact Hid.mk ⟨fun _ => by first | assumption | omega, fun _ => by first | assumption | omega⟩) (by first | assumption | omega | (dsimp only; first | assumption | omega) | exact Hid.mk (by first | assumption | omega) | exact Hid.mk ⟨fun _ => by first | assumption | omega, fun _ => by first | assumption | omega⟩)) (ob_recv hK hm1.2.2.1.1 rfl) dL_law_2176 k1580 k1581 k1582 k6 k1583 hd_X3_text rfl ⟨by omega, by omega⟩ (Nat.le_of_ble_eq_true rfl) ⟨by (try dsimp only); omega, by (try dsimp only); omega⟩ hS (wa_b hm1.2.1 hzH1.2.1) (fun x3 H2 locs hpH2 hszH2 hkH2 hS => ?_)
    obtain ⟨r1, q1, hm2, nr, nq⟩ := hpH2
    have hzH2 := hz0.at hAB hS
    have hL2 := lw_mod hLX hzH2 hu hcw ho1 hfr hfq hm2 nr nq hkH2
    refine lv_astore (lv' := [(6, .ref x3), (5, .int (iI 0)), (4, .int (iI i)), (3, .ref o), (2, .ref (w 0)), (1, .ref (u 0)), (0, .ref b)]) hx hb dL_law_2179 hl (by decide) rfl (fun ls hl => ?_)
    refine lv_goto (tgt := 2331) hx hb dL_law_2181 (by decide) ?_
    exact kk _ _ _ _ _ ⟨_, _, _, _, _, _, _, _, _, _, hL2⟩ hS (by omega) (by omega) (lv_sub hl [2, 3, 4, 5, 6] rfl)
  · refine lv_aload_n hx hb dL_law_2156 rfl (lv_at hl 3 rfl) ?_
    refine lv_aload_n hx hb dL_law_2157 rfl (lv_at hl 4 rfl) ?_
    refine lv_iload hx hb dL_law_2158 (lv_at hl 0 rfl) ?_
    refine q_con hx hb dL_law_2160 ?_
    refine q_add hx hb dL_law_2161 ?_
    refine r_xld hx hb hX hbl hbA hS (i := i + 1) (z := x1) (by omega) hL ex1 dL_law_2162 ?_
    refine lv_aload_n hx hb dL_law_2163 rfl (lv_at hl 1 rfl) ?_
    refine c_SWr (As := [.ref (u 0), .int (iI x1), .ref o]) (rest := []) (r := .int (iI 1)) fx hl (wn1_text θ l hl0 S0 _ u dt (fun j => sv j 0) (fun j => sv j 1) (fun j => sv j 2) bc rf kn hcr hjH hn o nv sv9 ho hLX.1 x1 (by first | assumption | omega | (dsimp only; first | assumption | omega) | exact Hid.mk (by first | assumption | omega) | exact Hid.mk ⟨fun _ => by first | assumption | omega, fun _ => by first | assumption | omega⟩) (by first | assumption | omega | (dsimp only; first | assumption | omega) | exact Hid.mk (by first | assumption | omega) | exact Hid.mk ⟨fun _ => by first | assumption | omega, fun _ => by first | assumption | omega⟩)) dL_law_2164 k1040 k1041 k0 k1042 hd_L_text rfl ⟨by omega, by omega⟩ (Nat.le_of_ble_eq_true rfl) ⟨by (try dsimp only); omega, by (try dsimp only); omega⟩ hS (fun x h => h.elim (fun h => h.elim (fun ⟨j, hj, e⟩ => e ▸ hu.2 j hj) (fun h => Nat.le_trans hzH.2.1 h)) (fun e => e ▸ hoθ)) (fun H4 locs hpH4 hszH4 hkH4 hS => ?_)
    obtain ⟨hcw, ho1⟩ := hpH4
    have hzH1 := hz0.at hAB hS
    have hjH1 := hj0.at hAB hS
    have hm1 := lw_cls hLX hw hzH1 hkH4
    refine lv_istore (lv' := [(5, .int (iI 1)), (4, .int (iI i)), (3, .ref o), (2, .ref (w 0)), (1, .ref (u 0)), (0, .ref b)]) hx hb dL_law_2167 hl (by decide) rfl (fun ls hl => ?_)
    refine lv_aload_n hx hb dL_law_2169 rfl (lv_at hl 3 rfl) ?_
    refine lv_aload_n hx hb dL_law_2170 rfl (lv_at hl 5 rfl) ?_
    refine lv_iload hx hb dL_law_2171 (lv_at hl 1 rfl) ?_
    refine q_con hx hb dL_law_2173 ?_
    refine q_add hx hb dL_law_2174 ?_
    refine r_xld hx hb hX hbl hbA hS (i := i + 1) (z := x1) (by omega) hL ex1 dL_law_2175 ?_
    refine c_XP (As := [.int (iI x1)]) (rest := []) (b := w 0) (C := RX3) fx hl (mno1_text θ l S0 _ w r q dt sv th bc rf kn hm1 hjH1 x1 (by first | assumption | omega | (dsimp only; first | assumption | omega) | exact Hid.mk (by first | assumption | omega) | exact Hid.mk ⟨fun _ => by first | assumption | omega, fun _ => by first | assumption | omega⟩) (by first | assumption | omega | (dsimp only; first | assumption | omega) | exact Hid.mk (by first | assumption | omega) | exact Hid.mk ⟨fun _ => by first | assumption | omega, fun _ => by first | assumption | omega⟩)) (ob_recv hK hm1.2.2.1.1 rfl) dL_law_2176 k1580 k1581 k1582 k6 k1583 hd_X3_text rfl ⟨by omega, by omega⟩ (Nat.le_of_ble_eq_true rfl) ⟨by (try dsimp only); omega, by (try dsimp only); omega⟩ hS (wa_b hm1.2.1 hzH1.2.1) (fun x6 H5 locs hpH5 hszH5 hkH5 hS => ?_)
    obtain ⟨r1, q1, hm2, nr, nq⟩ := hpH5
    have hzH2 := hz0.at hAB hS
    have hL2 := lw_mod hLX hzH2 hu hcw ho1 hfr hfq hm2 nr nq hkH5
    refine lv_astore (lv' := [(6, .ref x6), (5, .int (iI 1)), (4, .int (iI i)), (3, .ref o), (2, .ref (w 0)), (1, .ref (u 0)), (0, .ref b)]) hx hb dL_law_2179 hl (by decide) rfl (fun ls hl => ?_)
    refine lv_goto (tgt := 2331) hx hb dL_law_2181 (by decide) ?_
    exact kk _ _ _ _ _ ⟨_, _, _, _, _, _, _, _, _, _, hL2⟩ hS (by omega) (by omega) (lv_sub hl [2, 3, 4, 5, 6] rfl)

set_option maxHeartbeats 4000000 in
set_option maxRecDepth 100000 in
theorem lc_compare {p : Program} {l : Launch} {e : Env} {R : Room} {s : State} {m : MethodId} {args : Array Value} {below : List Frame} {meth : Method} {c : Code} {Q : State → Prop} {θ : TH} {S0 : State} (fx : FX p m c cL_law 7 s args yL_law.cls S0) (hl0 : l.stackTraces = false) (hz0 : SZ θ S0 s.heap) (hj0 : SJ θ S0 s.heap) (hn : NX S0) {u w : Nat → Nat} {o b L : Nat} {xs : Nat → Int32} (hLX : LX u w o) (hoθ : θ.2.2.2 ≤ o) (hX : va_X b L xs s s.heap) (hbl : b < s.heap.size) (hbA : ¬ AJ θ b) (hL : L ≤ 2560) (hRF : 1000 ≤ R.frames ∧ 1000 ≤ R.locals) {H : Heap} {locs : List Loc} {cells slots : Nat} {ls : Array Slot} {i : Int} (hi : 0 ≤ i ∧ i + 5 ≤ (L : Int)) (hw : LWE θ S0 u w o H) (hS : va_S (AJ θ) s.heap H locs) (hRc : cells + 400 ≤ R.cells ∧ slots + 7000 ≤ R.slots) (hl : lv_has ls 7 [(4, .int (iI i)), (3, .ref o), (2, .ref (w 0)), (1, .ref (u 0)), (0, .ref b)]) (kk : LK p l e R s m args below meth c Q θ S0 u w o b i cells slots 2331) : W p l e R s m args below meth c H locs cells slots Q (F0 m 2184 ls []) := by
  obtain ⟨hx, hb, hml, hown, hts⟩ := id fx.1
  have hAB : ∀ x : Nat, AJ θ x → θ.2.2.2 ≤ x := fun _ h => h
  obtain ⟨r, q, dt, sv, th, bc, rf, kn, nv, sv9, hw⟩ := hw
  obtain ⟨hcr, hmr, ho, hfr, hfq⟩ := id hw
  have hzH := hz0.at hAB hS
  have hjH := hj0.at hAB hS
  have hK := sz_K fx.2 hz0
  have hu := hcr.2.1
  obtain ⟨x1, ex1⟩ : ∃ z : Int, z = (xs (i + 1).toNat).toInt := ⟨_, rfl⟩
  have bx1 := x32_b ex1
  obtain ⟨x2, ex2⟩ : ∃ z : Int, z = (xs (i + 2).toNat).toInt := ⟨_, rfl⟩
  have bx2 := x32_b ex2
  by_cases hc1 : 0 ≤ x1 ∧ x1 < 6
  · by_cases hc2 : 0 ≤ x2 ∧ x2 < 6
    · refine lv_aload_n hx hb dL_law_2184 rfl (lv_at hl 3 rfl) ?_
      refine lv_aload_n hx hb dL_law_2185 rfl (lv_at hl 4 rfl) ?_
      refine lv_iload hx hb dL_law_2186 (lv_at hl 0 rfl) ?_
      refine q_con hx hb dL_law_2188 ?_
      refine q_add hx hb dL_law_2189 ?_
      refine r_xld hx hb hX hbl hbA hS (i := i + 1) (z := x1) (by omega) hL ex1 dL_law_2190 ?_
      refine lv_aload_n hx hb dL_law_2191 rfl (lv_at hl 4 rfl) ?_
      refine lv_iload hx hb dL_law_2192 (lv_at hl 0 rfl) ?_
      refine q_con hx hb dL_law_2194 ?_
      refine q_add hx hb dL_law_2195 ?_
      refine r_xld hx hb hX hbl hbA hS (i := i + 2) (z := x2) (by omega) hL ex2 dL_law_2196 ?_
      refine lv_aload_n hx hb dL_law_2197 rfl (lv_at hl 1 rfl) ?_
      refine c_SWr (As := [.ref (u 0), .int (iI x1), .int (iI x2), .ref o]) (rest := []) (r := .int (iI 0)) fx hl (wr_compare θ l hl0 S0 _ u dt (fun j => sv j 0) (fun j => sv j 1) (fun j => sv j 2) bc rf kn hcr hjH hn o nv sv9 ho hLX.1 x1 x2 (by first | assumption | omega | (dsimp only; first | assumption | omega) | exact Hid.mk (by first | assumption | omega) | exact Hid.mk ⟨fun _ => by first | assumption | omega, fun _ => by first | assumption | omega⟩) (by first | assumption | omega | (dsimp only; first | assumption | omega) | exact Hid.mk (by first | assumption | omega) | exact Hid.mk ⟨fun _ => by first | assumption | omega, fun _ => by first | assumption | omega⟩) (by first | assumption | omega | (dsimp only; first | assumption | omega) | exact Hid.mk (by first | assumption | omega) | exact Hid.mk ⟨fun _ => by first | assumption | omega, fun _ => by first | assumption | omega⟩) (by first | assumption | omega | (dsimp only; first | assumption | omega) | exact Hid.mk (by first | assumption | omega) | exact Hid.mk ⟨fun _ => by first | assumption | omega, fun _ => by first | assumption | omega⟩)) dL_law_2198 k1044 k1045 k0 k1046 hd_L_compare rfl ⟨by omega, by omega⟩ (Nat.le_of_ble_eq_true rfl) ⟨by (try dsimp only); omega, by (try dsimp only); omega⟩ hS (fun x h => h.elim (fun h => h.elim (fun ⟨j, hj, e⟩ => e ▸ hu.2 j hj) (fun h => Nat.le_trans hzH.2.1 h)) (fun e => e ▸ hoθ)) (fun H1 locs hpH1 hszH1 hkH1 hS => ?_)
      obtain ⟨hcw, ho1⟩ := hpH1
      have hzH1 := hz0.at hAB hS
      have hjH1 := hj0.at hAB hS
      have hm1 := lw_cls hLX hw hzH1 hkH1
      refine lv_istore (lv' := [(5, .int (iI 0)), (4, .int (iI i)), (3, .ref o), (2, .ref (w 0)), (1, .ref (u 0)), (0, .ref b)]) hx hb dL_law_2201 hl (by decide) rfl (fun ls hl => ?_)
      refine lv_aload_n hx hb dL_law_2203 rfl (lv_at hl 3 rfl) ?_
      refine lv_aload_n hx hb dL_law_2204 rfl (lv_at hl 5 rfl) ?_
      refine lv_iload hx hb dL_law_2205 (lv_at hl 1 rfl) ?_
      refine q_con hx hb dL_law_2207 ?_
      refine q_add hx hb dL_law_2208 ?_
      refine r_xld hx hb hX hbl hbA hS (i := i + 1) (z := x1) (by omega) hL ex1 dL_law_2209 ?_
      refine lv_aload_n hx hb dL_law_2210 rfl (lv_at hl 5 rfl) ?_
      refine lv_iload hx hb dL_law_2211 (lv_at hl 1 rfl) ?_
      refine q_con hx hb dL_law_2213 ?_
      refine q_add hx hb dL_law_2214 ?_
      refine r_xld hx hb hX hbl hbA hS (i := i + 2) (z := x2) (by omega) hL ex2 dL_law_2215 ?_
      refine c_Vr (As := [.int (iI x1), .int (iI x2)]) (rest := []) (b := w 0) (C := RX3) (r := some (.int (iI (if dt x1.toNat = dt x2.toNat then 0 else if dt x1.toNat < dt x2.toNat then -1 else 1)))) (st1 := [.int (iI (if dt x1.toNat = dt x2.toNat then 0 else if dt x1.toNat < dt x2.toNat then -1 else 1))]) fx hl (mok_compare θ l S0 _ w r q dt sv th bc rf kn hm1 x1 x2 (by first | assumption | omega | (dsimp only; first | assumption | omega) | exact Hid.mk (by first | assumption | omega) | exact Hid.mk ⟨fun _ => by first | assumption | omega, fun _ => by first | assumption | omega⟩) (by first | assumption | omega | (dsimp only; first | assumption | omega) | exact Hid.mk (by first | assumption | omega) | exact Hid.mk ⟨fun _ => by first | assumption | omega, fun _ => by first | assumption | omega⟩) (by first | assumption | omega | (dsimp only; first | assumption | omega) | exact Hid.mk (by first | assumption | omega) | exact Hid.mk ⟨fun _ => by first | assumption | omega, fun _ => by first | assumption | omega⟩) (by first | assumption | omega | (dsimp only; first | assumption | omega) | exact Hid.mk (by first | assumption | omega) | exact Hid.mk ⟨fun _ => by first | assumption | omega, fun _ => by first | assumption | omega⟩)) (ob_recv hK hm1.2.2.1.1 rfl) dL_law_2216 k1594 k1595 k1596 k6 k1597 hd_X3_compare rfl rfl ⟨by omega, by omega⟩ (Nat.le_of_ble_eq_true rfl) ⟨by (try dsimp only); omega, by (try dsimp only); omega⟩ hS (wa_b hm1.2.1 hzH1.2.1) (fun H2 locs hpH2 hszH2 hkH2 hS => ?_)
      obtain ⟨r1, q1, hm2, nr, nq⟩ := hpH2
      have hzH2 := hz0.at hAB hS
      have hL2 := lw_mod hLX hzH2 hu hcw ho1 hfr hfq hm2 nr nq hkH2
      refine q_nm (fun z3 ez3 => ?_)
      refine lv_istore (lv' := [(6, .int (iI z3)), (5, .int (iI 0)), (4, .int (iI i)), (3, .ref o), (2, .ref (w 0)), (1, .ref (u 0)), (0, .ref b)]) hx hb dL_law_2219 hl (by decide) rfl (fun ls hl => ?_)
      refine lv_goto (tgt := 2331) hx hb dL_law_2221 (by decide) ?_
      exact kk _ _ _ _ _ ⟨_, _, _, _, _, _, _, _, _, _, hL2⟩ hS (by omega) (by omega) (lv_sub hl [2, 3, 4, 5, 6] rfl)
    · refine lv_aload_n hx hb dL_law_2184 rfl (lv_at hl 3 rfl) ?_
      refine lv_aload_n hx hb dL_law_2185 rfl (lv_at hl 4 rfl) ?_
      refine lv_iload hx hb dL_law_2186 (lv_at hl 0 rfl) ?_
      refine q_con hx hb dL_law_2188 ?_
      refine q_add hx hb dL_law_2189 ?_
      refine r_xld hx hb hX hbl hbA hS (i := i + 1) (z := x1) (by omega) hL ex1 dL_law_2190 ?_
      refine lv_aload_n hx hb dL_law_2191 rfl (lv_at hl 4 rfl) ?_
      refine lv_iload hx hb dL_law_2192 (lv_at hl 0 rfl) ?_
      refine q_con hx hb dL_law_2194 ?_
      refine q_add hx hb dL_law_2195 ?_
      refine r_xld hx hb hX hbl hbA hS (i := i + 2) (z := x2) (by omega) hL ex2 dL_law_2196 ?_
      refine lv_aload_n hx hb dL_law_2197 rfl (lv_at hl 1 rfl) ?_
      refine c_SWr (As := [.ref (u 0), .int (iI x1), .int (iI x2), .ref o]) (rest := []) (r := .int (iI 1)) fx hl (wn2_compare θ l hl0 S0 _ u dt (fun j => sv j 0) (fun j => sv j 1) (fun j => sv j 2) bc rf kn hcr hjH hn o nv sv9 ho hLX.1 x1 x2 (by first | assumption | omega | (dsimp only; first | assumption | omega) | exact Hid.mk (by first | assumption | omega) | exact Hid.mk ⟨fun _ => by first | assumption | omega, fun _ => by first | assumption | omega⟩) (by first | assumption | omega | (dsimp only; first | assumption | omega) | exact Hid.mk (by first | assumption | omega) | exact Hid.mk ⟨fun _ => by first | assumption | omega, fun _ => by first | assumption | omega⟩) (by first | assumption | omega | (dsimp only; first | assumption | omega) | exact Hid.mk (by first | assumption | omega) | exact Hid.mk ⟨fun _ => by first | assumption | omega, fun _ => by first | assumption | omega⟩) (by first | assumption | omega | (dsimp only; first | assumption | omega) | exact Hid.mk (by first | assumption | omega) | exact Hid.mk ⟨fun _ => by first | assumption | omega, fun _ => by first | assumption | omega⟩)) dL_law_2198 k1044 k1045 k0 k1046 hd_L_compare rfl ⟨by omega, by omega⟩ (Nat.le_of_ble_eq_true rfl) ⟨by (try dsimp only); omega, by (try dsimp only); omega⟩ hS (fun x h => h.elim (fun h => h.elim (fun ⟨j, hj, e⟩ => e ▸ hu.2 j hj) (fun h => Nat.le_trans hzH.2.1 h)) (fun e => e ▸ hoθ)) (fun H4 locs hpH4 hszH4 hkH4 hS => ?_)
      obtain ⟨hcw, ho1⟩ := hpH4
      have hzH1 := hz0.at hAB hS
      have hjH1 := hj0.at hAB hS
      have hm1 := lw_cls hLX hw hzH1 hkH4
      refine lv_istore (lv' := [(5, .int (iI 1)), (4, .int (iI i)), (3, .ref o), (2, .ref (w 0)), (1, .ref (u 0)), (0, .ref b)]) hx hb dL_law_2201 hl (by decide) rfl (fun ls hl => ?_)
      refine lv_aload_n hx hb dL_law_2203 rfl (lv_at hl 3 rfl) ?_
      refine lv_aload_n hx hb dL_law_2204 rfl (lv_at hl 5 rfl) ?_
      refine lv_iload hx hb dL_law_2205 (lv_at hl 1 rfl) ?_
      refine q_con hx hb dL_law_2207 ?_
      refine q_add hx hb dL_law_2208 ?_
      refine r_xld hx hb hX hbl hbA hS (i := i + 1) (z := x1) (by omega) hL ex1 dL_law_2209 ?_
      refine lv_aload_n hx hb dL_law_2210 rfl (lv_at hl 5 rfl) ?_
      refine lv_iload hx hb dL_law_2211 (lv_at hl 1 rfl) ?_
      refine q_con hx hb dL_law_2213 ?_
      refine q_add hx hb dL_law_2214 ?_
      refine r_xld hx hb hX hbl hbA hS (i := i + 2) (z := x2) (by omega) hL ex2 dL_law_2215 ?_
      refine c_Vr (As := [.int (iI x1), .int (iI x2)]) (rest := []) (b := w 0) (C := RX3) (r := some (.int (iI 0))) (st1 := [.int (iI 0)]) fx hl (mno2_compare θ l S0 _ w r q dt sv th bc rf kn hm1 x1 x2 (by first | assumption | omega | (dsimp only; first | assumption | omega) | exact Hid.mk (by first | assumption | omega) | exact Hid.mk ⟨fun _ => by first | assumption | omega, fun _ => by first | assumption | omega⟩) (by first | assumption | omega | (dsimp only; first | assumption | omega) | exact Hid.mk (by first | assumption | omega) | exact Hid.mk ⟨fun _ => by first | assumption | omega, fun _ => by first | assumption | omega⟩) (by first | assumption | omega | (dsimp only; first | assumption | omega) | exact Hid.mk (by first | assumption | omega) | exact Hid.mk ⟨fun _ => by first | assumption | omega, fun _ => by first | assumption | omega⟩) (by first | assumption | omega | (dsimp only; first | assumption | omega) | exact Hid.mk (by first | assumption | omega) | exact Hid.mk ⟨fun _ => by first | assumption | omega, fun _ => by first | assumption | omega⟩)) (ob_recv hK hm1.2.2.1.1 rfl) dL_law_2216 k1594 k1595 k1596 k6 k1597 hd_X3_compare rfl rfl ⟨by omega, by omega⟩ (Nat.le_of_ble_eq_true rfl) ⟨by (try dsimp only); omega, by (try dsimp only); omega⟩ hS (wa_b hm1.2.1 hzH1.2.1) (fun H5 locs hpH5 hszH5 hkH5 hS => ?_)
      obtain ⟨r1, q1, hm2, nr, nq⟩ := hpH5
      have hzH2 := hz0.at hAB hS
      have hL2 := lw_mod hLX hzH2 hu hcw ho1 hfr hfq hm2 nr nq hkH5
      refine lv_istore (lv' := [(6, .int (iI 0)), (5, .int (iI 1)), (4, .int (iI i)), (3, .ref o), (2, .ref (w 0)), (1, .ref (u 0)), (0, .ref b)]) hx hb dL_law_2219 hl (by decide) rfl (fun ls hl => ?_)
      refine lv_goto (tgt := 2331) hx hb dL_law_2221 (by decide) ?_
      exact kk _ _ _ _ _ ⟨_, _, _, _, _, _, _, _, _, _, hL2⟩ hS (by omega) (by omega) (lv_sub hl [2, 3, 4, 5, 6] rfl)
  · refine lv_aload_n hx hb dL_law_2184 rfl (lv_at hl 3 rfl) ?_
    refine lv_aload_n hx hb dL_law_2185 rfl (lv_at hl 4 rfl) ?_
    refine lv_iload hx hb dL_law_2186 (lv_at hl 0 rfl) ?_
    refine q_con hx hb dL_law_2188 ?_
    refine q_add hx hb dL_law_2189 ?_
    refine r_xld hx hb hX hbl hbA hS (i := i + 1) (z := x1) (by omega) hL ex1 dL_law_2190 ?_
    refine lv_aload_n hx hb dL_law_2191 rfl (lv_at hl 4 rfl) ?_
    refine lv_iload hx hb dL_law_2192 (lv_at hl 0 rfl) ?_
    refine q_con hx hb dL_law_2194 ?_
    refine q_add hx hb dL_law_2195 ?_
    refine r_xld hx hb hX hbl hbA hS (i := i + 2) (z := x2) (by omega) hL ex2 dL_law_2196 ?_
    refine lv_aload_n hx hb dL_law_2197 rfl (lv_at hl 1 rfl) ?_
    refine c_SWr (As := [.ref (u 0), .int (iI x1), .int (iI x2), .ref o]) (rest := []) (r := .int (iI 1)) fx hl (wn1_compare θ l hl0 S0 _ u dt (fun j => sv j 0) (fun j => sv j 1) (fun j => sv j 2) bc rf kn hcr hjH hn o nv sv9 ho hLX.1 x1 x2 (by first | assumption | omega | (dsimp only; first | assumption | omega) | exact Hid.mk (by first | assumption | omega) | exact Hid.mk ⟨fun _ => by first | assumption | omega, fun _ => by first | assumption | omega⟩) (by first | assumption | omega | (dsimp only; first | assumption | omega) | exact Hid.mk (by first | assumption | omega) | exact Hid.mk ⟨fun _ => by first | assumption | omega, fun _ => by first | assumption | omega⟩) (by first | assumption | omega | (dsimp only; first | assumption | omega) | exact Hid.mk (by first | assumption | omega) | exact Hid.mk ⟨fun _ => by first | assumption | omega, fun _ => by first | assumption | omega⟩)) dL_law_2198 k1044 k1045 k0 k1046 hd_L_compare rfl ⟨by omega, by omega⟩ (Nat.le_of_ble_eq_true rfl) ⟨by (try dsimp only); omega, by (try dsimp only); omega⟩ hS (fun x h => h.elim (fun h => h.elim (fun ⟨j, hj, e⟩ => e ▸ hu.2 j hj) (fun h => Nat.le_trans hzH.2.1 h)) (fun e => e ▸ hoθ)) (fun H6 locs hpH6 hszH6 hkH6 hS => ?_)
    obtain ⟨hcw, ho1⟩ := hpH6
    have hzH1 := hz0.at hAB hS
    have hjH1 := hj0.at hAB hS
    have hm1 := lw_cls hLX hw hzH1 hkH6
    refine lv_istore (lv' := [(5, .int (iI 1)), (4, .int (iI i)), (3, .ref o), (2, .ref (w 0)), (1, .ref (u 0)), (0, .ref b)]) hx hb dL_law_2201 hl (by decide) rfl (fun ls hl => ?_)
    refine lv_aload_n hx hb dL_law_2203 rfl (lv_at hl 3 rfl) ?_
    refine lv_aload_n hx hb dL_law_2204 rfl (lv_at hl 5 rfl) ?_
    refine lv_iload hx hb dL_law_2205 (lv_at hl 1 rfl) ?_
    refine q_con hx hb dL_law_2207 ?_
    refine q_add hx hb dL_law_2208 ?_
    refine r_xld hx hb hX hbl hbA hS (i := i + 1) (z := x1) (by omega) hL ex1 dL_law_2209 ?_
    refine lv_aload_n hx hb dL_law_2210 rfl (lv_at hl 5 rfl) ?_
    refine lv_iload hx hb dL_law_2211 (lv_at hl 1 rfl) ?_
    refine q_con hx hb dL_law_2213 ?_
    refine q_add hx hb dL_law_2214 ?_
    refine r_xld hx hb hX hbl hbA hS (i := i + 2) (z := x2) (by omega) hL ex2 dL_law_2215 ?_
    refine c_Vr (As := [.int (iI x1), .int (iI x2)]) (rest := []) (b := w 0) (C := RX3) (r := some (.int (iI 0))) (st1 := [.int (iI 0)]) fx hl (mno1_compare θ l S0 _ w r q dt sv th bc rf kn hm1 x1 x2 (by first | assumption | omega | (dsimp only; first | assumption | omega) | exact Hid.mk (by first | assumption | omega) | exact Hid.mk ⟨fun _ => by first | assumption | omega, fun _ => by first | assumption | omega⟩) (by first | assumption | omega | (dsimp only; first | assumption | omega) | exact Hid.mk (by first | assumption | omega) | exact Hid.mk ⟨fun _ => by first | assumption | omega, fun _ => by first | assumption | omega⟩) (by first | assumption | omega | (dsimp only; first | assumption | omega) | exact Hid.mk (by first | assumption | omega) | exact Hid.mk ⟨fun _ => by first | assumption | omega, fun _ => by first | assumption | omega⟩)) (ob_recv hK hm1.2.2.1.1 rfl) dL_law_2216 k1594 k1595 k1596 k6 k1597 hd_X3_compare rfl rfl ⟨by omega, by omega⟩ (Nat.le_of_ble_eq_true rfl) ⟨by (try dsimp only); omega, by (try dsimp only); omega⟩ hS (wa_b hm1.2.1 hzH1.2.1) (fun H7 locs hpH7 hszH7 hkH7 hS => ?_)
    obtain ⟨r1, q1, hm2, nr, nq⟩ := hpH7
    have hzH2 := hz0.at hAB hS
    have hL2 := lw_mod hLX hzH2 hu hcw ho1 hfr hfq hm2 nr nq hkH7
    refine lv_istore (lv' := [(6, .int (iI 0)), (5, .int (iI 1)), (4, .int (iI i)), (3, .ref o), (2, .ref (w 0)), (1, .ref (u 0)), (0, .ref b)]) hx hb dL_law_2219 hl (by decide) rfl (fun ls hl => ?_)
    refine lv_goto (tgt := 2331) hx hb dL_law_2221 (by decide) ?_
    exact kk _ _ _ _ _ ⟨_, _, _, _, _, _, _, _, _, _, hL2⟩ hS (by omega) (by omega) (lv_sub hl [2, 3, 4, 5, 6] rfl)

set_option maxHeartbeats 4000000 in
set_option maxRecDepth 100000 in
theorem lc_between {p : Program} {l : Launch} {e : Env} {R : Room} {s : State} {m : MethodId} {args : Array Value} {below : List Frame} {meth : Method} {c : Code} {Q : State → Prop} {θ : TH} {S0 : State} (fx : FX p m c cL_law 7 s args yL_law.cls S0) (hl0 : l.stackTraces = false) (hz0 : SZ θ S0 s.heap) (hj0 : SJ θ S0 s.heap) (hn : NX S0) {u w : Nat → Nat} {o b L : Nat} {xs : Nat → Int32} (hLX : LX u w o) (hoθ : θ.2.2.2 ≤ o) (hX : va_X b L xs s s.heap) (hbl : b < s.heap.size) (hbA : ¬ AJ θ b) (hL : L ≤ 2560) (hRF : 1000 ≤ R.frames ∧ 1000 ≤ R.locals) {H : Heap} {locs : List Loc} {cells slots : Nat} {ls : Array Slot} {i : Int} (hi : 0 ≤ i ∧ i + 5 ≤ (L : Int)) (hw : LWE θ S0 u w o H) (hS : va_S (AJ θ) s.heap H locs) (hRc : cells + 400 ≤ R.cells ∧ slots + 7000 ≤ R.slots) (hl : lv_has ls 7 [(4, .int (iI i)), (3, .ref o), (2, .ref (w 0)), (1, .ref (u 0)), (0, .ref b)]) (kk : LK p l e R s m args below meth c Q θ S0 u w o b i cells slots 2331) : W p l e R s m args below meth c H locs cells slots Q (F0 m 2224 ls []) := by
  obtain ⟨hx, hb, hml, hown, hts⟩ := id fx.1
  have hAB : ∀ x : Nat, AJ θ x → θ.2.2.2 ≤ x := fun _ h => h
  obtain ⟨r, q, dt, sv, th, bc, rf, kn, nv, sv9, hw⟩ := hw
  obtain ⟨hcr, hmr, ho, hfr, hfq⟩ := id hw
  have hzH := hz0.at hAB hS
  have hjH := hj0.at hAB hS
  have hK := sz_K fx.2 hz0
  have hu := hcr.2.1
  obtain ⟨x1, ex1⟩ : ∃ z : Int, z = (xs (i + 1).toNat).toInt := ⟨_, rfl⟩
  have bx1 := x32_b ex1
  obtain ⟨x2, ex2⟩ : ∃ z : Int, z = (xs (i + 2).toNat).toInt := ⟨_, rfl⟩
  have bx2 := x32_b ex2
  by_cases hc1 : 0 ≤ x1 ∧ x1 < 6
  · by_cases hc2 : 0 ≤ x2 ∧ x2 < 6
    · refine lv_aload_n hx hb dL_law_2224 rfl (lv_at hl 3 rfl) ?_
      refine lv_aload_n hx hb dL_law_2225 rfl (lv_at hl 4 rfl) ?_
      refine lv_iload hx hb dL_law_2226 (lv_at hl 0 rfl) ?_
      refine q_con hx hb dL_law_2228 ?_
      refine q_add hx hb dL_law_2229 ?_
      refine r_xld hx hb hX hbl hbA hS (i := i + 1) (z := x1) (by omega) hL ex1 dL_law_2230 ?_
      refine lv_aload_n hx hb dL_law_2231 rfl (lv_at hl 4 rfl) ?_
      refine lv_iload hx hb dL_law_2232 (lv_at hl 0 rfl) ?_
      refine q_con hx hb dL_law_2234 ?_
      refine q_add hx hb dL_law_2235 ?_
      refine r_xld hx hb hX hbl hbA hS (i := i + 2) (z := x2) (by omega) hL ex2 dL_law_2236 ?_
      refine lv_aload_n hx hb dL_law_2237 rfl (lv_at hl 1 rfl) ?_
      refine c_SWr (As := [.ref (u 0), .int (iI x1), .int (iI x2), .ref o]) (rest := []) (r := .int (iI 0)) fx hl (wr_between θ l hl0 S0 _ u dt (fun j => sv j 0) (fun j => sv j 1) (fun j => sv j 2) bc rf kn hcr hjH hn o nv sv9 ho hLX.1 x1 x2 (by first | assumption | omega | (dsimp only; first | assumption | omega) | exact Hid.mk (by first | assumption | omega) | exact Hid.mk ⟨fun _ => by first | assumption | omega, fun _ => by first | assumption | omega⟩) (by first | assumption | omega | (dsimp only; first | assumption | omega) | exact Hid.mk (by first | assumption | omega) | exact Hid.mk ⟨fun _ => by first | assumption | omega, fun _ => by first | assumption | omega⟩) (by first | assumption | omega | (dsimp only; first | assumption | omega) | exact Hid.mk (by first | assumption | omega) | exact Hid.mk ⟨fun _ => by first | assumption | omega, fun _ => by first | assumption | omega⟩) (by first | assumption | omega | (dsimp only; first | assumption | omega) | exact Hid.mk (by first | assumption | omega) | exact Hid.mk ⟨fun _ => by first | assumption | omega, fun _ => by first | assumption | omega⟩)) dL_law_2238 k1048 k1049 k0 k1050 hd_L_between rfl ⟨by omega, by omega⟩ (Nat.le_of_ble_eq_true rfl) ⟨by (try dsimp only); omega, by (try dsimp only); omega⟩ hS (fun x h => h.elim (fun h => h.elim (fun ⟨j, hj, e⟩ => e ▸ hu.2 j hj) (fun h => Nat.le_trans hzH.2.1 h)) (fun e => e ▸ hoθ)) (fun H1 locs hpH1 hszH1 hkH1 hS => ?_)
      obtain ⟨hcw, ho1⟩ := hpH1
      have hzH1 := hz0.at hAB hS
      have hjH1 := hj0.at hAB hS
      have hm1 := lw_cls hLX hw hzH1 hkH1
      refine lv_istore (lv' := [(5, .int (iI 0)), (4, .int (iI i)), (3, .ref o), (2, .ref (w 0)), (1, .ref (u 0)), (0, .ref b)]) hx hb dL_law_2241 hl (by decide) rfl (fun ls hl => ?_)
      refine lv_aload_n hx hb dL_law_2243 rfl (lv_at hl 3 rfl) ?_
      refine lv_aload_n hx hb dL_law_2244 rfl (lv_at hl 5 rfl) ?_
      refine lv_iload hx hb dL_law_2245 (lv_at hl 1 rfl) ?_
      refine q_con hx hb dL_law_2247 ?_
      refine q_add hx hb dL_law_2248 ?_
      refine r_xld hx hb hX hbl hbA hS (i := i + 1) (z := x1) (by omega) hL ex1 dL_law_2249 ?_
      refine lv_aload_n hx hb dL_law_2250 rfl (lv_at hl 5 rfl) ?_
      refine lv_iload hx hb dL_law_2251 (lv_at hl 1 rfl) ?_
      refine q_con hx hb dL_law_2253 ?_
      refine q_add hx hb dL_law_2254 ?_
      refine r_xld hx hb hX hbl hbA hS (i := i + 2) (z := x2) (by omega) hL ex2 dL_law_2255 ?_
      refine c_Vr (As := [.int (iI x1), .int (iI x2)]) (rest := []) (b := w 0) (C := RX3) (r := some (.int (iI (dt x2.toNat - dt x1.toNat)))) (st1 := [.int (iI (dt x2.toNat - dt x1.toNat))]) fx hl (mok_between θ l S0 _ w r q dt sv th bc rf kn hm1 x1 x2 (by first | assumption | omega | (dsimp only; first | assumption | omega) | exact Hid.mk (by first | assumption | omega) | exact Hid.mk ⟨fun _ => by first | assumption | omega, fun _ => by first | assumption | omega⟩) (by first | assumption | omega | (dsimp only; first | assumption | omega) | exact Hid.mk (by first | assumption | omega) | exact Hid.mk ⟨fun _ => by first | assumption | omega, fun _ => by first | assumption | omega⟩) (by first | assumption | omega | (dsimp only; first | assumption | omega) | exact Hid.mk (by first | assumption | omega) | exact Hid.mk ⟨fun _ => by first | assumption | omega, fun _ => by first | assumption | omega⟩) (by first | assumption | omega | (dsimp only; first | assumption | omega) | exact Hid.mk (by first | assumption | omega) | exact Hid.mk ⟨fun _ => by first | assumption | omega, fun _ => by first | assumption | omega⟩)) (ob_recv hK hm1.2.2.1.1 rfl) dL_law_2256 k1602 k1603 k1604 k6 k1605 hd_X3_between rfl rfl ⟨by omega, by omega⟩ (Nat.le_of_ble_eq_true rfl) ⟨by (try dsimp only); omega, by (try dsimp only); omega⟩ hS (wa_b hm1.2.1 hzH1.2.1) (fun H2 locs hpH2 hszH2 hkH2 hS => ?_)
      obtain ⟨r1, q1, hm2, nr, nq⟩ := hpH2
      have hzH2 := hz0.at hAB hS
      have hL2 := lw_mod hLX hzH2 hu hcw ho1 hfr hfq hm2 nr nq hkH2
      refine q_nm (fun z3 ez3 => ?_)
      refine lv_istore (lv' := [(6, .int (iI z3)), (5, .int (iI 0)), (4, .int (iI i)), (3, .ref o), (2, .ref (w 0)), (1, .ref (u 0)), (0, .ref b)]) hx hb dL_law_2259 hl (by decide) rfl (fun ls hl => ?_)
      refine lv_goto (tgt := 2331) hx hb dL_law_2261 (by decide) ?_
      exact kk _ _ _ _ _ ⟨_, _, _, _, _, _, _, _, _, _, hL2⟩ hS (by omega) (by omega) (lv_sub hl [2, 3, 4, 5, 6] rfl)
    · refine lv_aload_n hx hb dL_law_2224 rfl (lv_at hl 3 rfl) ?_
      refine lv_aload_n hx hb dL_law_2225 rfl (lv_at hl 4 rfl) ?_
      refine lv_iload hx hb dL_law_2226 (lv_at hl 0 rfl) ?_
      refine q_con hx hb dL_law_2228 ?_
      refine q_add hx hb dL_law_2229 ?_
      refine r_xld hx hb hX hbl hbA hS (i := i + 1) (z := x1) (by omega) hL ex1 dL_law_2230 ?_
      refine lv_aload_n hx hb dL_law_2231 rfl (lv_at hl 4 rfl) ?_
      refine lv_iload hx hb dL_law_2232 (lv_at hl 0 rfl) ?_
      refine q_con hx hb dL_law_2234 ?_
      refine q_add hx hb dL_law_2235 ?_
      refine r_xld hx hb hX hbl hbA hS (i := i + 2) (z := x2) (by omega) hL ex2 dL_law_2236 ?_
      refine lv_aload_n hx hb dL_law_2237 rfl (lv_at hl 1 rfl) ?_
      refine c_SWr (As := [.ref (u 0), .int (iI x1), .int (iI x2), .ref o]) (rest := []) (r := .int (iI 1)) fx hl (wn2_between θ l hl0 S0 _ u dt (fun j => sv j 0) (fun j => sv j 1) (fun j => sv j 2) bc rf kn hcr hjH hn o nv sv9 ho hLX.1 x1 x2 (by first | assumption | omega | (dsimp only; first | assumption | omega) | exact Hid.mk (by first | assumption | omega) | exact Hid.mk ⟨fun _ => by first | assumption | omega, fun _ => by first | assumption | omega⟩) (by first | assumption | omega | (dsimp only; first | assumption | omega) | exact Hid.mk (by first | assumption | omega) | exact Hid.mk ⟨fun _ => by first | assumption | omega, fun _ => by first | assumption | omega⟩) (by first | assumption | omega | (dsimp only; first | assumption | omega) | exact Hid.mk (by first | assumption | omega) | exact Hid.mk ⟨fun _ => by first | assumption | omega, fun _ => by first | assumption | omega⟩) (by first | assumption | omega | (dsimp only; first | assumption | omega) | exact Hid.mk (by first | assumption | omega) | exact Hid.mk ⟨fun _ => by first | assumption | omega, fun _ => by first | assumption | omega⟩)) dL_law_2238 k1048 k1049 k0 k1050 hd_L_between rfl ⟨by omega, by omega⟩ (Nat.le_of_ble_eq_true rfl) ⟨by (try dsimp only); omega, by (try dsimp only); omega⟩ hS (fun x h => h.elim (fun h => h.elim (fun ⟨j, hj, e⟩ => e ▸ hu.2 j hj) (fun h => Nat.le_trans hzH.2.1 h)) (fun e => e ▸ hoθ)) (fun H4 locs hpH4 hszH4 hkH4 hS => ?_)
      obtain ⟨hcw, ho1⟩ := hpH4
      have hzH1 := hz0.at hAB hS
      have hjH1 := hj0.at hAB hS
      have hm1 := lw_cls hLX hw hzH1 hkH4
      refine lv_istore (lv' := [(5, .int (iI 1)), (4, .int (iI i)), (3, .ref o), (2, .ref (w 0)), (1, .ref (u 0)), (0, .ref b)]) hx hb dL_law_2241 hl (by decide) rfl (fun ls hl => ?_)
      refine lv_aload_n hx hb dL_law_2243 rfl (lv_at hl 3 rfl) ?_
      refine lv_aload_n hx hb dL_law_2244 rfl (lv_at hl 5 rfl) ?_
      refine lv_iload hx hb dL_law_2245 (lv_at hl 1 rfl) ?_
      refine q_con hx hb dL_law_2247 ?_
      refine q_add hx hb dL_law_2248 ?_
      refine r_xld hx hb hX hbl hbA hS (i := i + 1) (z := x1) (by omega) hL ex1 dL_law_2249 ?_
      refine lv_aload_n hx hb dL_law_2250 rfl (lv_at hl 5 rfl) ?_
      refine lv_iload hx hb dL_law_2251 (lv_at hl 1 rfl) ?_
      refine q_con hx hb dL_law_2253 ?_
      refine q_add hx hb dL_law_2254 ?_
      refine r_xld hx hb hX hbl hbA hS (i := i + 2) (z := x2) (by omega) hL ex2 dL_law_2255 ?_
      refine c_Vr (As := [.int (iI x1), .int (iI x2)]) (rest := []) (b := w 0) (C := RX3) (r := some (.int (iI 0))) (st1 := [.int (iI 0)]) fx hl (mno2_between θ l S0 _ w r q dt sv th bc rf kn hm1 x1 x2 (by first | assumption | omega | (dsimp only; first | assumption | omega) | exact Hid.mk (by first | assumption | omega) | exact Hid.mk ⟨fun _ => by first | assumption | omega, fun _ => by first | assumption | omega⟩) (by first | assumption | omega | (dsimp only; first | assumption | omega) | exact Hid.mk (by first | assumption | omega) | exact Hid.mk ⟨fun _ => by first | assumption | omega, fun _ => by first | assumption | omega⟩) (by first | assumption | omega | (dsimp only; first | assumption | omega) | exact Hid.mk (by first | assumption | omega) | exact Hid.mk ⟨fun _ => by first | assumption | omega, fun _ => by first | assumption | omega⟩) (by first | assumption | omega | (dsimp only; first | assumption | omega) | exact Hid.mk (by first | assumption | omega) | exact Hid.mk ⟨fun _ => by first | assumption | omega, fun _ => by first | assumption | omega⟩)) (ob_recv hK hm1.2.2.1.1 rfl) dL_law_2256 k1602 k1603 k1604 k6 k1605 hd_X3_between rfl rfl ⟨by omega, by omega⟩ (Nat.le_of_ble_eq_true rfl) ⟨by (try dsimp only); omega, by (try dsimp only); omega⟩ hS (wa_b hm1.2.1 hzH1.2.1) (fun H5 locs hpH5 hszH5 hkH5 hS => ?_)
      obtain ⟨r1, q1, hm2, nr, nq⟩ := hpH5
      have hzH2 := hz0.at hAB hS
      have hL2 := lw_mod hLX hzH2 hu hcw ho1 hfr hfq hm2 nr nq hkH5
      refine lv_istore (lv' := [(6, .int (iI 0)), (5, .int (iI 1)), (4, .int (iI i)), (3, .ref o), (2, .ref (w 0)), (1, .ref (u 0)), (0, .ref b)]) hx hb dL_law_2259 hl (by decide) rfl (fun ls hl => ?_)
      refine lv_goto (tgt := 2331) hx hb dL_law_2261 (by decide) ?_
      exact kk _ _ _ _ _ ⟨_, _, _, _, _, _, _, _, _, _, hL2⟩ hS (by omega) (by omega) (lv_sub hl [2, 3, 4, 5, 6] rfl)
  · refine lv_aload_n hx hb dL_law_2224 rfl (lv_at hl 3 rfl) ?_
    refine lv_aload_n hx hb dL_law_2225 rfl (lv_at hl 4 rfl) ?_
    refine lv_iload hx hb dL_law_2226 (lv_at hl 0 rfl) ?_
    refine q_con hx hb dL_law_2228 ?_
    refine q_add hx hb dL_law_2229 ?_
    refine r_xld hx hb hX hbl hbA hS (i := i + 1) (z := x1) (by omega) hL ex1 dL_law_2230 ?_
    refine lv_aload_n hx hb dL_law_2231 rfl (lv_at hl 4 rfl) ?_
    refine lv_iload hx hb dL_law_2232 (lv_at hl 0 rfl) ?_
    refine q_con hx hb dL_law_2234 ?_
    refine q_add hx hb dL_law_2235 ?_
    refine r_xld hx hb hX hbl hbA hS (i := i + 2) (z := x2) (by omega) hL ex2 dL_law_2236 ?_
    refine lv_aload_n hx hb dL_law_2237 rfl (lv_at hl 1 rfl) ?_
    refine c_SWr (As := [.ref (u 0), .int (iI x1), .int (iI x2), .ref o]) (rest := []) (r := .int (iI 1)) fx hl (wn1_between θ l hl0 S0 _ u dt (fun j => sv j 0) (fun j => sv j 1) (fun j => sv j 2) bc rf kn hcr hjH hn o nv sv9 ho hLX.1 x1 x2 (by first | assumption | omega | (dsimp only; first | assumption | omega) | exact Hid.mk (by first | assumption | omega) | exact Hid.mk ⟨fun _ => by first | assumption | omega, fun _ => by first | assumption | omega⟩) (by first | assumption | omega | (dsimp only; first | assumption | omega) | exact Hid.mk (by first | assumption | omega) | exact Hid.mk ⟨fun _ => by first | assumption | omega, fun _ => by first | assumption | omega⟩) (by first | assumption | omega | (dsimp only; first | assumption | omega) | exact Hid.mk (by first | assumption | omega) | exact Hid.mk ⟨fun _ => by first | assumption | omega, fun _ => by first | assumption | omega⟩)) dL_law_2238 k1048 k1049 k0 k1050 hd_L_between rfl ⟨by omega, by omega⟩ (Nat.le_of_ble_eq_true rfl) ⟨by (try dsimp only); omega, by (try dsimp only); omega⟩ hS (fun x h => h.elim (fun h => h.elim (fun ⟨j, hj, e⟩ => e ▸ hu.2 j hj) (fun h => Nat.le_trans hzH.2.1 h)) (fun e => e ▸ hoθ)) (fun H6 locs hpH6 hszH6 hkH6 hS => ?_)
    obtain ⟨hcw, ho1⟩ := hpH6
    have hzH1 := hz0.at hAB hS
    have hjH1 := hj0.at hAB hS
    have hm1 := lw_cls hLX hw hzH1 hkH6
    refine lv_istore (lv' := [(5, .int (iI 1)), (4, .int (iI i)), (3, .ref o), (2, .ref (w 0)), (1, .ref (u 0)), (0, .ref b)]) hx hb dL_law_2241 hl (by decide) rfl (fun ls hl => ?_)
    refine lv_aload_n hx hb dL_law_2243 rfl (lv_at hl 3 rfl) ?_
    refine lv_aload_n hx hb dL_law_2244 rfl (lv_at hl 5 rfl) ?_
    refine lv_iload hx hb dL_law_2245 (lv_at hl 1 rfl) ?_
    refine q_con hx hb dL_law_2247 ?_
    refine q_add hx hb dL_law_2248 ?_
    refine r_xld hx hb hX hbl hbA hS (i := i + 1) (z := x1) (by omega) hL ex1 dL_law_2249 ?_
    refine lv_aload_n hx hb dL_law_2250 rfl (lv_at hl 5 rfl) ?_
    refine lv_iload hx hb dL_law_2251 (lv_at hl 1 rfl) ?_
    refine q_con hx hb dL_law_2253 ?_
    refine q_add hx hb dL_law_2254 ?_
    refine r_xld hx hb hX hbl hbA hS (i := i + 2) (z := x2) (by omega) hL ex2 dL_law_2255 ?_
    refine c_Vr (As := [.int (iI x1), .int (iI x2)]) (rest := []) (b := w 0) (C := RX3) (r := some (.int (iI 0))) (st1 := [.int (iI 0)]) fx hl (mno1_between θ l S0 _ w r q dt sv th bc rf kn hm1 x1 x2 (by first | assumption | omega | (dsimp only; first | assumption | omega) | exact Hid.mk (by first | assumption | omega) | exact Hid.mk ⟨fun _ => by first | assumption | omega, fun _ => by first | assumption | omega⟩) (by first | assumption | omega | (dsimp only; first | assumption | omega) | exact Hid.mk (by first | assumption | omega) | exact Hid.mk ⟨fun _ => by first | assumption | omega, fun _ => by first | assumption | omega⟩) (by first | assumption | omega | (dsimp only; first | assumption | omega) | exact Hid.mk (by first | assumption | omega) | exact Hid.mk ⟨fun _ => by first | assumption | omega, fun _ => by first | assumption | omega⟩)) (ob_recv hK hm1.2.2.1.1 rfl) dL_law_2256 k1602 k1603 k1604 k6 k1605 hd_X3_between rfl rfl ⟨by omega, by omega⟩ (Nat.le_of_ble_eq_true rfl) ⟨by (try dsimp only); omega, by (try dsimp only); omega⟩ hS (wa_b hm1.2.1 hzH1.2.1) (fun H7 locs hpH7 hszH7 hkH7 hS => ?_)
    obtain ⟨r1, q1, hm2, nr, nq⟩ := hpH7
    have hzH2 := hz0.at hAB hS
    have hL2 := lw_mod hLX hzH2 hu hcw ho1 hfr hfq hm2 nr nq hkH7
    refine lv_istore (lv' := [(6, .int (iI 0)), (5, .int (iI 1)), (4, .int (iI i)), (3, .ref o), (2, .ref (w 0)), (1, .ref (u 0)), (0, .ref b)]) hx hb dL_law_2259 hl (by decide) rfl (fun ls hl => ?_)
    refine lv_goto (tgt := 2331) hx hb dL_law_2261 (by decide) ?_
    exact kk _ _ _ _ _ ⟨_, _, _, _, _, _, _, _, _, _, hL2⟩ hS (by omega) (by omega) (lv_sub hl [2, 3, 4, 5, 6] rfl)

set_option maxHeartbeats 4000000 in
set_option maxRecDepth 100000 in
theorem lc_house {p : Program} {l : Launch} {e : Env} {R : Room} {s : State} {m : MethodId} {args : Array Value} {below : List Frame} {meth : Method} {c : Code} {Q : State → Prop} {θ : TH} {S0 : State} (fx : FX p m c cL_law 7 s args yL_law.cls S0) (hl0 : l.stackTraces = false) (hz0 : SZ θ S0 s.heap) (hj0 : SJ θ S0 s.heap) (hn : NX S0) {u w : Nat → Nat} {o b L : Nat} {xs : Nat → Int32} (hLX : LX u w o) (hoθ : θ.2.2.2 ≤ o) (hX : va_X b L xs s s.heap) (hbl : b < s.heap.size) (hbA : ¬ AJ θ b) (hL : L ≤ 2560) (hRF : 1000 ≤ R.frames ∧ 1000 ≤ R.locals) {H : Heap} {locs : List Loc} {cells slots : Nat} {ls : Array Slot} {i : Int} (hi : 0 ≤ i ∧ i + 5 ≤ (L : Int)) (hw : LWE θ S0 u w o H) (hS : va_S (AJ θ) s.heap H locs) (hRc : cells + 400 ≤ R.cells ∧ slots + 7000 ≤ R.slots) (hl : lv_has ls 7 [(4, .int (iI i)), (3, .ref o), (2, .ref (w 0)), (1, .ref (u 0)), (0, .ref b)]) (kk : LK p l e R s m args below meth c Q θ S0 u w o b i cells slots 2331) : W p l e R s m args below meth c H locs cells slots Q (F0 m 2264 ls []) := by
  obtain ⟨hx, hb, hml, hown, hts⟩ := id fx.1
  have hAB : ∀ x : Nat, AJ θ x → θ.2.2.2 ≤ x := fun _ h => h
  obtain ⟨r, q, dt, sv, th, bc, rf, kn, nv, sv9, hw⟩ := hw
  obtain ⟨hcr, hmr, ho, hfr, hfq⟩ := id hw
  have hzH := hz0.at hAB hS
  have hjH := hj0.at hAB hS
  have hK := sz_K fx.2 hz0
  have hu := hcr.2.1
  obtain ⟨x1, ex1⟩ : ∃ z : Int, z = (xs (i + 1).toNat).toInt := ⟨_, rfl⟩
  have bx1 := x32_b ex1
  by_cases hc1 : 0 ≤ x1 ∧ x1 ≤ 3
  · refine lv_aload_n hx hb dL_law_2264 rfl (lv_at hl 3 rfl) ?_
    refine lv_aload_n hx hb dL_law_2265 rfl (lv_at hl 4 rfl) ?_
    refine lv_iload hx hb dL_law_2266 (lv_at hl 0 rfl) ?_
    refine q_con hx hb dL_law_2268 ?_
    refine q_add hx hb dL_law_2269 ?_
    refine r_xld hx hb hX hbl hbA hS (i := i + 1) (z := x1) (by omega) hL ex1 dL_law_2270 ?_
    refine lv_aload_n hx hb dL_law_2271 rfl (lv_at hl 1 rfl) ?_
    refine c_SWr (As := [.ref (u 0), .int (iI x1), .ref o]) (rest := []) (r := .int (iI 0)) fx hl (wr_house θ l hl0 S0 _ u dt (fun j => sv j 0) (fun j => sv j 1) (fun j => sv j 2) bc rf kn hcr hjH hn o nv sv9 ho hLX.1 x1 (by first | assumption | omega | (dsimp only; first | assumption | omega) | exact Hid.mk (by first | assumption | omega) | exact Hid.mk ⟨fun _ => by first | assumption | omega, fun _ => by first | assumption | omega⟩) (by first | assumption | omega | (dsimp only; first | assumption | omega) | exact Hid.mk (by first | assumption | omega) | exact Hid.mk ⟨fun _ => by first | assumption | omega, fun _ => by first | assumption | omega⟩)) dL_law_2272 k1055 k1056 k0 k1057 hd_L_house rfl ⟨by omega, by omega⟩ (Nat.le_of_ble_eq_true rfl) ⟨by (try dsimp only); omega, by (try dsimp only); omega⟩ hS (fun x h => h.elim (fun h => h.elim (fun ⟨j, hj, e⟩ => e ▸ hu.2 j hj) (fun h => Nat.le_trans hzH.2.1 h)) (fun e => e ▸ hoθ)) (fun H1 locs hpH1 hszH1 hkH1 hS => ?_)
    obtain ⟨hcw, z9, ho1⟩ := hpH1
    have hzH1 := hz0.at hAB hS
    have hjH1 := hj0.at hAB hS
    have hm1 := lw_cls hLX hw hzH1 hkH1
    refine lv_istore (lv' := [(5, .int (iI 0)), (4, .int (iI i)), (3, .ref o), (2, .ref (w 0)), (1, .ref (u 0)), (0, .ref b)]) hx hb dL_law_2275 hl (by decide) rfl (fun ls hl => ?_)
    refine lv_aload_n hx hb dL_law_2277 rfl (lv_at hl 3 rfl) ?_
    refine lv_aload_n hx hb dL_law_2278 rfl (lv_at hl 5 rfl) ?_
    refine lv_iload hx hb dL_law_2279 (lv_at hl 1 rfl) ?_
    refine q_con hx hb dL_law_2281 ?_
    refine q_add hx hb dL_law_2282 ?_
    refine r_xld hx hb hX hbl hbA hS (i := i + 1) (z := x1) (by omega) hL ex1 dL_law_2283 ?_
    refine c_IP (As := [.int (iI x1)]) (rest := []) (b := w 0) (C := RX3) fx hl (mok_house θ l S0 _ w r q dt sv th bc rf kn hm1 x1 (by first | assumption | omega | (dsimp only; first | assumption | omega) | exact Hid.mk (by first | assumption | omega) | exact Hid.mk ⟨fun _ => by first | assumption | omega, fun _ => by first | assumption | omega⟩) (by first | assumption | omega | (dsimp only; first | assumption | omega) | exact Hid.mk (by first | assumption | omega) | exact Hid.mk ⟨fun _ => by first | assumption | omega, fun _ => by first | assumption | omega⟩)) (ob_recv hK hm1.2.2.1.1 rfl) dL_law_2284 k1606 k1607 k1608 k6 k1609 hd_X3_house rfl ⟨by omega, by omega⟩ (Nat.le_of_ble_eq_true rfl) ⟨by (try dsimp only); omega, by (try dsimp only); omega⟩ hS (wa_b hm1.2.1 hzH1.2.1) (fun z3 H2 locs hpH2 hszH2 hkH2 hS => ?_)
    obtain ⟨r1, q1, hm2, nr, nq⟩ := hpH2
    have hzH2 := hz0.at hAB hS
    have hL2 := lw_mod hLX hzH2 hu hcw ho1 hfr hfq hm2 nr nq hkH2
    refine lv_istore (lv' := [(6, .int (iI z3)), (5, .int (iI 0)), (4, .int (iI i)), (3, .ref o), (2, .ref (w 0)), (1, .ref (u 0)), (0, .ref b)]) hx hb dL_law_2287 hl (by decide) rfl (fun ls hl => ?_)
    refine lv_goto (tgt := 2331) hx hb dL_law_2289 (by decide) ?_
    exact kk _ _ _ _ _ ⟨_, _, _, _, _, _, _, _, _, _, hL2⟩ hS (by omega) (by omega) (lv_sub hl [2, 3, 4, 5, 6] rfl)
  · refine lv_aload_n hx hb dL_law_2264 rfl (lv_at hl 3 rfl) ?_
    refine lv_aload_n hx hb dL_law_2265 rfl (lv_at hl 4 rfl) ?_
    refine lv_iload hx hb dL_law_2266 (lv_at hl 0 rfl) ?_
    refine q_con hx hb dL_law_2268 ?_
    refine q_add hx hb dL_law_2269 ?_
    refine r_xld hx hb hX hbl hbA hS (i := i + 1) (z := x1) (by omega) hL ex1 dL_law_2270 ?_
    refine lv_aload_n hx hb dL_law_2271 rfl (lv_at hl 1 rfl) ?_
    refine c_SWr (As := [.ref (u 0), .int (iI x1), .ref o]) (rest := []) (r := .int (iI 1)) fx hl (wn1_house θ l hl0 S0 _ u dt (fun j => sv j 0) (fun j => sv j 1) (fun j => sv j 2) bc rf kn hcr hjH hn o nv sv9 ho hLX.1 x1 (by first | assumption | omega | (dsimp only; first | assumption | omega) | exact Hid.mk (by first | assumption | omega) | exact Hid.mk ⟨fun _ => by first | assumption | omega, fun _ => by first | assumption | omega⟩) (by first | assumption | omega | (dsimp only; first | assumption | omega) | exact Hid.mk (by first | assumption | omega) | exact Hid.mk ⟨fun _ => by first | assumption | omega, fun _ => by first | assumption | omega⟩)) dL_law_2272 k1055 k1056 k0 k1057 hd_L_house rfl ⟨by omega, by omega⟩ (Nat.le_of_ble_eq_true rfl) ⟨by (try dsimp only); omega, by (try dsimp only); omega⟩ hS (fun x h => h.elim (fun h => h.elim (fun ⟨j, hj, e⟩ => e ▸ hu.2 j hj) (fun h => Nat.le_trans hzH.2.1 h)) (fun e => e ▸ hoθ)) (fun H4 locs hpH4 hszH4 hkH4 hS => ?_)
    obtain ⟨hcw, ho1⟩ := hpH4
    have hzH1 := hz0.at hAB hS
    have hjH1 := hj0.at hAB hS
    have hm1 := lw_cls hLX hw hzH1 hkH4
    refine lv_istore (lv' := [(5, .int (iI 1)), (4, .int (iI i)), (3, .ref o), (2, .ref (w 0)), (1, .ref (u 0)), (0, .ref b)]) hx hb dL_law_2275 hl (by decide) rfl (fun ls hl => ?_)
    refine lv_aload_n hx hb dL_law_2277 rfl (lv_at hl 3 rfl) ?_
    refine lv_aload_n hx hb dL_law_2278 rfl (lv_at hl 5 rfl) ?_
    refine lv_iload hx hb dL_law_2279 (lv_at hl 1 rfl) ?_
    refine q_con hx hb dL_law_2281 ?_
    refine q_add hx hb dL_law_2282 ?_
    refine r_xld hx hb hX hbl hbA hS (i := i + 1) (z := x1) (by omega) hL ex1 dL_law_2283 ?_
    refine c_Vr (As := [.int (iI x1)]) (rest := []) (b := w 0) (C := RX3) (r := some (.int (iI 0))) (st1 := [.int (iI 0)]) fx hl (mno1_house θ l S0 _ w r q dt sv th bc rf kn hm1 x1 (by first | assumption | omega | (dsimp only; first | assumption | omega) | exact Hid.mk (by first | assumption | omega) | exact Hid.mk ⟨fun _ => by first | assumption | omega, fun _ => by first | assumption | omega⟩) (by first | assumption | omega | (dsimp only; first | assumption | omega) | exact Hid.mk (by first | assumption | omega) | exact Hid.mk ⟨fun _ => by first | assumption | omega, fun _ => by first | assumption | omega⟩)) (ob_recv hK hm1.2.2.1.1 rfl) dL_law_2284 k1606 k1607 k1608 k6 k1609 hd_X3_house rfl rfl ⟨by omega, by omega⟩ (Nat.le_of_ble_eq_true rfl) ⟨by (try dsimp only); omega, by (try dsimp only); omega⟩ hS (wa_b hm1.2.1 hzH1.2.1) (fun H5 locs hpH5 hszH5 hkH5 hS => ?_)
    obtain ⟨r1, q1, hm2, nr, nq⟩ := hpH5
    have hzH2 := hz0.at hAB hS
    have hL2 := lw_mod hLX hzH2 hu hcw ho1 hfr hfq hm2 nr nq hkH5
    refine lv_istore (lv' := [(6, .int (iI 0)), (5, .int (iI 1)), (4, .int (iI i)), (3, .ref o), (2, .ref (w 0)), (1, .ref (u 0)), (0, .ref b)]) hx hb dL_law_2287 hl (by decide) rfl (fun ls hl => ?_)
    refine lv_goto (tgt := 2331) hx hb dL_law_2289 (by decide) ?_
    exact kk _ _ _ _ _ ⟨_, _, _, _, _, _, _, _, _, _, hL2⟩ hS (by omega) (by omega) (lv_sub hl [2, 3, 4, 5, 6] rfl)

set_option maxHeartbeats 4000000 in
set_option maxRecDepth 100000 in
theorem lc_knock {p : Program} {l : Launch} {e : Env} {R : Room} {s : State} {m : MethodId} {args : Array Value} {below : List Frame} {meth : Method} {c : Code} {Q : State → Prop} {θ : TH} {S0 : State} (fx : FX p m c cL_law 7 s args yL_law.cls S0) (hl0 : l.stackTraces = false) (hz0 : SZ θ S0 s.heap) (hj0 : SJ θ S0 s.heap) (hn : NX S0) {u w : Nat → Nat} {o b L : Nat} {xs : Nat → Int32} (hLX : LX u w o) (hoθ : θ.2.2.2 ≤ o) (hX : va_X b L xs s s.heap) (hbl : b < s.heap.size) (hbA : ¬ AJ θ b) (hL : L ≤ 2560) (hRF : 1000 ≤ R.frames ∧ 1000 ≤ R.locals) {H : Heap} {locs : List Loc} {cells slots : Nat} {ls : Array Slot} {i : Int} (hi : 0 ≤ i ∧ i + 5 ≤ (L : Int)) (hw : LWE θ S0 u w o H) (hS : va_S (AJ θ) s.heap H locs) (hRc : cells + 400 ≤ R.cells ∧ slots + 7000 ≤ R.slots) (hl : lv_has ls 7 [(4, .int (iI i)), (3, .ref o), (2, .ref (w 0)), (1, .ref (u 0)), (0, .ref b)]) (kk : LK p l e R s m args below meth c Q θ S0 u w o b i cells slots 2331) : W p l e R s m args below meth c H locs cells slots Q (F0 m 2292 ls []) := by
  obtain ⟨hx, hb, hml, hown, hts⟩ := id fx.1
  have hAB : ∀ x : Nat, AJ θ x → θ.2.2.2 ≤ x := fun _ h => h
  obtain ⟨r, q, dt, sv, th, bc, rf, kn, nv, sv9, hw⟩ := hw
  obtain ⟨hcr, hmr, ho, hfr, hfq⟩ := id hw
  have hzH := hz0.at hAB hS
  have hjH := hj0.at hAB hS
  have hK := sz_K fx.2 hz0
  have hu := hcr.2.1
  refine lv_aload_n hx hb dL_law_2292 rfl (lv_at hl 3 rfl) ?_
  refine c_Vr (As := []) (rest := []) (b := u 0) (C := RX1) (r := some (.int (iI (kn + 1)))) (st1 := [.int (iI (kn + 1))]) fx hl (ok_knock θ l hl0 S0 _ u dt (fun j => sv j 0) (fun j => sv j 1) (fun j => sv j 2) bc rf kn hcr) (ob_recv hK hcr.2.2.1.1 rfl) dL_law_2293 k98 k99 k100 k1 k101 hd_X1_knock rfl rfl ⟨by omega, by omega⟩ (Nat.le_of_ble_eq_true rfl) ⟨by (try dsimp only); omega, by (try dsimp only); omega⟩ hS (fun x h => h.elim (fun ⟨j, hj, e⟩ => e ▸ hu.2 j hj) (fun h => Nat.le_trans hzH.2.1 h)) (fun H1 locs hcw hszH1 hkH1 hS => ?_)
  have ho1 := ho.kept (hkH1 _ ho.lt (fun g => g.elim (fun ⟨j, hj, e⟩ => hLX.1 j hj e) (fun g => Nat.not_le.mpr ho.lt g)))
  have hzH1 := hz0.at hAB hS
  have hjH1 := hj0.at hAB hS
  have hm1 := lw_cls hLX hw hzH1 (fun x hx hn9 => hkH1 x hx (fun g => hn9 (Or.inl g)))
  refine lv_pop hx hb dL_law_2296 rfl ?_
  refine lv_aload_n hx hb dL_law_2297 rfl (lv_at hl 2 rfl) ?_
  refine c_Vr (As := []) (rest := []) (b := w 0) (C := RX3) (r := some (.int (iI (kn + 1)))) (st1 := [.int (iI (kn + 1))]) fx hl (mok_knock θ l S0 _ w r q dt sv th bc rf kn hm1  ) (ob_recv hK hm1.2.2.1.1 rfl) dL_law_2298 k1614 k1615 k1616 k6 k1617 hd_X3_knock rfl rfl ⟨by omega, by omega⟩ (Nat.le_of_ble_eq_true rfl) ⟨by (try dsimp only); omega, by (try dsimp only); omega⟩ hS (wa_b hm1.2.1 hzH1.2.1) (fun H2 locs hpH2 hszH2 hkH2 hS => ?_)
  obtain ⟨r1, q1, hm2, nr, nq⟩ := hpH2
  have hzH2 := hz0.at hAB hS
  have hL2 := lw_mod hLX hzH2 hu hcw ho1 hfr hfq hm2 nr nq hkH2
  refine lv_pop hx hb dL_law_2301 rfl ?_
  refine lv_goto (tgt := 2331) hx hb dL_law_2302 (by decide) ?_
  exact kk _ _ _ _ _ ⟨_, _, _, _, _, _, _, _, _, _, hL2⟩ hS (by omega) (by omega) (lv_sub hl [0, 1, 2, 3, 4] rfl)

set_option maxHeartbeats 4000000 in
set_option maxRecDepth 100000 in
theorem lc_isSound {p : Program} {l : Launch} {e : Env} {R : Room} {s : State} {m : MethodId} {args : Array Value} {below : List Frame} {meth : Method} {c : Code} {Q : State → Prop} {θ : TH} {S0 : State} (fx : FX p m c cL_law 7 s args yL_law.cls S0) (hl0 : l.stackTraces = false) (hz0 : SZ θ S0 s.heap) (hj0 : SJ θ S0 s.heap) (hn : NX S0) {u w : Nat → Nat} {o b L : Nat} {xs : Nat → Int32} (hLX : LX u w o) (hoθ : θ.2.2.2 ≤ o) (hX : va_X b L xs s s.heap) (hbl : b < s.heap.size) (hbA : ¬ AJ θ b) (hL : L ≤ 2560) (hRF : 1000 ≤ R.frames ∧ 1000 ≤ R.locals) {H : Heap} {locs : List Loc} {cells slots : Nat} {ls : Array Slot} {i : Int} (hi : 0 ≤ i ∧ i + 5 ≤ (L : Int)) (hw : LWE θ S0 u w o H) (hS : va_S (AJ θ) s.heap H locs) (hRc : cells + 400 ≤ R.cells ∧ slots + 7000 ≤ R.slots) (hl : lv_has ls 7 [(4, .int (iI i)), (3, .ref o), (2, .ref (w 0)), (1, .ref (u 0)), (0, .ref b)]) (kk : LK p l e R s m args below meth c Q θ S0 u w o b i cells slots 2331) : W p l e R s m args below meth c H locs cells slots Q (F0 m 2305 ls []) := by
  obtain ⟨hx, hb, hml, hown, hts⟩ := id fx.1
  have hAB : ∀ x : Nat, AJ θ x → θ.2.2.2 ≤ x := fun _ h => h
  obtain ⟨r, q, dt, sv, th, bc, rf, kn, nv, sv9, hw⟩ := hw
  obtain ⟨hcr, hmr, ho, hfr, hfq⟩ := id hw
  have hzH := hz0.at hAB hS
  have hjH := hj0.at hAB hS
  have hK := sz_K fx.2 hz0
  have hu := hcr.2.1
  refine lv_aload_n hx hb dL_law_2305 rfl (lv_at hl 3 rfl) ?_
  refine c_Vr (As := []) (rest := []) (b := u 0) (C := RX1) (r := some (.int (iI 1))) (st1 := [.int (iI 1)]) fx hl (ok_isSound θ l hl0 S0 _ u dt (fun j => sv j 0) (fun j => sv j 1) (fun j => sv j 2) bc rf kn hcr) (ob_recv hK hcr.2.2.1.1 rfl) dL_law_2306 k102 k103 k104 k1 k105 hd_X1_isSound rfl rfl ⟨by omega, by omega⟩ (Nat.le_of_ble_eq_true rfl) ⟨by (try dsimp only); omega, by (try dsimp only); omega⟩ hS (fun _ h => h.elim) (fun H1 locs hpH1 hszH1 hkH1 hS => ?_)
  have ho1 := ho.kept (hkH1 _ ho.lt (fun g => g.elim))
  have hcw := hcr.2.2.1.kept (fun i hi => hkH1 _ (hcr.2.2.1.lt i hi) (fun g => g.elim))
  have hzH1 := hz0.at hAB hS
  have hjH1 := hj0.at hAB hS
  have hm1 := lw_cls hLX hw hzH1 (fun x hx _ => hkH1 x hx (fun g => g.elim))
  refine lv_aload_n hx hb dL_law_2309 rfl (lv_at hl 2 rfl) ?_
  refine c_Vr (As := []) (rest := [.int (iI 1)]) (b := w 0) (C := RX3) (r := some (.int (iI 1))) (st1 := [.int (iI 1), .int (iI 1)]) fx hl (mok_isSound θ l S0 _ w r q dt sv th bc rf kn hm1  ) (ob_recv hK hm1.2.2.1.1 rfl) dL_law_2310 k1618 k1619 k1620 k6 k1621 hd_X3_isSound rfl rfl ⟨by omega, by omega⟩ (Nat.le_of_ble_eq_true rfl) ⟨by (try dsimp only); omega, by (try dsimp only); omega⟩ hS (wa_b hm1.2.1 hzH1.2.1) (fun H2 locs hpH2 hszH2 hkH2 hS => ?_)
  obtain ⟨r1, q1, hm2, nr, nq⟩ := hpH2
  have hzH2 := hz0.at hAB hS
  have hL2 := lw_mod hLX hzH2 hu hcw ho1 hfr hfq hm2 nr nq hkH2
  refine q_cme (tgt := 2331) hx hb dL_law_2313 (by decide) ?_
  exact kk _ _ _ _ _ ⟨_, _, _, _, _, _, _, _, _, _, hL2⟩ hS (by omega) (by omega) (lv_sub hl [0, 1, 2, 3, 4] rfl)

set_option maxHeartbeats 4000000 in
set_option maxRecDepth 100000 in
theorem lc_digest {p : Program} {l : Launch} {e : Env} {R : Room} {s : State} {m : MethodId} {args : Array Value} {below : List Frame} {meth : Method} {c : Code} {Q : State → Prop} {θ : TH} {S0 : State} (fx : FX p m c cL_law 7 s args yL_law.cls S0) (hl0 : l.stackTraces = false) (hz0 : SZ θ S0 s.heap) (hj0 : SJ θ S0 s.heap) (hn : NX S0) {u w : Nat → Nat} {o b L : Nat} {xs : Nat → Int32} (hLX : LX u w o) (hoθ : θ.2.2.2 ≤ o) (hX : va_X b L xs s s.heap) (hbl : b < s.heap.size) (hbA : ¬ AJ θ b) (hL : L ≤ 2560) (hRF : 1000 ≤ R.frames ∧ 1000 ≤ R.locals) {H : Heap} {locs : List Loc} {cells slots : Nat} {ls : Array Slot} {i : Int} (hi : 0 ≤ i ∧ i + 5 ≤ (L : Int)) (hw : LWE θ S0 u w o H) (hS : va_S (AJ θ) s.heap H locs) (hRc : cells + 400 ≤ R.cells ∧ slots + 7000 ≤ R.slots) (hl : lv_has ls 7 [(4, .int (iI i)), (3, .ref o), (2, .ref (w 0)), (1, .ref (u 0)), (0, .ref b)]) (kk : LK p l e R s m args below meth c Q θ S0 u w o b i cells slots 2331) : W p l e R s m args below meth c H locs cells slots Q (F0 m 2318 ls []) := by
  obtain ⟨hx, hb, hml, hown, hts⟩ := id fx.1
  have hAB : ∀ x : Nat, AJ θ x → θ.2.2.2 ≤ x := fun _ h => h
  obtain ⟨r, q, dt, sv, th, bc, rf, kn, nv, sv9, hw⟩ := hw
  obtain ⟨hcr, hmr, ho, hfr, hfq⟩ := id hw
  have hzH := hz0.at hAB hS
  have hjH := hj0.at hAB hS
  have hK := sz_K fx.2 hz0
  have hu := hcr.2.1
  refine lv_aload_n hx hb dL_law_2318 rfl (lv_at hl 3 rfl) ?_
  refine c_LP (As := []) (rest := []) (b := u 0) (C := RX1) fx hl (ok_digest θ l hl0 S0 _ u dt (fun j => sv j 0) (fun j => sv j 1) (fun j => sv j 2) bc rf kn hcr hjH) (ob_recv hK hcr.2.2.1.1 rfl) dL_law_2319 k162 k163 k164 k1 k165 hd_X1_digest rfl ⟨by omega, by omega⟩ (Nat.le_of_ble_eq_true rfl) ⟨by (try dsimp only); omega, by (try dsimp only); omega⟩ hS (fun x h => h.elim (fun e => e ▸ hu.2 5 (by decide)) (fun h => h.elim (fun e => e ▸ hu.2 6 (by decide)) (fun h => Nat.le_trans hzH.2.1 h))) (fun z2 H1 locs hcw hszH1 hkH1 hS => ?_)
  have ho1 := ho.kept (hkH1 _ ho.lt (fun g => g.elim (fun e => hLX.1 5 (by decide) e) (fun g => g.elim (fun e => hLX.1 6 (by decide) e) (fun g => Nat.not_le.mpr ho.lt g))))
  have hzH1 := hz0.at hAB hS
  have hjH1 := hj0.at hAB hS
  have hm1 := lw_cls hLX hw hzH1 (fun x hx hn9 => hkH1 x hx (fun g => hn9 (Or.inl (g.elim (fun e => Or.inl ⟨5, by decide, e⟩) (fun g => g.elim (fun e => Or.inl ⟨6, by decide, e⟩) Or.inr)))))
  refine lv_pop2_2 hx hb dL_law_2322 rfl ?_
  refine lv_aload_n hx hb dL_law_2323 rfl (lv_at hl 2 rfl) ?_
  refine c_LP (As := []) (rest := []) (b := w 0) (C := RX3) fx hl (mok_digest θ l S0 _ w r q dt sv th bc rf kn hm1 hjH1  ) (ob_recv hK hm1.2.2.1.1 rfl) dL_law_2324 k1622 k1623 k1624 k6 k1625 hd_X3_digest rfl ⟨by omega, by omega⟩ (Nat.le_of_ble_eq_true rfl) ⟨by (try dsimp only); omega, by (try dsimp only); omega⟩ hS (wa_b hm1.2.1 hzH1.2.1) (fun z4 H3 locs hpH3 hszH3 hkH3 hS => ?_)
  obtain ⟨r1, q1, hm2, nr, nq⟩ := hpH3
  have hzH2 := hz0.at hAB hS
  have hL2 := lw_mod hLX hzH2 hu hcw ho1 hfr hfq hm2 nr nq hkH3
  refine lv_pop2_2 hx hb dL_law_2327 rfl ?_
  refine lv_goto (tgt := 2331) hx hb dL_law_2328 (by decide) ?_
  exact kk _ _ _ _ _ ⟨_, _, _, _, _, _, _, _, _, _, hL2⟩ hS (by omega) (by omega) (lv_sub hl [0, 1, 2, 3, 4] rfl)
