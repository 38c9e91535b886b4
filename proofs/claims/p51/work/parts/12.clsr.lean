set_option maxHeartbeats 4000000 in
set_option maxRecDepth 100000 in
theorem nok_needPlace (l : Launch) (S0 : State) (H : Heap) (v : Int) (hb_v : -2147483648 ≤ v ∧ v < 2147483648) (h_c : 0 ≤ v ∧ v < 6) : CT l yX1_needPlace cX1_needPlace 1 none 0 0 0 0 [.int (iI v)] S0 H (fun v H1 => v = none ∧ H1 = H) (fun _ _ => False) (fun _ => False) := by
  refine ct_of (by decide +kernel) (Nat.le_of_ble_eq_true rfl) ?_
  intro pg en s mi args below meth co ls fx hs hr hlk hxt hin hl
  subst hs
  obtain ⟨hx, hb, hml, hown, hts⟩ := id fx.1
  have hS : va_S (fun _ : Nat => False) s.heap s.heap [] := va_S.rf
  refine lv_iload_n hx hb dX1_needPlace_0 rfl (lv_at hl 0 rfl) ?_
  refine q_ilt (tgt := 10) hx hb dX1_needPlace_1 (by decide) (by omega) (fun c1 => ?_) (fun c1 => ?_)
  · exact (show False by omega).elim
  · refine lv_iload_n hx hb dX1_needPlace_4 rfl (lv_at hl 0 rfl) ?_
    refine q_bip hx hb dX1_needPlace_5 (by decide) ?_
    refine q_clt (tgt := 21) hx hb dX1_needPlace_7 (by decide) (by omega) (by omega) (fun c2 => ?_) (fun c2 => ?_)
    · exact e_v hx hb hr hlk hS dX1_needPlace_21 (Nat.le_refl _) (Nat.le_refl _) ⟨rfl, rfl⟩
    · exact (show False by omega).elim

set_option maxHeartbeats 4000000 in
set_option maxRecDepth 100000 in
theorem nno_needPlace (θ : TH) (l : Launch) (hl0 : l.stackTraces = false) (S0 : State) (H : Heap) (hz : SZ θ S0 H) (v : Int) (hb_v : -2147483648 ≤ v ∧ v < 2147483648) (h_c : ¬ (0 ≤ v ∧ v < 6)) : TX l yX1_needPlace cX1_needPlace 1 none 6 90 [.int (iI v)] S0 H "java/lang/IndexOutOfBoundsException" := by
  refine ct_of (by decide +kernel) (Nat.le_of_ble_eq_true rfl) ?_
  intro pg en s mi args below meth co ls fx hs hr hlk hxt hin hl
  subst hs
  obtain ⟨hx, hb, hml, hown, hts⟩ := id fx.1
  have hS : va_S (fun q : Nat => s.heap.size ≤ q) s.heap s.heap [] := va_S.rf
  have hAB : ∀ q : Nat, (fun q : Nat => s.heap.size ≤ q) q → θ.2.2.2 ≤ q := fun q h => Nat.le_trans hz.2.1 h
  refine lv_iload_n hx hb dX1_needPlace_0 rfl (lv_at hl 0 rfl) ?_
  refine q_ilt (tgt := 10) hx hb dX1_needPlace_1 (by decide) (by omega) (fun c1 => ?_) (fun c1 => ?_)
  · exact e_thr fx hz hl0 (by decide +kernel) k263 k11 hz.2.2.2.2.2.2.2.2.2.1 at_io gd_io hAB hS hl dX1_needPlace_10 dX1_needPlace_13 dX1_needPlace_14 dX1_needPlace_17 dX1_needPlace_20 hxt hlk ⟨by decide, by decide⟩ ⟨by decide, by decide⟩ ⟨by decide, by decide⟩ (fun H1 h1 h2 => ⟨rfl, h1, h2⟩)
  · refine lv_iload_n hx hb dX1_needPlace_4 rfl (lv_at hl 0 rfl) ?_
    refine q_bip hx hb dX1_needPlace_5 (by decide) ?_
    refine q_clt (tgt := 21) hx hb dX1_needPlace_7 (by decide) (by omega) (by omega) (fun c2 => ?_) (fun c2 => ?_)
    · exact (show False by omega).elim
    · exact e_thr fx hz hl0 (by decide +kernel) k263 k11 hz.2.2.2.2.2.2.2.2.2.1 at_io gd_io hAB hS hl dX1_needPlace_10 dX1_needPlace_13 dX1_needPlace_14 dX1_needPlace_17 dX1_needPlace_20 hxt hlk ⟨by decide, by decide⟩ ⟨by decide, by decide⟩ ⟨by decide, by decide⟩ (fun H1 h1 h2 => ⟨rfl, h1, h2⟩)

set_option maxHeartbeats 4000000 in
set_option maxRecDepth 100000 in
theorem nok_needSpan (l : Launch) (S0 : State) (H : Heap) (v : Int) (hb_v : -2147483648 ≤ v ∧ v < 2147483648) (h_c : 0 ≤ v ∧ v < 3) : CT l yX1_needSpan cX1_needSpan 1 none 0 0 0 0 [.int (iI v)] S0 H (fun v H1 => v = none ∧ H1 = H) (fun _ _ => False) (fun _ => False) := by
  refine ct_of (by decide +kernel) (Nat.le_of_ble_eq_true rfl) ?_
  intro pg en s mi args below meth co ls fx hs hr hlk hxt hin hl
  subst hs
  obtain ⟨hx, hb, hml, hown, hts⟩ := id fx.1
  have hS : va_S (fun _ : Nat => False) s.heap s.heap [] := va_S.rf
  refine lv_iload_n hx hb dX1_needSpan_0 rfl (lv_at hl 0 rfl) ?_
  refine q_ilt (tgt := 9) hx hb dX1_needSpan_1 (by decide) (by omega) (fun c1 => ?_) (fun c1 => ?_)
  · exact (show False by omega).elim
  · refine lv_iload_n hx hb dX1_needSpan_4 rfl (lv_at hl 0 rfl) ?_
    refine q_con hx hb dX1_needSpan_5 ?_
    refine q_clt (tgt := 20) hx hb dX1_needSpan_6 (by decide) (by omega) (by omega) (fun c2 => ?_) (fun c2 => ?_)
    · exact e_v hx hb hr hlk hS dX1_needSpan_20 (Nat.le_refl _) (Nat.le_refl _) ⟨rfl, rfl⟩
    · exact (show False by omega).elim

set_option maxHeartbeats 4000000 in
set_option maxRecDepth 100000 in
theorem nno_needSpan (θ : TH) (l : Launch) (hl0 : l.stackTraces = false) (S0 : State) (H : Heap) (hz : SZ θ S0 H) (v : Int) (hb_v : -2147483648 ≤ v ∧ v < 2147483648) (h_c : ¬ (0 ≤ v ∧ v < 3)) : TX l yX1_needSpan cX1_needSpan 1 none 6 90 [.int (iI v)] S0 H "java/lang/IndexOutOfBoundsException" := by
  refine ct_of (by decide +kernel) (Nat.le_of_ble_eq_true rfl) ?_
  intro pg en s mi args below meth co ls fx hs hr hlk hxt hin hl
  subst hs
  obtain ⟨hx, hb, hml, hown, hts⟩ := id fx.1
  have hS : va_S (fun q : Nat => s.heap.size ≤ q) s.heap s.heap [] := va_S.rf
  have hAB : ∀ q : Nat, (fun q : Nat => s.heap.size ≤ q) q → θ.2.2.2 ≤ q := fun q h => Nat.le_trans hz.2.1 h
  refine lv_iload_n hx hb dX1_needSpan_0 rfl (lv_at hl 0 rfl) ?_
  refine q_ilt (tgt := 9) hx hb dX1_needSpan_1 (by decide) (by omega) (fun c1 => ?_) (fun c1 => ?_)
  · exact e_thr fx hz hl0 (by decide +kernel) k263 k11 hz.2.2.2.2.2.2.2.2.2.2.1 at_io gd_io hAB hS hl dX1_needSpan_9 dX1_needSpan_12 dX1_needSpan_13 dX1_needSpan_16 dX1_needSpan_19 hxt hlk ⟨by decide, by decide⟩ ⟨by decide, by decide⟩ ⟨by decide, by decide⟩ (fun H1 h1 h2 => ⟨rfl, h1, h2⟩)
  · refine lv_iload_n hx hb dX1_needSpan_4 rfl (lv_at hl 0 rfl) ?_
    refine q_con hx hb dX1_needSpan_5 ?_
    refine q_clt (tgt := 20) hx hb dX1_needSpan_6 (by decide) (by omega) (by omega) (fun c2 => ?_) (fun c2 => ?_)
    · exact (show False by omega).elim
    · exact e_thr fx hz hl0 (by decide +kernel) k263 k11 hz.2.2.2.2.2.2.2.2.2.2.1 at_io gd_io hAB hS hl dX1_needSpan_9 dX1_needSpan_12 dX1_needSpan_13 dX1_needSpan_16 dX1_needSpan_19 hxt hlk ⟨by decide, by decide⟩ ⟨by decide, by decide⟩ ⟨by decide, by decide⟩ (fun H1 h1 h2 => ⟨rfl, h1, h2⟩)

set_option maxHeartbeats 4000000 in
set_option maxRecDepth 100000 in
theorem nok_needWithin (l : Launch) (S0 : State) (H : Heap) (v lo hi : Int) (hb_v : -2147483648 ≤ v ∧ v < 2147483648) (hb_lo : -2147483648 ≤ lo ∧ lo < 2147483648) (hb_hi : -2147483648 ≤ hi ∧ hi < 2147483648) (h_c : lo ≤ v ∧ v ≤ hi) : CT l yX1_needWithin cX1_needWithin 3 none 0 0 0 0 [.int (iI v), .int (iI lo), .int (iI hi)] S0 H (fun v H1 => v = none ∧ H1 = H) (fun _ _ => False) (fun _ => False) := by
  refine ct_of (by decide +kernel) (Nat.le_of_ble_eq_true rfl) ?_
  intro pg en s mi args below meth co ls fx hs hr hlk hxt hin hl
  subst hs
  obtain ⟨hx, hb, hml, hown, hts⟩ := id fx.1
  have hS : va_S (fun _ : Nat => False) s.heap s.heap [] := va_S.rf
  refine lv_iload_n hx hb dX1_needWithin_0 rfl (lv_at hl 0 rfl) ?_
  refine lv_iload_n hx hb dX1_needWithin_1 rfl (lv_at hl 1 rfl) ?_
  refine q_clt (tgt := 10) hx hb dX1_needWithin_2 (by decide) (by omega) (by omega) (fun c1 => ?_) (fun c1 => ?_)
  · exact (show False by omega).elim
  · refine lv_iload_n hx hb dX1_needWithin_5 rfl (lv_at hl 0 rfl) ?_
    refine lv_iload_n hx hb dX1_needWithin_6 rfl (lv_at hl 2 rfl) ?_
    refine q_cle (tgt := 21) hx hb dX1_needWithin_7 (by decide) (by omega) (by omega) (fun c2 => ?_) (fun c2 => ?_)
    · exact e_v hx hb hr hlk hS dX1_needWithin_21 (Nat.le_refl _) (Nat.le_refl _) ⟨rfl, rfl⟩
    · exact (show False by omega).elim

set_option maxHeartbeats 4000000 in
set_option maxRecDepth 100000 in
theorem nno_needWithin (θ : TH) (l : Launch) (hl0 : l.stackTraces = false) (S0 : State) (H : Heap) (hz : SZ θ S0 H) (v lo hi : Int) (hb_v : -2147483648 ≤ v ∧ v < 2147483648) (hb_lo : -2147483648 ≤ lo ∧ lo < 2147483648) (hb_hi : -2147483648 ≤ hi ∧ hi < 2147483648) (h_c : ¬ (lo ≤ v ∧ v ≤ hi)) : TX l yX1_needWithin cX1_needWithin 3 none 6 90 [.int (iI v), .int (iI lo), .int (iI hi)] S0 H "java/lang/IllegalArgumentException" := by
  refine ct_of (by decide +kernel) (Nat.le_of_ble_eq_true rfl) ?_
  intro pg en s mi args below meth co ls fx hs hr hlk hxt hin hl
  subst hs
  obtain ⟨hx, hb, hml, hown, hts⟩ := id fx.1
  have hS : va_S (fun q : Nat => s.heap.size ≤ q) s.heap s.heap [] := va_S.rf
  have hAB : ∀ q : Nat, (fun q : Nat => s.heap.size ≤ q) q → θ.2.2.2 ≤ q := fun q h => Nat.le_trans hz.2.1 h
  refine lv_iload_n hx hb dX1_needWithin_0 rfl (lv_at hl 0 rfl) ?_
  refine lv_iload_n hx hb dX1_needWithin_1 rfl (lv_at hl 1 rfl) ?_
  refine q_clt (tgt := 10) hx hb dX1_needWithin_2 (by decide) (by omega) (by omega) (fun c1 => ?_) (fun c1 => ?_)
  · exact e_thr fx hz hl0 (by decide +kernel) k175 k12 hz.2.2.2.2.2.2.2.2.2.2.2.1 at_ia gd_ia hAB hS hl dX1_needWithin_10 dX1_needWithin_13 dX1_needWithin_14 dX1_needWithin_17 dX1_needWithin_20 hxt hlk ⟨by decide, by decide⟩ ⟨by decide, by decide⟩ ⟨by decide, by decide⟩ (fun H1 h1 h2 => ⟨rfl, h1, h2⟩)
  · refine lv_iload_n hx hb dX1_needWithin_5 rfl (lv_at hl 0 rfl) ?_
    refine lv_iload_n hx hb dX1_needWithin_6 rfl (lv_at hl 2 rfl) ?_
    refine q_cle (tgt := 21) hx hb dX1_needWithin_7 (by decide) (by omega) (by omega) (fun c2 => ?_) (fun c2 => ?_)
    · exact (show False by omega).elim
    · exact e_thr fx hz hl0 (by decide +kernel) k175 k12 hz.2.2.2.2.2.2.2.2.2.2.2.1 at_ia gd_ia hAB hS hl dX1_needWithin_10 dX1_needWithin_13 dX1_needWithin_14 dX1_needWithin_17 dX1_needWithin_20 hxt hlk ⟨by decide, by decide⟩ ⟨by decide, by decide⟩ ⟨by decide, by decide⟩ (fun H1 h1 h2 => ⟨rfl, h1, h2⟩)

set_option maxHeartbeats 4000000 in
set_option maxRecDepth 100000 in
theorem nok_needMonth (l : Launch) (S0 : State) (H : Heap) (v : Int) (hb_v : -2147483648 ≤ v ∧ v < 2147483648) (h_c : -119988 ≤ v ∧ v ≤ 119999) : CT l yX1_needMonth cX1_needMonth 1 none 1 22 0 0 [.int (iI v)] S0 H (fun v H1 => v = none ∧ H1 = H) (fun _ _ => False) (fun _ => False) := by
  refine ct_of (by decide +kernel) (Nat.le_of_ble_eq_true rfl) ?_
  intro pg en s mi args below meth co ls fx hs hr hlk hxt hin hl
  subst hs
  obtain ⟨hx, hb, hml, hown, hts⟩ := id fx.1
  have hS : va_S (fun _ : Nat => False) s.heap s.heap [] := va_S.rf
  refine lv_iload_n hx hb dX1_needMonth_0 rfl (lv_at hl 0 rfl) ?_
  refine q_ldcw (n := -119988) hx hb hown (hts _ k746) (by decide) dX1_needMonth_1 ?_
  refine q_ldcw (n := 119999) hx hb hown (hts _ k747) (by decide) dX1_needMonth_4 ?_
  refine c_N (As := [.int (iI v), .int (iI (-119988)), .int (iI 119999)]) (rest := []) fx hl (nok_needWithin l S0 _ v (-119988) 119999 (by omega) (by omega) (by omega) (by omega)) dX1_needMonth_7 k172 k173 k1 k174 hd_X1_needWithin rfl ⟨by decide, by decide⟩ (Nat.le_of_ble_eq_true rfl) ⟨by dsimp only; omega, by dsimp only; omega⟩ ?_
  exact e_v hx hb hr hlk hS dX1_needMonth_10 (Nat.le_refl _) (Nat.le_refl _) ⟨rfl, rfl⟩

set_option maxHeartbeats 4000000 in
set_option maxRecDepth 100000 in
theorem nno_needMonth (θ : TH) (l : Launch) (hl0 : l.stackTraces = false) (S0 : State) (H : Heap) (hz : SZ θ S0 H) (v : Int) (hb_v : -2147483648 ≤ v ∧ v < 2147483648) (h_c : ¬ (-119988 ≤ v ∧ v ≤ 119999)) : TX l yX1_needMonth cX1_needMonth 1 none 7 112 [.int (iI v)] S0 H "java/lang/IllegalArgumentException" := by
  refine ct_of (by decide +kernel) (Nat.le_of_ble_eq_true rfl) ?_
  intro pg en s mi args below meth co ls fx hs hr hlk hxt hin hl
  subst hs
  obtain ⟨hx, hb, hml, hown, hts⟩ := id fx.1
  have hS : va_S (fun q : Nat => s.heap.size ≤ q) s.heap s.heap [] := va_S.rf
  have hAB : ∀ q : Nat, (fun q : Nat => s.heap.size ≤ q) q → θ.2.2.2 ≤ q := fun q h => Nat.le_trans hz.2.1 h
  refine lv_iload_n hx hb dX1_needMonth_0 rfl (lv_at hl 0 rfl) ?_
  refine q_ldcw (n := -119988) hx hb hown (hts _ k746) (by decide) dX1_needMonth_1 ?_
  refine q_ldcw (n := 119999) hx hb hown (hts _ k747) (by decide) dX1_needMonth_4 ?_
  exact e_cT (As := [.int (iI v), .int (iI (-119988)), .int (iI 119999)]) (rest := []) fx hl (nno_needWithin θ l hl0 S0 _ hz v (-119988) 119999 (by omega) (by omega) (by omega) (by omega)) dX1_needMonth_7 k172 k173 k1 k174 hd_X1_needWithin rfl ⟨by decide, by decide⟩ (Nat.le_of_ble_eq_true rfl) ⟨by decide, by decide⟩ ⟨by decide, by decide⟩ hS (fun _ h => h) hxt hlk (fun H1 h1 h2 => ⟨rfl, h1, h2⟩)

set_option maxHeartbeats 4000000 in
set_option maxRecDepth 100000 in
theorem nok_needMonths (l : Launch) (S0 : State) (H : Heap) (v : Int) (hb_v : -2147483648 ≤ v ∧ v < 2147483648) (h_c : -240000 ≤ v ∧ v ≤ 240000) : CT l yX1_needMonths cX1_needMonths 1 none 1 22 0 0 [.int (iI v)] S0 H (fun v H1 => v = none ∧ H1 = H) (fun _ _ => False) (fun _ => False) := by
  refine ct_of (by decide +kernel) (Nat.le_of_ble_eq_true rfl) ?_
  intro pg en s mi args below meth co ls fx hs hr hlk hxt hin hl
  subst hs
  obtain ⟨hx, hb, hml, hown, hts⟩ := id fx.1
  have hS : va_S (fun _ : Nat => False) s.heap s.heap [] := va_S.rf
  refine lv_iload_n hx hb dX1_needMonths_0 rfl (lv_at hl 0 rfl) ?_
  refine q_ldcw (n := -240000) hx hb hown (hts _ k643) (by decide) dX1_needMonths_1 ?_
  refine q_ldc (n := 240000) hx hb hown (hts _ k644) (by decide) dX1_needMonths_4 ?_
  refine c_N (As := [.int (iI v), .int (iI (-240000)), .int (iI 240000)]) (rest := []) fx hl (nok_needWithin l S0 _ v (-240000) 240000 (by omega) (by omega) (by omega) (by omega)) dX1_needMonths_6 k172 k173 k1 k174 hd_X1_needWithin rfl ⟨by decide, by decide⟩ (Nat.le_of_ble_eq_true rfl) ⟨by dsimp only; omega, by dsimp only; omega⟩ ?_
  exact e_v hx hb hr hlk hS dX1_needMonths_9 (Nat.le_refl _) (Nat.le_refl _) ⟨rfl, rfl⟩

set_option maxHeartbeats 4000000 in
set_option maxRecDepth 100000 in
theorem nno_needMonths (θ : TH) (l : Launch) (hl0 : l.stackTraces = false) (S0 : State) (H : Heap) (hz : SZ θ S0 H) (v : Int) (hb_v : -2147483648 ≤ v ∧ v < 2147483648) (h_c : ¬ (-240000 ≤ v ∧ v ≤ 240000)) : TX l yX1_needMonths cX1_needMonths 1 none 7 112 [.int (iI v)] S0 H "java/lang/IllegalArgumentException" := by
  refine ct_of (by decide +kernel) (Nat.le_of_ble_eq_true rfl) ?_
  intro pg en s mi args below meth co ls fx hs hr hlk hxt hin hl
  subst hs
  obtain ⟨hx, hb, hml, hown, hts⟩ := id fx.1
  have hS : va_S (fun q : Nat => s.heap.size ≤ q) s.heap s.heap [] := va_S.rf
  have hAB : ∀ q : Nat, (fun q : Nat => s.heap.size ≤ q) q → θ.2.2.2 ≤ q := fun q h => Nat.le_trans hz.2.1 h
  refine lv_iload_n hx hb dX1_needMonths_0 rfl (lv_at hl 0 rfl) ?_
  refine q_ldcw (n := -240000) hx hb hown (hts _ k643) (by decide) dX1_needMonths_1 ?_
  refine q_ldc (n := 240000) hx hb hown (hts _ k644) (by decide) dX1_needMonths_4 ?_
  exact e_cT (As := [.int (iI v), .int (iI (-240000)), .int (iI 240000)]) (rest := []) fx hl (nno_needWithin θ l hl0 S0 _ hz v (-240000) 240000 (by omega) (by omega) (by omega) (by omega)) dX1_needMonths_6 k172 k173 k1 k174 hd_X1_needWithin rfl ⟨by decide, by decide⟩ (Nat.le_of_ble_eq_true rfl) ⟨by decide, by decide⟩ ⟨by decide, by decide⟩ hS (fun _ h => h) hxt hlk (fun H1 h1 h2 => ⟨rfl, h1, h2⟩)

set_option maxHeartbeats 4000000 in
set_option maxRecDepth 100000 in
theorem nok_needDayOfMonth (l : Launch) (S0 : State) (H : Heap) (m k : Int) (hb_m : -19000000 ≤ m ∧ m ≤ 19000000) (hb_k : -2147483648 ≤ k ∧ k < 2147483648) (h_c : k ≤ fI (m + 1) - fI m) : CT l yX1_needDayOfMonth cX1_needDayOfMonth 2 none 3 67 0 0 [.int (iI m), .int (iI k)] S0 H (fun v H1 => v = none ∧ H1 = H) (fun _ _ => False) (fun _ => False) := by
  refine ct_of (by decide +kernel) (Nat.le_of_ble_eq_true rfl) ?_
  intro pg en s mi args below meth co ls fx hs hr hlk hxt hin hl
  subst hs
  obtain ⟨hx, hb, hml, hown, hts⟩ := id fx.1
  have hS : va_S (fun _ : Nat => False) s.heap s.heap [] := va_S.rf
  refine lv_iload_n hx hb dX1_needDayOfMonth_0 rfl (lv_at hl 1 rfl) ?_
  refine lv_iload_n hx hb dX1_needDayOfMonth_1 rfl (lv_at hl 0 rfl) ?_
  refine c_P (As := [.int (iI m)]) (rest := [.int (iI k)]) fx hl (pm_X0_lengthOf l m (by omega)) dX1_needDayOfMonth_2 k311 k148 k13 k149 hd_X0_lengthOf rfl ⟨by decide, by decide⟩ (Nat.le_of_ble_eq_true rfl) ⟨by omega, by omega⟩ ?_
  refine q_nm (fun z1 ez1 => ?_)
  have t0z1 := len_b m
  refine q_cle (tgt := 19) hx hb dX1_needDayOfMonth_5 (by decide) (by omega) (by omega) (fun c2 => ?_) (fun c2 => ?_)
  · exact e_v hx hb hr hlk hS dX1_needDayOfMonth_19 (Nat.le_refl _) (Nat.le_refl _) ⟨rfl, rfl⟩
  · exact (show False by omega).elim

set_option maxHeartbeats 4000000 in
set_option maxRecDepth 100000 in
theorem nno_needDayOfMonth (θ : TH) (l : Launch) (hl0 : l.stackTraces = false) (S0 : State) (H : Heap) (hz : SZ θ S0 H) (m k : Int) (hb_m : -19000000 ≤ m ∧ m ≤ 19000000) (hb_k : -2147483648 ≤ k ∧ k < 2147483648) (h_c : ¬ (k ≤ fI (m + 1) - fI m)) : TX l yX1_needDayOfMonth cX1_needDayOfMonth 2 none 6 90 [.int (iI m), .int (iI k)] S0 H "java/lang/IllegalStateException" := by
  refine ct_of (by decide +kernel) (Nat.le_of_ble_eq_true rfl) ?_
  intro pg en s mi args below meth co ls fx hs hr hlk hxt hin hl
  subst hs
  obtain ⟨hx, hb, hml, hown, hts⟩ := id fx.1
  have hS : va_S (fun q : Nat => s.heap.size ≤ q) s.heap s.heap [] := va_S.rf
  have hAB : ∀ q : Nat, (fun q : Nat => s.heap.size ≤ q) q → θ.2.2.2 ≤ q := fun q h => Nat.le_trans hz.2.1 h
  refine lv_iload_n hx hb dX1_needDayOfMonth_0 rfl (lv_at hl 1 rfl) ?_
  refine lv_iload_n hx hb dX1_needDayOfMonth_1 rfl (lv_at hl 0 rfl) ?_
  refine c_P (As := [.int (iI m)]) (rest := [.int (iI k)]) fx hl (pm_X0_lengthOf l m (by omega)) dX1_needDayOfMonth_2 k311 k148 k13 k149 hd_X0_lengthOf rfl ⟨by decide, by decide⟩ (Nat.le_of_ble_eq_true rfl) ⟨by omega, by omega⟩ ?_
  refine q_nm (fun z1 ez1 => ?_)
  have t0z1 := len_b m
  refine q_cle (tgt := 19) hx hb dX1_needDayOfMonth_5 (by decide) (by omega) (by omega) (fun c2 => ?_) (fun c2 => ?_)
  · exact (show False by omega).elim
  · exact e_thr fx hz hl0 (by decide +kernel) k706 k15 hz.2.2.2.2.2.2.2.2.2.2.2.2.1 at_is gd_is hAB hS hl dX1_needDayOfMonth_8 dX1_needDayOfMonth_11 dX1_needDayOfMonth_12 dX1_needDayOfMonth_15 dX1_needDayOfMonth_18 hxt hlk ⟨by decide, by decide⟩ ⟨by decide, by decide⟩ ⟨by decide, by decide⟩ (fun H1 h1 h2 => ⟨rfl, h1, h2⟩)

set_option maxHeartbeats 4000000 in
set_option maxRecDepth 100000 in
theorem nok_needDate (l : Launch) (S0 : State) (H : Heap) (v : Int) (hb_v : -2147483648 ≤ v ∧ v < 2147483648) (h_c : -4371587 ≤ v ∧ v ≤ 2932896) : CT l yX1_needDate cX1_needDate 1 none 0 0 0 0 [.int (iI v)] S0 H (fun v H1 => v = none ∧ H1 = H) (fun _ _ => False) (fun _ => False) := by
  refine ct_of (by decide +kernel) (Nat.le_of_ble_eq_true rfl) ?_
  intro pg en s mi args below meth co ls fx hs hr hlk hxt hin hl
  subst hs
  obtain ⟨hx, hb, hml, hown, hts⟩ := id fx.1
  have hS : va_S (fun _ : Nat => False) s.heap s.heap [] := va_S.rf
  refine lv_iload_n hx hb dX1_needDate_0 rfl (lv_at hl 0 rfl) ?_
  refine q_ldc (n := -4371587) hx hb hown (hts _ k734) (by decide) dX1_needDate_1 ?_
  refine q_clt (tgt := 12) hx hb dX1_needDate_3 (by decide) (by omega) (by omega) (fun c1 => ?_) (fun c1 => ?_)
  · exact (show False by omega).elim
  · refine lv_iload_n hx hb dX1_needDate_6 rfl (lv_at hl 0 rfl) ?_
    refine q_ldc (n := 2932896) hx hb hown (hts _ k735) (by decide) dX1_needDate_7 ?_
    refine q_cle (tgt := 23) hx hb dX1_needDate_9 (by decide) (by omega) (by omega) (fun c2 => ?_) (fun c2 => ?_)
    · exact e_v hx hb hr hlk hS dX1_needDate_23 (Nat.le_refl _) (Nat.le_refl _) ⟨rfl, rfl⟩
    · exact (show False by omega).elim

set_option maxHeartbeats 4000000 in
set_option maxRecDepth 100000 in
theorem nno_needDate (θ : TH) (l : Launch) (hl0 : l.stackTraces = false) (S0 : State) (H : Heap) (hz : SZ θ S0 H) (v : Int) (hb_v : -2147483648 ≤ v ∧ v < 2147483648) (h_c : ¬ (-4371587 ≤ v ∧ v ≤ 2932896)) : TX l yX1_needDate cX1_needDate 1 none 6 90 [.int (iI v)] S0 H "java/lang/IllegalStateException" := by
  refine ct_of (by decide +kernel) (Nat.le_of_ble_eq_true rfl) ?_
  intro pg en s mi args below meth co ls fx hs hr hlk hxt hin hl
  subst hs
  obtain ⟨hx, hb, hml, hown, hts⟩ := id fx.1
  have hS : va_S (fun q : Nat => s.heap.size ≤ q) s.heap s.heap [] := va_S.rf
  have hAB : ∀ q : Nat, (fun q : Nat => s.heap.size ≤ q) q → θ.2.2.2 ≤ q := fun q h => Nat.le_trans hz.2.1 h
  refine lv_iload_n hx hb dX1_needDate_0 rfl (lv_at hl 0 rfl) ?_
  refine q_ldc (n := -4371587) hx hb hown (hts _ k734) (by decide) dX1_needDate_1 ?_
  refine q_clt (tgt := 12) hx hb dX1_needDate_3 (by decide) (by omega) (by omega) (fun c1 => ?_) (fun c1 => ?_)
  · exact e_thr fx hz hl0 (by decide +kernel) k706 k15 hz.2.2.2.2.2.2.2.2.2.2.2.2.2.1 at_is gd_is hAB hS hl dX1_needDate_12 dX1_needDate_15 dX1_needDate_16 dX1_needDate_19 dX1_needDate_22 hxt hlk ⟨by decide, by decide⟩ ⟨by decide, by decide⟩ ⟨by decide, by decide⟩ (fun H1 h1 h2 => ⟨rfl, h1, h2⟩)
  · refine lv_iload_n hx hb dX1_needDate_6 rfl (lv_at hl 0 rfl) ?_
    refine q_ldc (n := 2932896) hx hb hown (hts _ k735) (by decide) dX1_needDate_7 ?_
    refine q_cle (tgt := 23) hx hb dX1_needDate_9 (by decide) (by omega) (by omega) (fun c2 => ?_) (fun c2 => ?_)
    · exact (show False by omega).elim
    · exact e_thr fx hz hl0 (by decide +kernel) k706 k15 hz.2.2.2.2.2.2.2.2.2.2.2.2.2.1 at_is gd_is hAB hS hl dX1_needDate_12 dX1_needDate_15 dX1_needDate_16 dX1_needDate_19 dX1_needDate_22 hxt hlk ⟨by decide, by decide⟩ ⟨by decide, by decide⟩ ⟨by decide, by decide⟩ (fun H1 h1 h2 => ⟨rfl, h1, h2⟩)

set_option maxHeartbeats 4000000 in
set_option maxRecDepth 100000 in
theorem nok_needNotAhead (l : Launch) (S0 : State) (H : Heap) (a b : Int) (hb_a : -2147483648 ≤ a ∧ a < 2147483648) (hb_b : -2147483648 ≤ b ∧ b < 2147483648) (h_c : b ≤ a) : CT l yX1_needNotAhead cX1_needNotAhead 2 none 0 0 0 0 [.int (iI a), .int (iI b)] S0 H (fun v H1 => v = none ∧ H1 = H) (fun _ _ => False) (fun _ => False) := by
  refine ct_of (by decide +kernel) (Nat.le_of_ble_eq_true rfl) ?_
  intro pg en s mi args below meth co ls fx hs hr hlk hxt hin hl
  subst hs
  obtain ⟨hx, hb, hml, hown, hts⟩ := id fx.1
  have hS : va_S (fun _ : Nat => False) s.heap s.heap [] := va_S.rf
  refine lv_iload_n hx hb dX1_needNotAhead_0 rfl (lv_at hl 0 rfl) ?_
  refine lv_iload_n hx hb dX1_needNotAhead_1 rfl (lv_at hl 1 rfl) ?_
  refine q_cge (tgt := 16) hx hb dX1_needNotAhead_2 (by decide) (by omega) (by omega) (fun c1 => ?_) (fun c1 => ?_)
  · exact e_v hx hb hr hlk hS dX1_needNotAhead_16 (Nat.le_refl _) (Nat.le_refl _) ⟨rfl, rfl⟩
  · exact (show False by omega).elim

set_option maxHeartbeats 4000000 in
set_option maxRecDepth 100000 in
theorem nno_needNotAhead (θ : TH) (l : Launch) (hl0 : l.stackTraces = false) (S0 : State) (H : Heap) (hz : SZ θ S0 H) (a b : Int) (hb_a : -2147483648 ≤ a ∧ a < 2147483648) (hb_b : -2147483648 ≤ b ∧ b < 2147483648) (h_c : ¬ (b ≤ a)) : TX l yX1_needNotAhead cX1_needNotAhead 2 none 6 90 [.int (iI a), .int (iI b)] S0 H "java/lang/IllegalStateException" := by
  refine ct_of (by decide +kernel) (Nat.le_of_ble_eq_true rfl) ?_
  intro pg en s mi args below meth co ls fx hs hr hlk hxt hin hl
  subst hs
  obtain ⟨hx, hb, hml, hown, hts⟩ := id fx.1
  have hS : va_S (fun q : Nat => s.heap.size ≤ q) s.heap s.heap [] := va_S.rf
  have hAB : ∀ q : Nat, (fun q : Nat => s.heap.size ≤ q) q → θ.2.2.2 ≤ q := fun q h => Nat.le_trans hz.2.1 h
  refine lv_iload_n hx hb dX1_needNotAhead_0 rfl (lv_at hl 0 rfl) ?_
  refine lv_iload_n hx hb dX1_needNotAhead_1 rfl (lv_at hl 1 rfl) ?_
  refine q_cge (tgt := 16) hx hb dX1_needNotAhead_2 (by decide) (by omega) (by omega) (fun c1 => ?_) (fun c1 => ?_)
  · exact (show False by omega).elim
  · exact e_thr fx hz hl0 (by decide +kernel) k706 k15 hz.2.2.2.2.2.2.2.2.2.2.2.2.2.2.1 at_is gd_is hAB hS hl dX1_needNotAhead_5 dX1_needNotAhead_8 dX1_needNotAhead_9 dX1_needNotAhead_12 dX1_needNotAhead_15 hxt hlk ⟨by decide, by decide⟩ ⟨by decide, by decide⟩ ⟨by decide, by decide⟩ (fun H1 h1 h2 => ⟨rfl, h1, h2⟩)

set_option maxHeartbeats 4000000 in
set_option maxRecDepth 100000 in
theorem nok_needOfSpan (l : Launch) (S0 : State) (H : Heap) (v w : Int) (hb_v : -2147483648 ≤ v ∧ v < 2147483648) (hb_w : 0 ≤ w ∧ w ≤ 1000000000) (h_c : -w ≤ v ∧ v ≤ w) : CT l yX1_needOfSpan cX1_needOfSpan 2 none 0 0 0 0 [.int (iI v), .int (iI w)] S0 H (fun v H1 => v = none ∧ H1 = H) (fun _ _ => False) (fun _ => False) := by
  refine ct_of (by decide +kernel) (Nat.le_of_ble_eq_true rfl) ?_
  intro pg en s mi args below meth co ls fx hs hr hlk hxt hin hl
  subst hs
  obtain ⟨hx, hb, hml, hown, hts⟩ := id fx.1
  have hS : va_S (fun _ : Nat => False) s.heap s.heap [] := va_S.rf
  refine lv_iload_n hx hb dX1_needOfSpan_0 rfl (lv_at hl 0 rfl) ?_
  refine lv_iload_n hx hb dX1_needOfSpan_1 rfl (lv_at hl 1 rfl) ?_
  refine q_neg hx hb dX1_needOfSpan_2 ?_
  refine q_clt (tgt := 11) hx hb dX1_needOfSpan_3 (by decide) (by omega) (by omega) (fun c1 => ?_) (fun c1 => ?_)
  · exact (show False by omega).elim
  · refine lv_iload_n hx hb dX1_needOfSpan_6 rfl (lv_at hl 0 rfl) ?_
    refine lv_iload_n hx hb dX1_needOfSpan_7 rfl (lv_at hl 1 rfl) ?_
    refine q_cle (tgt := 22) hx hb dX1_needOfSpan_8 (by decide) (by omega) (by omega) (fun c2 => ?_) (fun c2 => ?_)
    · exact e_v hx hb hr hlk hS dX1_needOfSpan_22 (Nat.le_refl _) (Nat.le_refl _) ⟨rfl, rfl⟩
    · exact (show False by omega).elim

set_option maxHeartbeats 4000000 in
set_option maxRecDepth 100000 in
theorem nno_needOfSpan (θ : TH) (l : Launch) (hl0 : l.stackTraces = false) (S0 : State) (H : Heap) (hz : SZ θ S0 H) (v w : Int) (hb_v : -2147483648 ≤ v ∧ v < 2147483648) (hb_w : 0 ≤ w ∧ w ≤ 1000000000) (h_c : ¬ (-w ≤ v ∧ v ≤ w)) : TX l yX1_needOfSpan cX1_needOfSpan 2 none 6 90 [.int (iI v), .int (iI w)] S0 H "java/lang/IllegalStateException" := by
  refine ct_of (by decide +kernel) (Nat.le_of_ble_eq_true rfl) ?_
  intro pg en s mi args below meth co ls fx hs hr hlk hxt hin hl
  subst hs
  obtain ⟨hx, hb, hml, hown, hts⟩ := id fx.1
  have hS : va_S (fun q : Nat => s.heap.size ≤ q) s.heap s.heap [] := va_S.rf
  have hAB : ∀ q : Nat, (fun q : Nat => s.heap.size ≤ q) q → θ.2.2.2 ≤ q := fun q h => Nat.le_trans hz.2.1 h
  refine lv_iload_n hx hb dX1_needOfSpan_0 rfl (lv_at hl 0 rfl) ?_
  refine lv_iload_n hx hb dX1_needOfSpan_1 rfl (lv_at hl 1 rfl) ?_
  refine q_neg hx hb dX1_needOfSpan_2 ?_
  refine q_clt (tgt := 11) hx hb dX1_needOfSpan_3 (by decide) (by omega) (by omega) (fun c1 => ?_) (fun c1 => ?_)
  · exact e_thr fx hz hl0 (by decide +kernel) k706 k15 hz.2.2.2.2.2.2.2.2.2.2.2.2.2.2.2 at_is gd_is hAB hS hl dX1_needOfSpan_11 dX1_needOfSpan_14 dX1_needOfSpan_15 dX1_needOfSpan_18 dX1_needOfSpan_21 hxt hlk ⟨by decide, by decide⟩ ⟨by decide, by decide⟩ ⟨by decide, by decide⟩ (fun H1 h1 h2 => ⟨rfl, h1, h2⟩)
  · refine lv_iload_n hx hb dX1_needOfSpan_6 rfl (lv_at hl 0 rfl) ?_
    refine lv_iload_n hx hb dX1_needOfSpan_7 rfl (lv_at hl 1 rfl) ?_
    refine q_cle (tgt := 22) hx hb dX1_needOfSpan_8 (by decide) (by omega) (by omega) (fun c2 => ?_) (fun c2 => ?_)
    · exact (show False by omega).elim
    · exact e_thr fx hz hl0 (by decide +kernel) k706 k15 hz.2.2.2.2.2.2.2.2.2.2.2.2.2.2.2 at_is gd_is hAB hS hl dX1_needOfSpan_11 dX1_needOfSpan_14 dX1_needOfSpan_15 dX1_needOfSpan_18 dX1_needOfSpan_21 hxt hlk ⟨by decide, by decide⟩ ⟨by decide, by decide⟩ ⟨by decide, by decide⟩ (fun H1 h1 h2 => ⟨rfl, h1, h2⟩)

set_option maxHeartbeats 4000000 in
set_option maxRecDepth 100000 in
theorem ok_month (θ : TH) (l : Launch) (hl0 : l.stackTraces = false) (S0 : State) (H : Heap) (u : Nat → Nat) (dt sy sm sd : Nat → Int) (bc rf kn : Int) (hw : CWR θ S0 u H dt sy sm sd bc rf kn) (a : Int) (h_0 : -2147483648 ≤ a ∧ a < 2147483648) (h_1 : 0 ≤ a ∧ a < 6) : CT l yX1_month cX1_month 2 (some .int) 3 70 0 0 [.ref (u 0), .int (iI a)] S0 H (fun v H1 => v = some (.int (iI (mI (dt a.toNat)))) ∧ H1 = H) (fun _ _ => False) (fun _ => False) := by
  refine ct_of (by decide +kernel) (Nat.le_of_ble_eq_true rfl) ?_
  intro pg en s mi args below meth co ls fx hs hr hlk hxt hin hl
  subst hs
  obtain ⟨hx, hb, hml, hown, hts⟩ := id fx.1
  have hS : va_S (fun _ : Nat => False) s.heap s.heap [] := va_S.rf
  obtain ⟨hz, hu, ⟨ho, ha1, ha2, ha3, ha4, hsb⟩, hd, hsp⟩ := id hw
  have hAB : ∀ q : Nat, (fun _ : Nat => False) q → θ.2.2.2 ≤ q := fun _ h => h.elim
  have hz0 := hz
  have hK := sz_K fx.2 hz
  refine lv_iload_n hx hb dX1_month_0 rfl (lv_at hl 1 rfl) ?_
  refine c_N (As := [.int (iI a)]) (rest := []) fx hl (nok_needPlace l S0 _ a (by omega) (by omega)) dX1_month_1 k260 k261 k1 k262 hd_X1_needPlace rfl ⟨by decide, by decide⟩ (Nat.le_of_ble_eq_true rfl) ⟨by dsimp only; omega, by dsimp only; omega⟩ ?_
  refine lv_aload_n hx hb dX1_month_4 rfl (lv_at hl 0 rfl) ?_
  refine r_get (θ := θ) (C := RX1) (T := TX1) (N := 8) (ci := 7) hx hb hts gwX1 hown hK ho rfl 0 (by decide) k73 (fun _ h => h) (v := .ref (u 1)) rfl dX1_month_5 ?_
  refine lv_iload_n hx hb dX1_month_8 rfl (lv_at hl 1 rfl) ?_
  refine r_iald (θ := θ) hx hb hK ha1 (i := a) (by omega) (by decide) dX1_month_9 ?_
  have tr1 := hd (a.toNat) (by omega)
  refine c_P (As := [.int (iI (dt a.toNat))]) (rest := []) fx hl (pm_X0_monthOf l (dt a.toNat) (by omega)) dX1_month_10 k283 k110 k13 k111 hd_X0_monthOf rfl ⟨by decide, by decide⟩ (Nat.le_of_ble_eq_true rfl) ⟨by omega, by omega⟩ ?_
  have t0z2 := mI_s (dt a.toNat)
  have t1z2 := mI_bd (dt a.toNat)
  have t2z2 := len_b (mI (dt a.toNat))
  exact e_i hx hb hr hlk hS dX1_month_13 (Nat.le_refl _) (Nat.le_refl _) ⟨ex_i (by omega), rfl⟩

set_option maxHeartbeats 4000000 in
set_option maxRecDepth 100000 in
theorem no1_month (θ : TH) (l : Launch) (hl0 : l.stackTraces = false) (S0 : State) (H : Heap) (u : Nat → Nat) (dt sy sm sd : Nat → Int) (bc rf kn : Int) (hw : CWR θ S0 u H dt sy sm sd bc rf kn) (a : Int) (h_0 : -2147483648 ≤ a ∧ a < 2147483648) (h_1 : ¬ (0 ≤ a ∧ a < 6)) : TX l yX1_month cX1_month 2 (some .int) 7 110 [.ref (u 0), .int (iI a)] S0 H "java/lang/IndexOutOfBoundsException" := by
  refine ct_of (by decide +kernel) (Nat.le_of_ble_eq_true rfl) ?_
  intro pg en s mi args below meth co ls fx hs hr hlk hxt hin hl
  subst hs
  obtain ⟨hx, hb, hml, hown, hts⟩ := id fx.1
  have hS : va_S (fun q : Nat => s.heap.size ≤ q) s.heap s.heap [] := va_S.rf
  obtain ⟨hz, hu, ⟨ho, ha1, ha2, ha3, ha4, hsb⟩, hd, hsp⟩ := id hw
  have hAB : ∀ q : Nat, (fun q : Nat => s.heap.size ≤ q) q → θ.2.2.2 ≤ q := fun q h => Nat.le_trans hz.2.1 h
  have hz0 := hz
  have hK := sz_K fx.2 hz
  refine lv_iload_n hx hb dX1_month_0 rfl (lv_at hl 1 rfl) ?_
  exact e_cT (As := [.int (iI a)]) (rest := []) fx hl (nno_needPlace θ l hl0 S0 _ hz a (by omega) (by omega)) dX1_month_1 k260 k261 k1 k262 hd_X1_needPlace rfl ⟨by decide, by decide⟩ (Nat.le_of_ble_eq_true rfl) ⟨by decide, by decide⟩ ⟨by decide, by decide⟩ hS (fun _ h => h) hxt hlk (fun H1 h1 h2 => ⟨rfl, h1, h2⟩)

set_option maxHeartbeats 4000000 in
set_option maxRecDepth 100000 in
theorem ok_weekday (θ : TH) (l : Launch) (hl0 : l.stackTraces = false) (S0 : State) (H : Heap) (u : Nat → Nat) (dt sy sm sd : Nat → Int) (bc rf kn : Int) (hw : CWR θ S0 u H dt sy sm sd bc rf kn) (a : Int) (h_0 : -2147483648 ≤ a ∧ a < 2147483648) (h_1 : 0 ≤ a ∧ a < 6) : CT l yX1_weekday cX1_weekday 2 (some .int) 2 42 0 0 [.ref (u 0), .int (iI a)] S0 H (fun v H1 => v = some (.int (iI (wI (dt a.toNat)))) ∧ H1 = H) (fun _ _ => False) (fun _ => False) := by
  refine ct_of (by decide +kernel) (Nat.le_of_ble_eq_true rfl) ?_
  intro pg en s mi args below meth co ls fx hs hr hlk hxt hin hl
  subst hs
  obtain ⟨hx, hb, hml, hown, hts⟩ := id fx.1
  have hS : va_S (fun _ : Nat => False) s.heap s.heap [] := va_S.rf
  obtain ⟨hz, hu, ⟨ho, ha1, ha2, ha3, ha4, hsb⟩, hd, hsp⟩ := id hw
  have hAB : ∀ q : Nat, (fun _ : Nat => False) q → θ.2.2.2 ≤ q := fun _ h => h.elim
  have hz0 := hz
  have hK := sz_K fx.2 hz
  refine lv_iload_n hx hb dX1_weekday_0 rfl (lv_at hl 1 rfl) ?_
  refine c_N (As := [.int (iI a)]) (rest := []) fx hl (nok_needPlace l S0 _ a (by omega) (by omega)) dX1_weekday_1 k260 k261 k1 k262 hd_X1_needPlace rfl ⟨by decide, by decide⟩ (Nat.le_of_ble_eq_true rfl) ⟨by dsimp only; omega, by dsimp only; omega⟩ ?_
  refine lv_aload_n hx hb dX1_weekday_4 rfl (lv_at hl 0 rfl) ?_
  refine r_get (θ := θ) (C := RX1) (T := TX1) (N := 8) (ci := 7) hx hb hts gwX1 hown hK ho rfl 0 (by decide) k73 (fun _ h => h) (v := .ref (u 1)) rfl dX1_weekday_5 ?_
  refine lv_iload_n hx hb dX1_weekday_8 rfl (lv_at hl 1 rfl) ?_
  refine r_iald (θ := θ) hx hb hK ha1 (i := a) (by omega) (by decide) dX1_weekday_9 ?_
  have tr1 := hd (a.toNat) (by omega)
  refine c_P (As := [.int (iI (dt a.toNat))]) (rest := []) fx hl (pm_X0_weekdayOf l (dt a.toNat) (by omega)) dX1_weekday_10 k293 k294 k13 k295 hd_X0_weekdayOf rfl ⟨by decide, by decide⟩ (Nat.le_of_ble_eq_true rfl) ⟨by omega, by omega⟩ ?_
  have t0z2 := wI_b (dt a.toNat)
  exact e_i hx hb hr hlk hS dX1_weekday_13 (Nat.le_refl _) (Nat.le_refl _) ⟨ex_i (by omega), rfl⟩

set_option maxHeartbeats 4000000 in
set_option maxRecDepth 100000 in
theorem no1_weekday (θ : TH) (l : Launch) (hl0 : l.stackTraces = false) (S0 : State) (H : Heap) (u : Nat → Nat) (dt sy sm sd : Nat → Int) (bc rf kn : Int) (hw : CWR θ S0 u H dt sy sm sd bc rf kn) (a : Int) (h_0 : -2147483648 ≤ a ∧ a < 2147483648) (h_1 : ¬ (0 ≤ a ∧ a < 6)) : TX l yX1_weekday cX1_weekday 2 (some .int) 7 110 [.ref (u 0), .int (iI a)] S0 H "java/lang/IndexOutOfBoundsException" := by
  refine ct_of (by decide +kernel) (Nat.le_of_ble_eq_true rfl) ?_
  intro pg en s mi args below meth co ls fx hs hr hlk hxt hin hl
  subst hs
  obtain ⟨hx, hb, hml, hown, hts⟩ := id fx.1
  have hS : va_S (fun q : Nat => s.heap.size ≤ q) s.heap s.heap [] := va_S.rf
  obtain ⟨hz, hu, ⟨ho, ha1, ha2, ha3, ha4, hsb⟩, hd, hsp⟩ := id hw
  have hAB : ∀ q : Nat, (fun q : Nat => s.heap.size ≤ q) q → θ.2.2.2 ≤ q := fun q h => Nat.le_trans hz.2.1 h
  have hz0 := hz
  have hK := sz_K fx.2 hz
  refine lv_iload_n hx hb dX1_weekday_0 rfl (lv_at hl 1 rfl) ?_
  exact e_cT (As := [.int (iI a)]) (rest := []) fx hl (nno_needPlace θ l hl0 S0 _ hz a (by omega) (by omega)) dX1_weekday_1 k260 k261 k1 k262 hd_X1_needPlace rfl ⟨by decide, by decide⟩ (Nat.le_of_ble_eq_true rfl) ⟨by decide, by decide⟩ ⟨by decide, by decide⟩ hS (fun _ h => h) hxt hlk (fun H1 h1 h2 => ⟨rfl, h1, h2⟩)

set_option maxHeartbeats 4000000 in
set_option maxRecDepth 100000 in
theorem ok_year (θ : TH) (l : Launch) (hl0 : l.stackTraces = false) (S0 : State) (H : Heap) (u : Nat → Nat) (dt sy sm sd : Nat → Int) (bc rf kn : Int) (hw : CWR θ S0 u H dt sy sm sd bc rf kn) (a : Int) (h_0 : -2147483648 ≤ a ∧ a < 2147483648) (h_1 : 0 ≤ a ∧ a < 6) : CT l yX1_year cX1_year 2 (some .int) 4 90 0 0 [.ref (u 0), .int (iI a)] S0 H (fun v H1 => v = some (.int (iI (mI (dt a.toNat) / 12))) ∧ H1 = H) (fun _ _ => False) (fun _ => False) := by
  refine ct_of (by decide +kernel) (Nat.le_of_ble_eq_true rfl) ?_
  intro pg en s mi args below meth co ls fx hs hr hlk hxt hin hl
  subst hs
  obtain ⟨hx, hb, hml, hown, hts⟩ := id fx.1
  have hS : va_S (fun _ : Nat => False) s.heap s.heap [] := va_S.rf
  obtain ⟨hz, hu, ⟨ho, ha1, ha2, ha3, ha4, hsb⟩, hd, hsp⟩ := id hw
  have hAB : ∀ q : Nat, (fun _ : Nat => False) q → θ.2.2.2 ≤ q := fun _ h => h.elim
  have hz0 := hz
  have hK := sz_K fx.2 hz
  refine lv_iload_n hx hb dX1_year_0 rfl (lv_at hl 1 rfl) ?_
  refine c_N (As := [.int (iI a)]) (rest := []) fx hl (nok_needPlace l S0 _ a (by omega) (by omega)) dX1_year_1 k260 k261 k1 k262 hd_X1_needPlace rfl ⟨by decide, by decide⟩ (Nat.le_of_ble_eq_true rfl) ⟨by dsimp only; omega, by dsimp only; omega⟩ ?_
  refine lv_aload_n hx hb dX1_year_4 rfl (lv_at hl 0 rfl) ?_
  refine r_get (θ := θ) (C := RX1) (T := TX1) (N := 8) (ci := 7) hx hb hts gwX1 hown hK ho rfl 0 (by decide) k73 (fun _ h => h) (v := .ref (u 1)) rfl dX1_year_5 ?_
  refine lv_iload_n hx hb dX1_year_8 rfl (lv_at hl 1 rfl) ?_
  refine r_iald (θ := θ) hx hb hK ha1 (i := a) (by omega) (by decide) dX1_year_9 ?_
  have tr1 := hd (a.toNat) (by omega)
  refine c_P (As := [.int (iI (dt a.toNat))]) (rest := []) fx hl (pm_X0_yearOf l (dt a.toNat) (by omega)) dX1_year_10 k300 k301 k13 k302 hd_X0_yearOf rfl ⟨by decide, by decide⟩ (Nat.le_of_ble_eq_true rfl) ⟨by omega, by omega⟩ ?_
  refine q_nm (fun z2 ez2 => ?_)
  have t0z2 := mI_bd (dt a.toNat)
  exact e_i hx hb hr hlk hS dX1_year_13 (Nat.le_refl _) (Nat.le_refl _) ⟨ex_i (by omega), rfl⟩

set_option maxHeartbeats 4000000 in
set_option maxRecDepth 100000 in
theorem no1_year (θ : TH) (l : Launch) (hl0 : l.stackTraces = false) (S0 : State) (H : Heap) (u : Nat → Nat) (dt sy sm sd : Nat → Int) (bc rf kn : Int) (hw : CWR θ S0 u H dt sy sm sd bc rf kn) (a : Int) (h_0 : -2147483648 ≤ a ∧ a < 2147483648) (h_1 : ¬ (0 ≤ a ∧ a < 6)) : TX l yX1_year cX1_year 2 (some .int) 7 110 [.ref (u 0), .int (iI a)] S0 H "java/lang/IndexOutOfBoundsException" := by
  refine ct_of (by decide +kernel) (Nat.le_of_ble_eq_true rfl) ?_
  intro pg en s mi args below meth co ls fx hs hr hlk hxt hin hl
  subst hs
  obtain ⟨hx, hb, hml, hown, hts⟩ := id fx.1
  have hS : va_S (fun q : Nat => s.heap.size ≤ q) s.heap s.heap [] := va_S.rf
  obtain ⟨hz, hu, ⟨ho, ha1, ha2, ha3, ha4, hsb⟩, hd, hsp⟩ := id hw
  have hAB : ∀ q : Nat, (fun q : Nat => s.heap.size ≤ q) q → θ.2.2.2 ≤ q := fun q h => Nat.le_trans hz.2.1 h
  have hz0 := hz
  have hK := sz_K fx.2 hz
  refine lv_iload_n hx hb dX1_year_0 rfl (lv_at hl 1 rfl) ?_
  exact e_cT (As := [.int (iI a)]) (rest := []) fx hl (nno_needPlace θ l hl0 S0 _ hz a (by omega) (by omega)) dX1_year_1 k260 k261 k1 k262 hd_X1_needPlace rfl ⟨by decide, by decide⟩ (Nat.le_of_ble_eq_true rfl) ⟨by decide, by decide⟩ ⟨by decide, by decide⟩ hS (fun _ h => h) hxt hlk (fun H1 h1 h2 => ⟨rfl, h1, h2⟩)

set_option maxHeartbeats 4000000 in
set_option maxRecDepth 100000 in
theorem ok_monthOfYear (θ : TH) (l : Launch) (hl0 : l.stackTraces = false) (S0 : State) (H : Heap) (u : Nat → Nat) (dt sy sm sd : Nat → Int) (bc rf kn : Int) (hw : CWR θ S0 u H dt sy sm sd bc rf kn) (a : Int) (h_0 : -2147483648 ≤ a ∧ a < 2147483648) (h_1 : 0 ≤ a ∧ a < 6) : CT l yX1_monthOfYear cX1_monthOfYear 2 (some .int) 3 70 0 0 [.ref (u 0), .int (iI a)] S0 H (fun v H1 => v = some (.int (iI (mI (dt a.toNat) % 12 + 1))) ∧ H1 = H) (fun _ _ => False) (fun _ => False) := by
  refine ct_of (by decide +kernel) (Nat.le_of_ble_eq_true rfl) ?_
  intro pg en s mi args below meth co ls fx hs hr hlk hxt hin hl
  subst hs
  obtain ⟨hx, hb, hml, hown, hts⟩ := id fx.1
  have hS : va_S (fun _ : Nat => False) s.heap s.heap [] := va_S.rf
  obtain ⟨hz, hu, ⟨ho, ha1, ha2, ha3, ha4, hsb⟩, hd, hsp⟩ := id hw
  have hAB : ∀ q : Nat, (fun _ : Nat => False) q → θ.2.2.2 ≤ q := fun _ h => h.elim
  have hz0 := hz
  have hK := sz_K fx.2 hz
  refine lv_iload_n hx hb dX1_monthOfYear_0 rfl (lv_at hl 1 rfl) ?_
  refine c_N (As := [.int (iI a)]) (rest := []) fx hl (nok_needPlace l S0 _ a (by omega) (by omega)) dX1_monthOfYear_1 k260 k261 k1 k262 hd_X1_needPlace rfl ⟨by decide, by decide⟩ (Nat.le_of_ble_eq_true rfl) ⟨by dsimp only; omega, by dsimp only; omega⟩ ?_
  refine lv_aload_n hx hb dX1_monthOfYear_4 rfl (lv_at hl 0 rfl) ?_
  refine r_get (θ := θ) (C := RX1) (T := TX1) (N := 8) (ci := 7) hx hb hts gwX1 hown hK ho rfl 0 (by decide) k73 (fun _ h => h) (v := .ref (u 1)) rfl dX1_monthOfYear_5 ?_
  refine lv_iload_n hx hb dX1_monthOfYear_8 rfl (lv_at hl 1 rfl) ?_
  refine r_iald (θ := θ) hx hb hK ha1 (i := a) (by omega) (by decide) dX1_monthOfYear_9 ?_
  have tr1 := hd (a.toNat) (by omega)
  refine c_P (As := [.int (iI (dt a.toNat))]) (rest := []) fx hl (pm_X0_monthOf l (dt a.toNat) (by omega)) dX1_monthOfYear_10 k283 k110 k13 k111 hd_X0_monthOf rfl ⟨by decide, by decide⟩ (Nat.le_of_ble_eq_true rfl) ⟨by omega, by omega⟩ ?_
  have t0z2 := mI_s (dt a.toNat)
  have t1z2 := mI_bd (dt a.toNat)
  have t2z2 := len_b (mI (dt a.toNat))
  refine c_P (As := [.int (iI (mI (dt a.toNat)))]) (rest := []) fx hl (pm_X0_monthInYear l (mI (dt a.toNat)) (by omega)) dX1_monthOfYear_13 k627 k628 k13 k629 hd_X0_monthInYear rfl ⟨by decide, by decide⟩ (Nat.le_of_ble_eq_true rfl) ⟨by omega, by omega⟩ ?_
  refine q_nm (fun z3 ez3 => ?_)
  exact e_i hx hb hr hlk hS dX1_monthOfYear_16 (Nat.le_refl _) (Nat.le_refl _) ⟨ex_i (by omega), rfl⟩

set_option maxHeartbeats 4000000 in
set_option maxRecDepth 100000 in
theorem no1_monthOfYear (θ : TH) (l : Launch) (hl0 : l.stackTraces = false) (S0 : State) (H : Heap) (u : Nat → Nat) (dt sy sm sd : Nat → Int) (bc rf kn : Int) (hw : CWR θ S0 u H dt sy sm sd bc rf kn) (a : Int) (h_0 : -2147483648 ≤ a ∧ a < 2147483648) (h_1 : ¬ (0 ≤ a ∧ a < 6)) : TX l yX1_monthOfYear cX1_monthOfYear 2 (some .int) 7 110 [.ref (u 0), .int (iI a)] S0 H "java/lang/IndexOutOfBoundsException" := by
  refine ct_of (by decide +kernel) (Nat.le_of_ble_eq_true rfl) ?_
  intro pg en s mi args below meth co ls fx hs hr hlk hxt hin hl
  subst hs
  obtain ⟨hx, hb, hml, hown, hts⟩ := id fx.1
  have hS : va_S (fun q : Nat => s.heap.size ≤ q) s.heap s.heap [] := va_S.rf
  obtain ⟨hz, hu, ⟨ho, ha1, ha2, ha3, ha4, hsb⟩, hd, hsp⟩ := id hw
  have hAB : ∀ q : Nat, (fun q : Nat => s.heap.size ≤ q) q → θ.2.2.2 ≤ q := fun q h => Nat.le_trans hz.2.1 h
  have hz0 := hz
  have hK := sz_K fx.2 hz
  refine lv_iload_n hx hb dX1_monthOfYear_0 rfl (lv_at hl 1 rfl) ?_
  exact e_cT (As := [.int (iI a)]) (rest := []) fx hl (nno_needPlace θ l hl0 S0 _ hz a (by omega) (by omega)) dX1_monthOfYear_1 k260 k261 k1 k262 hd_X1_needPlace rfl ⟨by decide, by decide⟩ (Nat.le_of_ble_eq_true rfl) ⟨by decide, by decide⟩ ⟨by decide, by decide⟩ hS (fun _ h => h) hxt hlk (fun H1 h1 h2 => ⟨rfl, h1, h2⟩)

set_option maxHeartbeats 4000000 in
set_option maxRecDepth 100000 in
theorem ok_day (θ : TH) (l : Launch) (hl0 : l.stackTraces = false) (S0 : State) (H : Heap) (u : Nat → Nat) (dt sy sm sd : Nat → Int) (bc rf kn : Int) (hw : CWR θ S0 u H dt sy sm sd bc rf kn) (a : Int) (h_0 : -2147483648 ≤ a ∧ a < 2147483648) (h_1 : 0 ≤ a ∧ a < 6) : CT l yX1_day cX1_day 2 (some .int) 4 90 0 0 [.ref (u 0), .int (iI a)] S0 H (fun v H1 => v = some (.int (iI (dI (dt a.toNat)))) ∧ H1 = H) (fun _ _ => False) (fun _ => False) := by
  refine ct_of (by decide +kernel) (Nat.le_of_ble_eq_true rfl) ?_
  intro pg en s mi args below meth co ls fx hs hr hlk hxt hin hl
  subst hs
  obtain ⟨hx, hb, hml, hown, hts⟩ := id fx.1
  have hS : va_S (fun _ : Nat => False) s.heap s.heap [] := va_S.rf
  obtain ⟨hz, hu, ⟨ho, ha1, ha2, ha3, ha4, hsb⟩, hd, hsp⟩ := id hw
  have hAB : ∀ q : Nat, (fun _ : Nat => False) q → θ.2.2.2 ≤ q := fun _ h => h.elim
  have hz0 := hz
  have hK := sz_K fx.2 hz
  refine lv_iload_n hx hb dX1_day_0 rfl (lv_at hl 1 rfl) ?_
  refine c_N (As := [.int (iI a)]) (rest := []) fx hl (nok_needPlace l S0 _ a (by omega) (by omega)) dX1_day_1 k260 k261 k1 k262 hd_X1_needPlace rfl ⟨by decide, by decide⟩ (Nat.le_of_ble_eq_true rfl) ⟨by dsimp only; omega, by dsimp only; omega⟩ ?_
  refine lv_aload_n hx hb dX1_day_4 rfl (lv_at hl 0 rfl) ?_
  refine r_get (θ := θ) (C := RX1) (T := TX1) (N := 8) (ci := 7) hx hb hts gwX1 hown hK ho rfl 0 (by decide) k73 (fun _ h => h) (v := .ref (u 1)) rfl dX1_day_5 ?_
  refine lv_iload_n hx hb dX1_day_8 rfl (lv_at hl 1 rfl) ?_
  refine r_iald (θ := θ) hx hb hK ha1 (i := a) (by omega) (by decide) dX1_day_9 ?_
  have tr1 := hd (a.toNat) (by omega)
  refine c_P (As := [.int (iI (dt a.toNat))]) (rest := []) fx hl (pm_X0_dayOf l (dt a.toNat) (by omega)) dX1_day_10 k288 k129 k13 k130 hd_X0_dayOf rfl ⟨by decide, by decide⟩ (Nat.le_of_ble_eq_true rfl) ⟨by omega, by omega⟩ ?_
  have t0z2 := dI_b (dt a.toNat)
  exact e_i hx hb hr hlk hS dX1_day_13 (Nat.le_refl _) (Nat.le_refl _) ⟨ex_i (by omega), rfl⟩

set_option maxHeartbeats 4000000 in
set_option maxRecDepth 100000 in
theorem no1_day (θ : TH) (l : Launch) (hl0 : l.stackTraces = false) (S0 : State) (H : Heap) (u : Nat → Nat) (dt sy sm sd : Nat → Int) (bc rf kn : Int) (hw : CWR θ S0 u H dt sy sm sd bc rf kn) (a : Int) (h_0 : -2147483648 ≤ a ∧ a < 2147483648) (h_1 : ¬ (0 ≤ a ∧ a < 6)) : TX l yX1_day cX1_day 2 (some .int) 7 110 [.ref (u 0), .int (iI a)] S0 H "java/lang/IndexOutOfBoundsException" := by
  refine ct_of (by decide +kernel) (Nat.le_of_ble_eq_true rfl) ?_
  intro pg en s mi args below meth co ls fx hs hr hlk hxt hin hl
  subst hs
  obtain ⟨hx, hb, hml, hown, hts⟩ := id fx.1
  have hS : va_S (fun q : Nat => s.heap.size ≤ q) s.heap s.heap [] := va_S.rf
  obtain ⟨hz, hu, ⟨ho, ha1, ha2, ha3, ha4, hsb⟩, hd, hsp⟩ := id hw
  have hAB : ∀ q : Nat, (fun q : Nat => s.heap.size ≤ q) q → θ.2.2.2 ≤ q := fun q h => Nat.le_trans hz.2.1 h
  have hz0 := hz
  have hK := sz_K fx.2 hz
  refine lv_iload_n hx hb dX1_day_0 rfl (lv_at hl 1 rfl) ?_
  exact e_cT (As := [.int (iI a)]) (rest := []) fx hl (nno_needPlace θ l hl0 S0 _ hz a (by omega) (by omega)) dX1_day_1 k260 k261 k1 k262 hd_X1_needPlace rfl ⟨by decide, by decide⟩ (Nat.le_of_ble_eq_true rfl) ⟨by decide, by decide⟩ ⟨by decide, by decide⟩ hS (fun _ h => h) hxt hlk (fun H1 h1 h2 => ⟨rfl, h1, h2⟩)

set_option maxHeartbeats 4000000 in
set_option maxRecDepth 100000 in
theorem ok_dayOfYear (θ : TH) (l : Launch) (hl0 : l.stackTraces = false) (S0 : State) (H : Heap) (u : Nat → Nat) (dt sy sm sd : Nat → Int) (bc rf kn : Int) (hw : CWR θ S0 u H dt sy sm sd bc rf kn) (a : Int) (h_0 : -2147483648 ≤ a ∧ a < 2147483648) (h_1 : 0 ≤ a ∧ a < 6) : CT l yX1_dayOfYear cX1_dayOfYear 3 (some .int) 4 90 0 0 [.ref (u 0), .int (iI a)] S0 H (fun v H1 => v = some (.int (iI (dt a.toNat - fI (12 * (mI (dt a.toNat) / 12)) + 1))) ∧ H1 = H) (fun _ _ => False) (fun _ => False) := by
  refine ct_of (by decide +kernel) (Nat.le_of_ble_eq_true rfl) ?_
  intro pg en s mi args below meth co ls fx hs hr hlk hxt hin hl
  subst hs
  obtain ⟨hx, hb, hml, hown, hts⟩ := id fx.1
  have hS : va_S (fun _ : Nat => False) s.heap s.heap [] := va_S.rf
  obtain ⟨hz, hu, ⟨ho, ha1, ha2, ha3, ha4, hsb⟩, hd, hsp⟩ := id hw
  have hAB : ∀ q : Nat, (fun _ : Nat => False) q → θ.2.2.2 ≤ q := fun _ h => h.elim
  have hz0 := hz
  have hK := sz_K fx.2 hz
  refine lv_iload_n hx hb dX1_dayOfYear_0 rfl (lv_at hl 1 rfl) ?_
  refine c_N (As := [.int (iI a)]) (rest := []) fx hl (nok_needPlace l S0 _ a (by omega) (by omega)) dX1_dayOfYear_1 k260 k261 k1 k262 hd_X1_needPlace rfl ⟨by decide, by decide⟩ (Nat.le_of_ble_eq_true rfl) ⟨by dsimp only; omega, by dsimp only; omega⟩ ?_
  refine q_bip hx hb dX1_dayOfYear_4 (by decide) ?_
  refine lv_aload_n hx hb dX1_dayOfYear_6 rfl (lv_at hl 0 rfl) ?_
  refine r_get (θ := θ) (C := RX1) (T := TX1) (N := 8) (ci := 7) hx hb hts gwX1 hown hK ho rfl 0 (by decide) k73 (fun _ h => h) (v := .ref (u 1)) rfl dX1_dayOfYear_7 ?_
  refine lv_iload_n hx hb dX1_dayOfYear_10 rfl (lv_at hl 1 rfl) ?_
  refine r_iald (θ := θ) hx hb hK ha1 (i := a) (by omega) (by decide) dX1_dayOfYear_11 ?_
  have tr1 := hd (a.toNat) (by omega)
  refine c_P (As := [.int (iI (dt a.toNat))]) (rest := [.int (iI 12)]) fx hl (pm_X0_yearOf l (dt a.toNat) (by omega)) dX1_dayOfYear_12 k300 k301 k13 k302 hd_X0_yearOf rfl ⟨by decide, by decide⟩ (Nat.le_of_ble_eq_true rfl) ⟨by omega, by omega⟩ ?_
  refine q_nm (fun z2 ez2 => ?_)
  have t0z2 := mI_bd (dt a.toNat)
  refine q_mul hx hb dX1_dayOfYear_15 ?_
  refine q_nm (fun z3 ez3 => ?_)
  refine lv_istore_n (lv' := [(2, .int (iI z3)), (0, .ref (u 0)), (1, .int (iI a))]) hx hb dX1_dayOfYear_16 rfl hl (by decide) rfl (fun ls hl => ?_)
  refine lv_aload_n hx hb dX1_dayOfYear_17 rfl (lv_at hl 1 rfl) ?_
  refine r_get (θ := θ) (C := RX1) (T := TX1) (N := 8) (ci := 7) hx hb hts gwX1 hown hK ho rfl 0 (by decide) k73 (fun _ h => h) (v := .ref (u 1)) rfl dX1_dayOfYear_18 ?_
  refine lv_iload_n hx hb dX1_dayOfYear_21 rfl (lv_at hl 2 rfl) ?_
  refine r_iald (θ := θ) hx hb hK ha1 (i := a) (by omega) (by decide) dX1_dayOfYear_22 ?_
  have tr4 := hd (a.toNat) (by omega)
  refine lv_iload_n hx hb dX1_dayOfYear_23 rfl (lv_at hl 0 rfl) ?_
  refine c_P (As := [.int (iI z3)]) (rest := [.int (iI (dt a.toNat))]) fx hl (pm_X0_firstOf l z3 (by omega)) dX1_dayOfYear_24 k306 k119 k13 k120 hd_X0_firstOf rfl ⟨by decide, by decide⟩ (Nat.le_of_ble_eq_true rfl) ⟨by omega, by omega⟩ ?_
  have t0z5 := fI_bd z3
  refine q_sub hx hb dX1_dayOfYear_27 ?_
  refine q_con hx hb dX1_dayOfYear_28 ?_
  refine q_add hx hb dX1_dayOfYear_29 ?_
  exact e_i hx hb hr hlk hS dX1_dayOfYear_30 (Nat.le_refl _) (Nat.le_refl _) ⟨ex_i (by subst_vars; omega), rfl⟩

set_option maxHeartbeats 4000000 in
set_option maxRecDepth 100000 in
theorem no1_dayOfYear (θ : TH) (l : Launch) (hl0 : l.stackTraces = false) (S0 : State) (H : Heap) (u : Nat → Nat) (dt sy sm sd : Nat → Int) (bc rf kn : Int) (hw : CWR θ S0 u H dt sy sm sd bc rf kn) (a : Int) (h_0 : -2147483648 ≤ a ∧ a < 2147483648) (h_1 : ¬ (0 ≤ a ∧ a < 6)) : TX l yX1_dayOfYear cX1_dayOfYear 3 (some .int) 7 110 [.ref (u 0), .int (iI a)] S0 H "java/lang/IndexOutOfBoundsException" := by
  refine ct_of (by decide +kernel) (Nat.le_of_ble_eq_true rfl) ?_
  intro pg en s mi args below meth co ls fx hs hr hlk hxt hin hl
  subst hs
  obtain ⟨hx, hb, hml, hown, hts⟩ := id fx.1
  have hS : va_S (fun q : Nat => s.heap.size ≤ q) s.heap s.heap [] := va_S.rf
  obtain ⟨hz, hu, ⟨ho, ha1, ha2, ha3, ha4, hsb⟩, hd, hsp⟩ := id hw
  have hAB : ∀ q : Nat, (fun q : Nat => s.heap.size ≤ q) q → θ.2.2.2 ≤ q := fun q h => Nat.le_trans hz.2.1 h
  have hz0 := hz
  have hK := sz_K fx.2 hz
  refine lv_iload_n hx hb dX1_dayOfYear_0 rfl (lv_at hl 1 rfl) ?_
  exact e_cT (As := [.int (iI a)]) (rest := []) fx hl (nno_needPlace θ l hl0 S0 _ hz a (by omega) (by omega)) dX1_dayOfYear_1 k260 k261 k1 k262 hd_X1_needPlace rfl ⟨by decide, by decide⟩ (Nat.le_of_ble_eq_true rfl) ⟨by decide, by decide⟩ ⟨by decide, by decide⟩ hS (fun _ h => h) hxt hlk (fun H1 h1 h2 => ⟨rfl, h1, h2⟩)

set_option maxHeartbeats 4000000 in
set_option maxRecDepth 100000 in
theorem ok_number (θ : TH) (l : Launch) (hl0 : l.stackTraces = false) (S0 : State) (H : Heap) (u : Nat → Nat) (dt sy sm sd : Nat → Int) (bc rf kn : Int) (hw : CWR θ S0 u H dt sy sm sd bc rf kn) (a : Int) (h_0 : -2147483648 ≤ a ∧ a < 2147483648) (h_1 : 0 ≤ a ∧ a < 6) : CT l yX1_number cX1_number 2 (some .int) 1 20 0 0 [.ref (u 0), .int (iI a)] S0 H (fun v H1 => v = some (.int (iI (dt a.toNat))) ∧ H1 = H) (fun _ _ => False) (fun _ => False) := by
  refine ct_of (by decide +kernel) (Nat.le_of_ble_eq_true rfl) ?_
  intro pg en s mi args below meth co ls fx hs hr hlk hxt hin hl
  subst hs
  obtain ⟨hx, hb, hml, hown, hts⟩ := id fx.1
  have hS : va_S (fun _ : Nat => False) s.heap s.heap [] := va_S.rf
  obtain ⟨hz, hu, ⟨ho, ha1, ha2, ha3, ha4, hsb⟩, hd, hsp⟩ := id hw
  have hAB : ∀ q : Nat, (fun _ : Nat => False) q → θ.2.2.2 ≤ q := fun _ h => h.elim
  have hz0 := hz
  have hK := sz_K fx.2 hz
  refine lv_iload_n hx hb dX1_number_0 rfl (lv_at hl 1 rfl) ?_
  refine c_N (As := [.int (iI a)]) (rest := []) fx hl (nok_needPlace l S0 _ a (by omega) (by omega)) dX1_number_1 k260 k261 k1 k262 hd_X1_needPlace rfl ⟨by decide, by decide⟩ (Nat.le_of_ble_eq_true rfl) ⟨by dsimp only; omega, by dsimp only; omega⟩ ?_
  refine lv_aload_n hx hb dX1_number_4 rfl (lv_at hl 0 rfl) ?_
  refine r_get (θ := θ) (C := RX1) (T := TX1) (N := 8) (ci := 7) hx hb hts gwX1 hown hK ho rfl 0 (by decide) k73 (fun _ h => h) (v := .ref (u 1)) rfl dX1_number_5 ?_
  refine lv_iload_n hx hb dX1_number_8 rfl (lv_at hl 1 rfl) ?_
  refine r_iald (θ := θ) hx hb hK ha1 (i := a) (by omega) (by decide) dX1_number_9 ?_
  have tr1 := hd (a.toNat) (by omega)
  exact e_i hx hb hr hlk hS dX1_number_10 (Nat.le_refl _) (Nat.le_refl _) ⟨ex_i (by omega), rfl⟩

set_option maxHeartbeats 4000000 in
set_option maxRecDepth 100000 in
theorem no1_number (θ : TH) (l : Launch) (hl0 : l.stackTraces = false) (S0 : State) (H : Heap) (u : Nat → Nat) (dt sy sm sd : Nat → Int) (bc rf kn : Int) (hw : CWR θ S0 u H dt sy sm sd bc rf kn) (a : Int) (h_0 : -2147483648 ≤ a ∧ a < 2147483648) (h_1 : ¬ (0 ≤ a ∧ a < 6)) : TX l yX1_number cX1_number 2 (some .int) 7 110 [.ref (u 0), .int (iI a)] S0 H "java/lang/IndexOutOfBoundsException" := by
  refine ct_of (by decide +kernel) (Nat.le_of_ble_eq_true rfl) ?_
  intro pg en s mi args below meth co ls fx hs hr hlk hxt hin hl
  subst hs
  obtain ⟨hx, hb, hml, hown, hts⟩ := id fx.1
  have hS : va_S (fun q : Nat => s.heap.size ≤ q) s.heap s.heap [] := va_S.rf
  obtain ⟨hz, hu, ⟨ho, ha1, ha2, ha3, ha4, hsb⟩, hd, hsp⟩ := id hw
  have hAB : ∀ q : Nat, (fun q : Nat => s.heap.size ≤ q) q → θ.2.2.2 ≤ q := fun q h => Nat.le_trans hz.2.1 h
  have hz0 := hz
  have hK := sz_K fx.2 hz
  refine lv_iload_n hx hb dX1_number_0 rfl (lv_at hl 1 rfl) ?_
  exact e_cT (As := [.int (iI a)]) (rest := []) fx hl (nno_needPlace θ l hl0 S0 _ hz a (by omega) (by omega)) dX1_number_1 k260 k261 k1 k262 hd_X1_needPlace rfl ⟨by decide, by decide⟩ (Nat.le_of_ble_eq_true rfl) ⟨by decide, by decide⟩ ⟨by decide, by decide⟩ hS (fun _ h => h) hxt hlk (fun H1 h1 h2 => ⟨rfl, h1, h2⟩)

set_option maxHeartbeats 4000000 in
set_option maxRecDepth 100000 in
theorem ok_lengthOfMonth (θ : TH) (l : Launch) (hl0 : l.stackTraces = false) (S0 : State) (H : Heap) (u : Nat → Nat) (dt sy sm sd : Nat → Int) (bc rf kn : Int) (hw : CWR θ S0 u H dt sy sm sd bc rf kn) (a : Int) (h_0 : -2147483648 ≤ a ∧ a < 2147483648) (h_1 : 0 ≤ a ∧ a < 6) : CT l yX1_lengthOfMonth cX1_lengthOfMonth 2 (some .int) 3 70 0 0 [.ref (u 0), .int (iI a)] S0 H (fun v H1 => v = some (.int (iI (fI (mI (dt a.toNat) + 1) - fI (mI (dt a.toNat))))) ∧ H1 = H) (fun _ _ => False) (fun _ => False) := by
  refine ct_of (by decide +kernel) (Nat.le_of_ble_eq_true rfl) ?_
  intro pg en s mi args below meth co ls fx hs hr hlk hxt hin hl
  subst hs
  obtain ⟨hx, hb, hml, hown, hts⟩ := id fx.1
  have hS : va_S (fun _ : Nat => False) s.heap s.heap [] := va_S.rf
  obtain ⟨hz, hu, ⟨ho, ha1, ha2, ha3, ha4, hsb⟩, hd, hsp⟩ := id hw
  have hAB : ∀ q : Nat, (fun _ : Nat => False) q → θ.2.2.2 ≤ q := fun _ h => h.elim
  have hz0 := hz
  have hK := sz_K fx.2 hz
  refine lv_iload_n hx hb dX1_lengthOfMonth_0 rfl (lv_at hl 1 rfl) ?_
  refine c_N (As := [.int (iI a)]) (rest := []) fx hl (nok_needPlace l S0 _ a (by omega) (by omega)) dX1_lengthOfMonth_1 k260 k261 k1 k262 hd_X1_needPlace rfl ⟨by decide, by decide⟩ (Nat.le_of_ble_eq_true rfl) ⟨by dsimp only; omega, by dsimp only; omega⟩ ?_
  refine lv_aload_n hx hb dX1_lengthOfMonth_4 rfl (lv_at hl 0 rfl) ?_
  refine r_get (θ := θ) (C := RX1) (T := TX1) (N := 8) (ci := 7) hx hb hts gwX1 hown hK ho rfl 0 (by decide) k73 (fun _ h => h) (v := .ref (u 1)) rfl dX1_lengthOfMonth_5 ?_
  refine lv_iload_n hx hb dX1_lengthOfMonth_8 rfl (lv_at hl 1 rfl) ?_
  refine r_iald (θ := θ) hx hb hK ha1 (i := a) (by omega) (by decide) dX1_lengthOfMonth_9 ?_
  have tr1 := hd (a.toNat) (by omega)
  refine c_P (As := [.int (iI (dt a.toNat))]) (rest := []) fx hl (pm_X0_monthOf l (dt a.toNat) (by omega)) dX1_lengthOfMonth_10 k283 k110 k13 k111 hd_X0_monthOf rfl ⟨by decide, by decide⟩ (Nat.le_of_ble_eq_true rfl) ⟨by omega, by omega⟩ ?_
  have t0z2 := mI_s (dt a.toNat)
  have t1z2 := mI_bd (dt a.toNat)
  have t2z2 := len_b (mI (dt a.toNat))
  refine c_P (As := [.int (iI (mI (dt a.toNat)))]) (rest := []) fx hl (pm_X0_lengthOf l (mI (dt a.toNat)) (by omega)) dX1_lengthOfMonth_13 k311 k148 k13 k149 hd_X0_lengthOf rfl ⟨by decide, by decide⟩ (Nat.le_of_ble_eq_true rfl) ⟨by omega, by omega⟩ ?_
  refine q_nm (fun z3 ez3 => ?_)
  have t0z3 := len_b (mI (dt a.toNat))
  exact e_i hx hb hr hlk hS dX1_lengthOfMonth_16 (Nat.le_refl _) (Nat.le_refl _) ⟨ex_i (by omega), rfl⟩

set_option maxHeartbeats 4000000 in
set_option maxRecDepth 100000 in
theorem no1_lengthOfMonth (θ : TH) (l : Launch) (hl0 : l.stackTraces = false) (S0 : State) (H : Heap) (u : Nat → Nat) (dt sy sm sd : Nat → Int) (bc rf kn : Int) (hw : CWR θ S0 u H dt sy sm sd bc rf kn) (a : Int) (h_0 : -2147483648 ≤ a ∧ a < 2147483648) (h_1 : ¬ (0 ≤ a ∧ a < 6)) : TX l yX1_lengthOfMonth cX1_lengthOfMonth 2 (some .int) 7 110 [.ref (u 0), .int (iI a)] S0 H "java/lang/IndexOutOfBoundsException" := by
  refine ct_of (by decide +kernel) (Nat.le_of_ble_eq_true rfl) ?_
  intro pg en s mi args below meth co ls fx hs hr hlk hxt hin hl
  subst hs
  obtain ⟨hx, hb, hml, hown, hts⟩ := id fx.1
  have hS : va_S (fun q : Nat => s.heap.size ≤ q) s.heap s.heap [] := va_S.rf
  obtain ⟨hz, hu, ⟨ho, ha1, ha2, ha3, ha4, hsb⟩, hd, hsp⟩ := id hw
  have hAB : ∀ q : Nat, (fun q : Nat => s.heap.size ≤ q) q → θ.2.2.2 ≤ q := fun q h => Nat.le_trans hz.2.1 h
  have hz0 := hz
  have hK := sz_K fx.2 hz
  refine lv_iload_n hx hb dX1_lengthOfMonth_0 rfl (lv_at hl 1 rfl) ?_
  exact e_cT (As := [.int (iI a)]) (rest := []) fx hl (nno_needPlace θ l hl0 S0 _ hz a (by omega) (by omega)) dX1_lengthOfMonth_1 k260 k261 k1 k262 hd_X1_needPlace rfl ⟨by decide, by decide⟩ (Nat.le_of_ble_eq_true rfl) ⟨by decide, by decide⟩ ⟨by decide, by decide⟩ hS (fun _ h => h) hxt hlk (fun H1 h1 h2 => ⟨rfl, h1, h2⟩)

set_option maxHeartbeats 4000000 in
set_option maxRecDepth 100000 in
theorem ok_isLeapYear (θ : TH) (l : Launch) (hl0 : l.stackTraces = false) (S0 : State) (H : Heap) (u : Nat → Nat) (dt sy sm sd : Nat → Int) (bc rf kn : Int) (hw : CWR θ S0 u H dt sy sm sd bc rf kn) (a : Int) (r : Int) (hr0 : (r = 1 ∧ (lpI (mI (dt a.toNat) / 12))) ∨ (r = 0 ∧ ¬ (lpI (mI (dt a.toNat) / 12)))) (h_0 : -2147483648 ≤ a ∧ a < 2147483648) (h_1 : 0 ≤ a ∧ a < 6) : CT l yX1_isLeapYear cX1_isLeapYear 2 (some .boolean) 4 90 0 0 [.ref (u 0), .int (iI a)] S0 H (fun v H1 => v = some (.int (iI r)) ∧ H1 = H) (fun _ _ => False) (fun _ => False) := by
  refine ct_of (by decide +kernel) (Nat.le_of_ble_eq_true rfl) ?_
  intro pg en s mi args below meth co ls fx hs hr hlk hxt hin hl
  subst hs
  obtain ⟨hx, hb, hml, hown, hts⟩ := id fx.1
  have hS : va_S (fun _ : Nat => False) s.heap s.heap [] := va_S.rf
  obtain ⟨hz, hu, ⟨ho, ha1, ha2, ha3, ha4, hsb⟩, hd, hsp⟩ := id hw
  have hAB : ∀ q : Nat, (fun _ : Nat => False) q → θ.2.2.2 ≤ q := fun _ h => h.elim
  have hz0 := hz
  have hK := sz_K fx.2 hz
  refine lv_iload_n hx hb dX1_isLeapYear_0 rfl (lv_at hl 1 rfl) ?_
  refine c_N (As := [.int (iI a)]) (rest := []) fx hl (nok_needPlace l S0 _ a (by omega) (by omega)) dX1_isLeapYear_1 k260 k261 k1 k262 hd_X1_needPlace rfl ⟨by decide, by decide⟩ (Nat.le_of_ble_eq_true rfl) ⟨by dsimp only; omega, by dsimp only; omega⟩ ?_
  refine lv_aload_n hx hb dX1_isLeapYear_4 rfl (lv_at hl 0 rfl) ?_
  refine r_get (θ := θ) (C := RX1) (T := TX1) (N := 8) (ci := 7) hx hb hts gwX1 hown hK ho rfl 0 (by decide) k73 (fun _ h => h) (v := .ref (u 1)) rfl dX1_isLeapYear_5 ?_
  refine lv_iload_n hx hb dX1_isLeapYear_8 rfl (lv_at hl 1 rfl) ?_
  refine r_iald (θ := θ) hx hb hK ha1 (i := a) (by omega) (by decide) dX1_isLeapYear_9 ?_
  have tr1 := hd (a.toNat) (by omega)
  refine c_P (As := [.int (iI (dt a.toNat))]) (rest := []) fx hl (pm_X0_yearOf l (dt a.toNat) (by omega)) dX1_isLeapYear_10 k300 k301 k13 k302 hd_X0_yearOf rfl ⟨by decide, by decide⟩ (Nat.le_of_ble_eq_true rfl) ⟨by omega, by omega⟩ ?_
  refine q_nm (fun z2 ez2 => ?_)
  have t0z2 := mI_bd (dt a.toNat)
  obtain ⟨r3, hr3⟩ := bex (lpI z2)
  refine c_P (As := [.int (iI z2)]) (rest := []) fx hl (pm_X0_isLeap l z2 r3 hr3 (by omega)) dX1_isLeapYear_13 k316 k317 k13 k318 hd_X0_isLeap rfl ⟨by decide, by decide⟩ (Nat.le_of_ble_eq_true rfl) ⟨by omega, by omega⟩ ?_
  have br3 : r3 = 0 ∨ r3 = 1 := hr3.elim (fun h => Or.inr h.1) (fun h => Or.inl h.1)
  exact e_z hx hb hr hlk (br3) hS dX1_isLeapYear_16 (Nat.le_refl _) (Nat.le_refl _) ⟨ex_i (by subst_vars; first | omega | (rcases hr0 with ⟨q1, q2⟩ | ⟨q1, q2⟩ <;> simp_all)), rfl⟩

set_option maxHeartbeats 4000000 in
set_option maxRecDepth 100000 in
theorem no1_isLeapYear (θ : TH) (l : Launch) (hl0 : l.stackTraces = false) (S0 : State) (H : Heap) (u : Nat → Nat) (dt sy sm sd : Nat → Int) (bc rf kn : Int) (hw : CWR θ S0 u H dt sy sm sd bc rf kn) (a : Int) (h_0 : -2147483648 ≤ a ∧ a < 2147483648) (h_1 : ¬ (0 ≤ a ∧ a < 6)) : TX l yX1_isLeapYear cX1_isLeapYear 2 (some .boolean) 7 110 [.ref (u 0), .int (iI a)] S0 H "java/lang/IndexOutOfBoundsException" := by
  refine ct_of (by decide +kernel) (Nat.le_of_ble_eq_true rfl) ?_
  intro pg en s mi args below meth co ls fx hs hr hlk hxt hin hl
  subst hs
  obtain ⟨hx, hb, hml, hown, hts⟩ := id fx.1
  have hS : va_S (fun q : Nat => s.heap.size ≤ q) s.heap s.heap [] := va_S.rf
  obtain ⟨hz, hu, ⟨ho, ha1, ha2, ha3, ha4, hsb⟩, hd, hsp⟩ := id hw
  have hAB : ∀ q : Nat, (fun q : Nat => s.heap.size ≤ q) q → θ.2.2.2 ≤ q := fun q h => Nat.le_trans hz.2.1 h
  have hz0 := hz
  have hK := sz_K fx.2 hz
  refine lv_iload_n hx hb dX1_isLeapYear_0 rfl (lv_at hl 1 rfl) ?_
  exact e_cT (As := [.int (iI a)]) (rest := []) fx hl (nno_needPlace θ l hl0 S0 _ hz a (by omega) (by omega)) dX1_isLeapYear_1 k260 k261 k1 k262 hd_X1_needPlace rfl ⟨by decide, by decide⟩ (Nat.le_of_ble_eq_true rfl) ⟨by decide, by decide⟩ ⟨by decide, by decide⟩ hS (fun _ h => h) hxt hlk (fun H1 h1 h2 => ⟨rfl, h1, h2⟩)

set_option maxHeartbeats 4000000 in
set_option maxRecDepth 100000 in
theorem pm_X1_isRefused (l : Launch) (a b : Int) (r : Int) (hr0 : (r = 1 ∧ (b < a ∨ 40000 < b - a)) ∨ (r = 0 ∧ ¬ (b < a ∨ 40000 < b - a))) (h_0 : -10000000 ≤ a ∧ a ≤ 10000000) (h_1 : -10000000 ≤ b ∧ b ≤ 10000000) : PM l yX1_isRefused cX1_isRefused 2 (some .boolean) 0 0 [.int (iI a), .int (iI b)] (.int (iI r)) := by
  intro S0 H
  refine ct_of (by decide +kernel) (Nat.le_of_ble_eq_true rfl) ?_
  intro pg en s mi args below meth co ls fx hs hr hlk hxt hin hl
  subst hs
  obtain ⟨hx, hb, hml, hown, hts⟩ := id fx.1
  have hS : va_S (fun _ => False) s.heap s.heap [] := va_S.rf
  refine lv_iload_n hx hb dX1_isRefused_0 rfl (lv_at hl 1 rfl) ?_
  refine lv_iload_n hx hb dX1_isRefused_1 rfl (lv_at hl 0 rfl) ?_
  refine q_clt (tgt := 14) hx hb dX1_isRefused_2 (by decide) (by omega) (by omega) (fun c1 => ?_) (fun c1 => ?_)
  · refine q_con hx hb dX1_isRefused_14 ?_
    refine lv_goto (tgt := 19) hx hb dX1_isRefused_15 (by decide) ?_
    exact e_z hx hb hr hlk (by decide) hS dX1_isRefused_19 (Nat.le_refl _) (Nat.le_refl _) ⟨ex_i (by omega), rfl⟩
  · refine lv_iload_n hx hb dX1_isRefused_5 rfl (lv_at hl 1 rfl) ?_
    refine lv_iload_n hx hb dX1_isRefused_6 rfl (lv_at hl 0 rfl) ?_
    refine q_sub hx hb dX1_isRefused_7 ?_
    refine q_ldcw (n := 40000) hx hb hown (hts _ k981) (by decide) dX1_isRefused_8 ?_
    refine q_cle (tgt := 18) hx hb dX1_isRefused_11 (by decide) (by omega) (by omega) (fun c2 => ?_) (fun c2 => ?_)
    · refine q_con hx hb dX1_isRefused_18 ?_
      exact e_z hx hb hr hlk (by decide) hS dX1_isRefused_19 (Nat.le_refl _) (Nat.le_refl _) ⟨ex_i (by omega), rfl⟩
    · refine q_con hx hb dX1_isRefused_14 ?_
      refine lv_goto (tgt := 19) hx hb dX1_isRefused_15 (by decide) ?_
      exact e_z hx hb hr hlk (by decide) hS dX1_isRefused_19 (Nat.le_refl _) (Nat.le_refl _) ⟨ex_i (by omega), rfl⟩

set_option maxHeartbeats 4000000 in
set_option maxRecDepth 100000 in
theorem ok_compare (θ : TH) (l : Launch) (hl0 : l.stackTraces = false) (S0 : State) (H : Heap) (u : Nat → Nat) (dt sy sm sd : Nat → Int) (bc rf kn : Int) (hw : CWR θ S0 u H dt sy sm sd bc rf kn) (a b : Int) (h_0 : -2147483648 ≤ a ∧ a < 2147483648) (h_1 : -2147483648 ≤ b ∧ b < 2147483648) (h_2 : 0 ≤ a ∧ a < 6) (h_3 : 0 ≤ b ∧ b < 6) : CT l yX1_compare cX1_compare 3 (some .int) 1 20 0 0 [.ref (u 0), .int (iI a), .int (iI b)] S0 H (fun v H1 => v = some (.int (iI (if dt a.toNat = dt b.toNat then 0 else if dt a.toNat < dt b.toNat then -1 else 1))) ∧ H1 = H) (fun _ _ => False) (fun _ => False) := by
  refine ct_of (by decide +kernel) (Nat.le_of_ble_eq_true rfl) ?_
  intro pg en s mi args below meth co ls fx hs hr hlk hxt hin hl
  subst hs
  obtain ⟨hx, hb, hml, hown, hts⟩ := id fx.1
  have hS : va_S (fun _ : Nat => False) s.heap s.heap [] := va_S.rf
  obtain ⟨hz, hu, ⟨ho, ha1, ha2, ha3, ha4, hsb⟩, hd, hsp⟩ := id hw
  have hAB : ∀ q : Nat, (fun _ : Nat => False) q → θ.2.2.2 ≤ q := fun _ h => h.elim
  have hz0 := hz
  have hK := sz_K fx.2 hz
  refine lv_iload_n hx hb dX1_compare_0 rfl (lv_at hl 1 rfl) ?_
  refine c_N (As := [.int (iI a)]) (rest := []) fx hl (nok_needPlace l S0 _ a (by omega) (by omega)) dX1_compare_1 k260 k261 k1 k262 hd_X1_needPlace rfl ⟨by decide, by decide⟩ (Nat.le_of_ble_eq_true rfl) ⟨by dsimp only; omega, by dsimp only; omega⟩ ?_
  refine lv_iload_n hx hb dX1_compare_4 rfl (lv_at hl 2 rfl) ?_
  refine c_N (As := [.int (iI b)]) (rest := []) fx hl (nok_needPlace l S0 _ b (by omega) (by omega)) dX1_compare_5 k260 k261 k1 k262 hd_X1_needPlace rfl ⟨by decide, by decide⟩ (Nat.le_of_ble_eq_true rfl) ⟨by dsimp only; omega, by dsimp only; omega⟩ ?_
  refine lv_aload_n hx hb dX1_compare_8 rfl (lv_at hl 0 rfl) ?_
  refine r_get (θ := θ) (C := RX1) (T := TX1) (N := 8) (ci := 7) hx hb hts gwX1 hown hK ho rfl 0 (by decide) k73 (fun _ h => h) (v := .ref (u 1)) rfl dX1_compare_9 ?_
  refine lv_iload_n hx hb dX1_compare_12 rfl (lv_at hl 1 rfl) ?_
  refine r_iald (θ := θ) hx hb hK ha1 (i := a) (by omega) (by decide) dX1_compare_13 ?_
  have tr1 := hd (a.toNat) (by omega)
  refine lv_aload_n hx hb dX1_compare_14 rfl (lv_at hl 0 rfl) ?_
  refine r_get (θ := θ) (C := RX1) (T := TX1) (N := 8) (ci := 7) hx hb hts gwX1 hown hK ho rfl 0 (by decide) k73 (fun _ h => h) (v := .ref (u 1)) rfl dX1_compare_15 ?_
  refine lv_iload_n hx hb dX1_compare_18 rfl (lv_at hl 2 rfl) ?_
  refine r_iald (θ := θ) hx hb hK ha1 (i := b) (by omega) (by decide) dX1_compare_19 ?_
  have tr2 := hd (b.toNat) (by omega)
  refine q_cne (tgt := 25) hx hb dX1_compare_20 (by decide) (by omega) (by omega) (fun c3 => ?_) (fun c3 => ?_)
  · refine lv_aload_n hx hb dX1_compare_25 rfl (lv_at hl 0 rfl) ?_
    refine r_get (θ := θ) (C := RX1) (T := TX1) (N := 8) (ci := 7) hx hb hts gwX1 hown hK ho rfl 0 (by decide) k73 (fun _ h => h) (v := .ref (u 1)) rfl dX1_compare_26 ?_
    refine lv_iload_n hx hb dX1_compare_29 rfl (lv_at hl 1 rfl) ?_
    refine r_iald (θ := θ) hx hb hK ha1 (i := a) (by omega) (by decide) dX1_compare_30 ?_
    have tr4 := hd (a.toNat) (by omega)
    refine lv_aload_n hx hb dX1_compare_31 rfl (lv_at hl 0 rfl) ?_
    refine r_get (θ := θ) (C := RX1) (T := TX1) (N := 8) (ci := 7) hx hb hts gwX1 hown hK ho rfl 0 (by decide) k73 (fun _ h => h) (v := .ref (u 1)) rfl dX1_compare_32 ?_
    refine lv_iload_n hx hb dX1_compare_35 rfl (lv_at hl 2 rfl) ?_
    refine r_iald (θ := θ) hx hb hK ha1 (i := b) (by omega) (by decide) dX1_compare_36 ?_
    have tr5 := hd (b.toNat) (by omega)
    refine q_cge (tgt := 44) hx hb dX1_compare_37 (by decide) (by omega) (by omega) (fun c6 => ?_) (fun c6 => ?_)
    · refine q_con hx hb dX1_compare_44 ?_
      exact e_i hx hb hr hlk hS dX1_compare_45 (Nat.le_refl _) (Nat.le_refl _) ⟨ex_i (by (split <;> (try split) <;> omega)), rfl⟩
    · refine q_con hx hb dX1_compare_40 ?_
      refine lv_goto (tgt := 45) hx hb dX1_compare_41 (by decide) ?_
      exact e_i hx hb hr hlk hS dX1_compare_45 (Nat.le_refl _) (Nat.le_refl _) ⟨ex_i (by (split <;> (try split) <;> omega)), rfl⟩
  · refine q_con hx hb dX1_compare_23 ?_
    exact e_i hx hb hr hlk hS dX1_compare_24 (Nat.le_refl _) (Nat.le_refl _) ⟨ex_i (by (split <;> (try split) <;> omega)), rfl⟩

set_option maxHeartbeats 4000000 in
set_option maxRecDepth 100000 in
theorem no1_compare (θ : TH) (l : Launch) (hl0 : l.stackTraces = false) (S0 : State) (H : Heap) (u : Nat → Nat) (dt sy sm sd : Nat → Int) (bc rf kn : Int) (hw : CWR θ S0 u H dt sy sm sd bc rf kn) (a b : Int) (h_0 : -2147483648 ≤ a ∧ a < 2147483648) (h_1 : -2147483648 ≤ b ∧ b < 2147483648) (h_2 : ¬ (0 ≤ a ∧ a < 6)) : TX l yX1_compare cX1_compare 3 (some .int) 7 110 [.ref (u 0), .int (iI a), .int (iI b)] S0 H "java/lang/IndexOutOfBoundsException" := by
  refine ct_of (by decide +kernel) (Nat.le_of_ble_eq_true rfl) ?_
  intro pg en s mi args below meth co ls fx hs hr hlk hxt hin hl
  subst hs
  obtain ⟨hx, hb, hml, hown, hts⟩ := id fx.1
  have hS : va_S (fun q : Nat => s.heap.size ≤ q) s.heap s.heap [] := va_S.rf
  obtain ⟨hz, hu, ⟨ho, ha1, ha2, ha3, ha4, hsb⟩, hd, hsp⟩ := id hw
  have hAB : ∀ q : Nat, (fun q : Nat => s.heap.size ≤ q) q → θ.2.2.2 ≤ q := fun q h => Nat.le_trans hz.2.1 h
  have hz0 := hz
  have hK := sz_K fx.2 hz
  refine lv_iload_n hx hb dX1_compare_0 rfl (lv_at hl 1 rfl) ?_
  exact e_cT (As := [.int (iI a)]) (rest := []) fx hl (nno_needPlace θ l hl0 S0 _ hz a (by omega) (by omega)) dX1_compare_1 k260 k261 k1 k262 hd_X1_needPlace rfl ⟨by decide, by decide⟩ (Nat.le_of_ble_eq_true rfl) ⟨by decide, by decide⟩ ⟨by decide, by decide⟩ hS (fun _ h => h) hxt hlk (fun H1 h1 h2 => ⟨rfl, h1, h2⟩)

set_option maxHeartbeats 4000000 in
set_option maxRecDepth 100000 in
theorem no2_compare (θ : TH) (l : Launch) (hl0 : l.stackTraces = false) (S0 : State) (H : Heap) (u : Nat → Nat) (dt sy sm sd : Nat → Int) (bc rf kn : Int) (hw : CWR θ S0 u H dt sy sm sd bc rf kn) (a b : Int) (h_0 : -2147483648 ≤ a ∧ a < 2147483648) (h_1 : -2147483648 ≤ b ∧ b < 2147483648) (h_2 : 0 ≤ a ∧ a < 6) (h_3 : ¬ (0 ≤ b ∧ b < 6)) : TX l yX1_compare cX1_compare 3 (some .int) 7 110 [.ref (u 0), .int (iI a), .int (iI b)] S0 H "java/lang/IndexOutOfBoundsException" := by
  refine ct_of (by decide +kernel) (Nat.le_of_ble_eq_true rfl) ?_
  intro pg en s mi args below meth co ls fx hs hr hlk hxt hin hl
  subst hs
  obtain ⟨hx, hb, hml, hown, hts⟩ := id fx.1
  have hS : va_S (fun q : Nat => s.heap.size ≤ q) s.heap s.heap [] := va_S.rf
  obtain ⟨hz, hu, ⟨ho, ha1, ha2, ha3, ha4, hsb⟩, hd, hsp⟩ := id hw
  have hAB : ∀ q : Nat, (fun q : Nat => s.heap.size ≤ q) q → θ.2.2.2 ≤ q := fun q h => Nat.le_trans hz.2.1 h
  have hz0 := hz
  have hK := sz_K fx.2 hz
  refine lv_iload_n hx hb dX1_compare_0 rfl (lv_at hl 1 rfl) ?_
  refine c_N (As := [.int (iI a)]) (rest := []) fx hl (nok_needPlace l S0 _ a (by omega) (by omega)) dX1_compare_1 k260 k261 k1 k262 hd_X1_needPlace rfl ⟨by decide, by decide⟩ (Nat.le_of_ble_eq_true rfl) ⟨by dsimp only; omega, by dsimp only; omega⟩ ?_
  refine lv_iload_n hx hb dX1_compare_4 rfl (lv_at hl 2 rfl) ?_
  exact e_cT (As := [.int (iI b)]) (rest := []) fx hl (nno_needPlace θ l hl0 S0 _ hz b (by omega) (by omega)) dX1_compare_5 k260 k261 k1 k262 hd_X1_needPlace rfl ⟨by decide, by decide⟩ (Nat.le_of_ble_eq_true rfl) ⟨by decide, by decide⟩ ⟨by decide, by decide⟩ hS (fun _ h => h) hxt hlk (fun H1 h1 h2 => ⟨rfl, h1, h2⟩)

set_option maxHeartbeats 4000000 in
set_option maxRecDepth 100000 in
theorem ok_between (θ : TH) (l : Launch) (hl0 : l.stackTraces = false) (S0 : State) (H : Heap) (u : Nat → Nat) (dt sy sm sd : Nat → Int) (bc rf kn : Int) (hw : CWR θ S0 u H dt sy sm sd bc rf kn) (a b : Int) (h_0 : -2147483648 ≤ a ∧ a < 2147483648) (h_1 : -2147483648 ≤ b ∧ b < 2147483648) (h_2 : 0 ≤ a ∧ a < 6) (h_3 : 0 ≤ b ∧ b < 6) : CT l yX1_between cX1_between 3 (some .int) 1 20 0 0 [.ref (u 0), .int (iI a), .int (iI b)] S0 H (fun v H1 => v = some (.int (iI (dt b.toNat - dt a.toNat))) ∧ H1 = H) (fun _ _ => False) (fun _ => False) := by
  refine ct_of (by decide +kernel) (Nat.le_of_ble_eq_true rfl) ?_
  intro pg en s mi args below meth co ls fx hs hr hlk hxt hin hl
  subst hs
  obtain ⟨hx, hb, hml, hown, hts⟩ := id fx.1
  have hS : va_S (fun _ : Nat => False) s.heap s.heap [] := va_S.rf
  obtain ⟨hz, hu, ⟨ho, ha1, ha2, ha3, ha4, hsb⟩, hd, hsp⟩ := id hw
  have hAB : ∀ q : Nat, (fun _ : Nat => False) q → θ.2.2.2 ≤ q := fun _ h => h.elim
  have hz0 := hz
  have hK := sz_K fx.2 hz
  refine lv_iload_n hx hb dX1_between_0 rfl (lv_at hl 1 rfl) ?_
  refine c_N (As := [.int (iI a)]) (rest := []) fx hl (nok_needPlace l S0 _ a (by omega) (by omega)) dX1_between_1 k260 k261 k1 k262 hd_X1_needPlace rfl ⟨by decide, by decide⟩ (Nat.le_of_ble_eq_true rfl) ⟨by dsimp only; omega, by dsimp only; omega⟩ ?_
  refine lv_iload_n hx hb dX1_between_4 rfl (lv_at hl 2 rfl) ?_
  refine c_N (As := [.int (iI b)]) (rest := []) fx hl (nok_needPlace l S0 _ b (by omega) (by omega)) dX1_between_5 k260 k261 k1 k262 hd_X1_needPlace rfl ⟨by decide, by decide⟩ (Nat.le_of_ble_eq_true rfl) ⟨by dsimp only; omega, by dsimp only; omega⟩ ?_
  refine lv_aload_n hx hb dX1_between_8 rfl (lv_at hl 0 rfl) ?_
  refine r_get (θ := θ) (C := RX1) (T := TX1) (N := 8) (ci := 7) hx hb hts gwX1 hown hK ho rfl 0 (by decide) k73 (fun _ h => h) (v := .ref (u 1)) rfl dX1_between_9 ?_
  refine lv_iload_n hx hb dX1_between_12 rfl (lv_at hl 2 rfl) ?_
  refine r_iald (θ := θ) hx hb hK ha1 (i := b) (by omega) (by decide) dX1_between_13 ?_
  have tr1 := hd (b.toNat) (by omega)
  refine lv_aload_n hx hb dX1_between_14 rfl (lv_at hl 0 rfl) ?_
  refine r_get (θ := θ) (C := RX1) (T := TX1) (N := 8) (ci := 7) hx hb hts gwX1 hown hK ho rfl 0 (by decide) k73 (fun _ h => h) (v := .ref (u 1)) rfl dX1_between_15 ?_
  refine lv_iload_n hx hb dX1_between_18 rfl (lv_at hl 1 rfl) ?_
  refine r_iald (θ := θ) hx hb hK ha1 (i := a) (by omega) (by decide) dX1_between_19 ?_
  have tr2 := hd (a.toNat) (by omega)
  refine q_sub hx hb dX1_between_20 ?_
  exact e_i hx hb hr hlk hS dX1_between_21 (Nat.le_refl _) (Nat.le_refl _) ⟨ex_i (by subst_vars; omega), rfl⟩

set_option maxHeartbeats 4000000 in
set_option maxRecDepth 100000 in
theorem no1_between (θ : TH) (l : Launch) (hl0 : l.stackTraces = false) (S0 : State) (H : Heap) (u : Nat → Nat) (dt sy sm sd : Nat → Int) (bc rf kn : Int) (hw : CWR θ S0 u H dt sy sm sd bc rf kn) (a b : Int) (h_0 : -2147483648 ≤ a ∧ a < 2147483648) (h_1 : -2147483648 ≤ b ∧ b < 2147483648) (h_2 : ¬ (0 ≤ a ∧ a < 6)) : TX l yX1_between cX1_between 3 (some .int) 7 110 [.ref (u 0), .int (iI a), .int (iI b)] S0 H "java/lang/IndexOutOfBoundsException" := by
  refine ct_of (by decide +kernel) (Nat.le_of_ble_eq_true rfl) ?_
  intro pg en s mi args below meth co ls fx hs hr hlk hxt hin hl
  subst hs
  obtain ⟨hx, hb, hml, hown, hts⟩ := id fx.1
  have hS : va_S (fun q : Nat => s.heap.size ≤ q) s.heap s.heap [] := va_S.rf
  obtain ⟨hz, hu, ⟨ho, ha1, ha2, ha3, ha4, hsb⟩, hd, hsp⟩ := id hw
  have hAB : ∀ q : Nat, (fun q : Nat => s.heap.size ≤ q) q → θ.2.2.2 ≤ q := fun q h => Nat.le_trans hz.2.1 h
  have hz0 := hz
  have hK := sz_K fx.2 hz
  refine lv_iload_n hx hb dX1_between_0 rfl (lv_at hl 1 rfl) ?_
  exact e_cT (As := [.int (iI a)]) (rest := []) fx hl (nno_needPlace θ l hl0 S0 _ hz a (by omega) (by omega)) dX1_between_1 k260 k261 k1 k262 hd_X1_needPlace rfl ⟨by decide, by decide⟩ (Nat.le_of_ble_eq_true rfl) ⟨by decide, by decide⟩ ⟨by decide, by decide⟩ hS (fun _ h => h) hxt hlk (fun H1 h1 h2 => ⟨rfl, h1, h2⟩)

set_option maxHeartbeats 4000000 in
set_option maxRecDepth 100000 in
theorem no2_between (θ : TH) (l : Launch) (hl0 : l.stackTraces = false) (S0 : State) (H : Heap) (u : Nat → Nat) (dt sy sm sd : Nat → Int) (bc rf kn : Int) (hw : CWR θ S0 u H dt sy sm sd bc rf kn) (a b : Int) (h_0 : -2147483648 ≤ a ∧ a < 2147483648) (h_1 : -2147483648 ≤ b ∧ b < 2147483648) (h_2 : 0 ≤ a ∧ a < 6) (h_3 : ¬ (0 ≤ b ∧ b < 6)) : TX l yX1_between cX1_between 3 (some .int) 7 110 [.ref (u 0), .int (iI a), .int (iI b)] S0 H "java/lang/IndexOutOfBoundsException" := by
  refine ct_of (by decide +kernel) (Nat.le_of_ble_eq_true rfl) ?_
  intro pg en s mi args below meth co ls fx hs hr hlk hxt hin hl
  subst hs
  obtain ⟨hx, hb, hml, hown, hts⟩ := id fx.1
  have hS : va_S (fun q : Nat => s.heap.size ≤ q) s.heap s.heap [] := va_S.rf
  obtain ⟨hz, hu, ⟨ho, ha1, ha2, ha3, ha4, hsb⟩, hd, hsp⟩ := id hw
  have hAB : ∀ q : Nat, (fun q : Nat => s.heap.size ≤ q) q → θ.2.2.2 ≤ q := fun q h => Nat.le_trans hz.2.1 h
  have hz0 := hz
  have hK := sz_K fx.2 hz
  refine lv_iload_n hx hb dX1_between_0 rfl (lv_at hl 1 rfl) ?_
  refine c_N (As := [.int (iI a)]) (rest := []) fx hl (nok_needPlace l S0 _ a (by omega) (by omega)) dX1_between_1 k260 k261 k1 k262 hd_X1_needPlace rfl ⟨by decide, by decide⟩ (Nat.le_of_ble_eq_true rfl) ⟨by dsimp only; omega, by dsimp only; omega⟩ ?_
  refine lv_iload_n hx hb dX1_between_4 rfl (lv_at hl 2 rfl) ?_
  exact e_cT (As := [.int (iI b)]) (rest := []) fx hl (nno_needPlace θ l hl0 S0 _ hz b (by omega) (by omega)) dX1_between_5 k260 k261 k1 k262 hd_X1_needPlace rfl ⟨by decide, by decide⟩ (Nat.le_of_ble_eq_true rfl) ⟨by decide, by decide⟩ ⟨by decide, by decide⟩ hS (fun _ h => h) hxt hlk (fun H1 h1 h2 => ⟨rfl, h1, h2⟩)

set_option maxHeartbeats 4000000 in
set_option maxRecDepth 100000 in
theorem ok_monthsInAll (θ : TH) (l : Launch) (hl0 : l.stackTraces = false) (S0 : State) (H : Heap) (u : Nat → Nat) (dt sy sm sd : Nat → Int) (bc rf kn : Int) (hw : CWR θ S0 u H dt sy sm sd bc rf kn) (s1 : Int) (h_0 : -2147483648 ≤ s1 ∧ s1 < 2147483648) (h_1 : 0 ≤ s1 ∧ s1 < 3) : CT l yX1_monthsInAll cX1_monthsInAll 2 (some .int) 0 0 0 0 [.ref (u 0), .int (iI s1)] S0 H (fun v H1 => v = some (.int (iI (12 * sy s1.toNat + sm s1.toNat))) ∧ H1 = H) (fun _ _ => False) (fun _ => False) := by
  refine ct_of (by decide +kernel) (Nat.le_of_ble_eq_true rfl) ?_
  intro pg en s mi args below meth co ls fx hs hr hlk hxt hin hl
  subst hs
  obtain ⟨hx, hb, hml, hown, hts⟩ := id fx.1
  have hS : va_S (fun _ : Nat => False) s.heap s.heap [] := va_S.rf
  obtain ⟨hz, hu, ⟨ho, ha1, ha2, ha3, ha4, hsb⟩, hd, hsp⟩ := id hw
  have hAB : ∀ q : Nat, (fun _ : Nat => False) q → θ.2.2.2 ≤ q := fun _ h => h.elim
  have hz0 := hz
  have hK := sz_K fx.2 hz
  refine q_bip hx hb dX1_monthsInAll_0 (by decide) ?_
  refine lv_aload_n hx hb dX1_monthsInAll_2 rfl (lv_at hl 0 rfl) ?_
  refine r_get (θ := θ) (C := RX1) (T := TX1) (N := 8) (ci := 7) hx hb hts gwX1 hown hK ho rfl 1 (by decide) k74 (fun _ h => h) (v := .ref (u 2)) rfl dX1_monthsInAll_3 ?_
  refine lv_iload_n hx hb dX1_monthsInAll_6 rfl (lv_at hl 1 rfl) ?_
  refine r_iald (θ := θ) hx hb hK ha2 (i := s1) (by omega) (by decide) dX1_monthsInAll_7 ?_
  have tr1 := hsp (s1.toNat) (by omega)
  refine q_mul hx hb dX1_monthsInAll_8 ?_
  refine lv_aload_n hx hb dX1_monthsInAll_9 rfl (lv_at hl 0 rfl) ?_
  refine r_get (θ := θ) (C := RX1) (T := TX1) (N := 8) (ci := 7) hx hb hts gwX1 hown hK ho rfl 2 (by decide) k75 (fun _ h => h) (v := .ref (u 3)) rfl dX1_monthsInAll_10 ?_
  refine lv_iload_n hx hb dX1_monthsInAll_13 rfl (lv_at hl 1 rfl) ?_
  refine r_iald (θ := θ) hx hb hK ha3 (i := s1) (by omega) (by decide) dX1_monthsInAll_14 ?_
  have tr2 := hsp (s1.toNat) (by omega)
  refine q_add hx hb dX1_monthsInAll_15 ?_
  exact e_i hx hb hr hlk hS dX1_monthsInAll_16 (Nat.le_refl _) (Nat.le_refl _) ⟨ex_i (by subst_vars; omega), rfl⟩

set_option maxHeartbeats 4000000 in
set_option maxRecDepth 100000 in
theorem ok_ofSpan (θ : TH) (l : Launch) (hl0 : l.stackTraces = false) (S0 : State) (H : Heap) (u : Nat → Nat) (dt sy sm sd : Nat → Int) (bc rf kn : Int) (hw : CWR θ S0 u H dt sy sm sd bc rf kn) (s1 k : Int) (h_0 : -2147483648 ≤ s1 ∧ s1 < 2147483648) (h_1 : -2147483648 ≤ k ∧ k < 2147483648) (h_2 : 0 ≤ s1 ∧ s1 < 3) (h_3 : 0 ≤ k ∧ k ≤ 3) : CT l yX1_ofSpan cX1_ofSpan 3 (some .int) 1 22 0 0 [.ref (u 0), .int (iI s1), .int (iI k)] S0 H (fun v H1 => v = some (.int (iI (if k = 0 then sy s1.toNat else if k = 1 then sm s1.toNat else if k = 2 then sd s1.toNat else 12 * sy s1.toNat + sm s1.toNat))) ∧ H1 = H) (fun _ _ => False) (fun _ => False) := by
  refine ct_of (by decide +kernel) (Nat.le_of_ble_eq_true rfl) ?_
  intro pg en s mi args below meth co ls fx hs hr hlk hxt hin hl
  subst hs
  obtain ⟨hx, hb, hml, hown, hts⟩ := id fx.1
  have hS : va_S (fun _ : Nat => False) s.heap s.heap [] := va_S.rf
  obtain ⟨hz, hu, ⟨ho, ha1, ha2, ha3, ha4, hsb⟩, hd, hsp⟩ := id hw
  have hAB : ∀ q : Nat, (fun _ : Nat => False) q → θ.2.2.2 ≤ q := fun _ h => h.elim
  have hz0 := hz
  have hK := sz_K fx.2 hz
  refine lv_iload_n hx hb dX1_ofSpan_0 rfl (lv_at hl 1 rfl) ?_
  refine c_N (As := [.int (iI s1)]) (rest := []) fx hl (nok_needSpan l S0 _ s1 (by omega) (by omega)) dX1_ofSpan_1 k671 k672 k1 k673 hd_X1_needSpan rfl ⟨by decide, by decide⟩ (Nat.le_of_ble_eq_true rfl) ⟨by dsimp only; omega, by dsimp only; omega⟩ ?_
  refine lv_iload_n hx hb dX1_ofSpan_4 rfl (lv_at hl 2 rfl) ?_
  refine q_con hx hb dX1_ofSpan_5 ?_
  refine q_con hx hb dX1_ofSpan_6 ?_
  refine c_N (As := [.int (iI k), .int (iI 0), .int (iI 3)]) (rest := []) fx hl (nok_needWithin l S0 _ k 0 3 (by omega) (by omega) (by omega) (by omega)) dX1_ofSpan_7 k172 k173 k1 k174 hd_X1_needWithin rfl ⟨by decide, by decide⟩ (Nat.le_of_ble_eq_true rfl) ⟨by dsimp only; omega, by dsimp only; omega⟩ ?_
  refine lv_iload_n hx hb dX1_ofSpan_10 rfl (lv_at hl 2 rfl) ?_
  rcases (show k = 0 ∨ k = 1 ∨ k = 2 ∨ (k < 0 ∨ 2 < k) by omega) with c1 | c1 | c1 | c1
  · refine q_tabI (tgt := 36) hx hb 0 dX1_ofSpan_11 (by omega) (by omega) (by omega) rfl (by decide) ?_
    refine lv_aload_n hx hb dX1_ofSpan_36 rfl (lv_at hl 0 rfl) ?_
    refine r_get (θ := θ) (C := RX1) (T := TX1) (N := 8) (ci := 7) hx hb hts gwX1 hown hK ho rfl 1 (by decide) k74 (fun _ h => h) (v := .ref (u 2)) rfl dX1_ofSpan_37 ?_
    refine lv_iload_n hx hb dX1_ofSpan_40 rfl (lv_at hl 1 rfl) ?_
    refine r_iald (θ := θ) hx hb hK ha2 (i := s1) (by omega) (by decide) dX1_ofSpan_41 ?_
    have tr2 := hsp (s1.toNat) (by omega)
    exact e_i hx hb hr hlk hS dX1_ofSpan_42 (Nat.le_refl _) (Nat.le_refl _) ⟨ex_i (by subst_vars; (split <;> (try split) <;> (try split) <;> omega)), rfl⟩
  · refine q_tabI (tgt := 43) hx hb 1 dX1_ofSpan_11 (by omega) (by omega) (by omega) rfl (by decide) ?_
    refine lv_aload_n hx hb dX1_ofSpan_43 rfl (lv_at hl 0 rfl) ?_
    refine r_get (θ := θ) (C := RX1) (T := TX1) (N := 8) (ci := 7) hx hb hts gwX1 hown hK ho rfl 2 (by decide) k75 (fun _ h => h) (v := .ref (u 3)) rfl dX1_ofSpan_44 ?_
    refine lv_iload_n hx hb dX1_ofSpan_47 rfl (lv_at hl 1 rfl) ?_
    refine r_iald (θ := θ) hx hb hK ha3 (i := s1) (by omega) (by decide) dX1_ofSpan_48 ?_
    have tr3 := hsp (s1.toNat) (by omega)
    exact e_i hx hb hr hlk hS dX1_ofSpan_49 (Nat.le_refl _) (Nat.le_refl _) ⟨ex_i (by subst_vars; (split <;> (try split) <;> (try split) <;> omega)), rfl⟩
  · refine q_tabI (tgt := 50) hx hb 2 dX1_ofSpan_11 (by omega) (by omega) (by omega) rfl (by decide) ?_
    refine lv_aload_n hx hb dX1_ofSpan_50 rfl (lv_at hl 0 rfl) ?_
    refine r_get (θ := θ) (C := RX1) (T := TX1) (N := 8) (ci := 7) hx hb hts gwX1 hown hK ho rfl 3 (by decide) k76 (fun _ h => h) (v := .ref (u 4)) rfl dX1_ofSpan_51 ?_
    refine lv_iload_n hx hb dX1_ofSpan_54 rfl (lv_at hl 1 rfl) ?_
    refine r_iald (θ := θ) hx hb hK ha4 (i := s1) (by omega) (by decide) dX1_ofSpan_55 ?_
    have tr4 := hsp (s1.toNat) (by omega)
    exact e_i hx hb hr hlk hS dX1_ofSpan_56 (Nat.le_refl _) (Nat.le_refl _) ⟨ex_i (by subst_vars; (split <;> (try split) <;> (try split) <;> omega)), rfl⟩
  · refine q_tabO (tgt := 57) hx hb dX1_ofSpan_11 (by omega) (by omega) (by decide) ?_
    refine lv_aload_n hx hb dX1_ofSpan_57 rfl (lv_at hl 0 rfl) ?_
    refine lv_iload_n hx hb dX1_ofSpan_58 rfl (lv_at hl 1 rfl) ?_
    have hcw := hw
    refine c_HV (As := [.int (iI s1)]) (rest := []) (b := u 0) (C := RX1) fx hl (ok_monthsInAll θ l hl0 S0 _ u _ _ _ _ _ _ _ hcw s1 (by omega) (by omega)) (ob_recv hK ho rfl) dX1_ofSpan_59 k675 k677 ks6 k1 k678 hd_X1_monthsInAll rfl ⟨by decide, by decide⟩ (Nat.le_of_ble_eq_true rfl) ⟨by dsimp only; omega, by dsimp only; omega⟩ ?_
    refine q_nm (fun z5 ez5 => ?_)
    exact e_i hx hb hr hlk hS dX1_ofSpan_62 (Nat.le_refl _) (Nat.le_refl _) ⟨ex_i (by subst_vars; (split <;> (try split) <;> (try split) <;> omega)), rfl⟩

set_option maxHeartbeats 4000000 in
set_option maxRecDepth 100000 in
theorem no1_ofSpan (θ : TH) (l : Launch) (hl0 : l.stackTraces = false) (S0 : State) (H : Heap) (u : Nat → Nat) (dt sy sm sd : Nat → Int) (bc rf kn : Int) (hw : CWR θ S0 u H dt sy sm sd bc rf kn) (s1 k : Int) (h_0 : -2147483648 ≤ s1 ∧ s1 < 2147483648) (h_1 : -2147483648 ≤ k ∧ k < 2147483648) (h_2 : ¬ (0 ≤ s1 ∧ s1 < 3)) : TX l yX1_ofSpan cX1_ofSpan 3 (some .int) 7 110 [.ref (u 0), .int (iI s1), .int (iI k)] S0 H "java/lang/IndexOutOfBoundsException" := by
  refine ct_of (by decide +kernel) (Nat.le_of_ble_eq_true rfl) ?_
  intro pg en s mi args below meth co ls fx hs hr hlk hxt hin hl
  subst hs
  obtain ⟨hx, hb, hml, hown, hts⟩ := id fx.1
  have hS : va_S (fun q : Nat => s.heap.size ≤ q) s.heap s.heap [] := va_S.rf
  obtain ⟨hz, hu, ⟨ho, ha1, ha2, ha3, ha4, hsb⟩, hd, hsp⟩ := id hw
  have hAB : ∀ q : Nat, (fun q : Nat => s.heap.size ≤ q) q → θ.2.2.2 ≤ q := fun q h => Nat.le_trans hz.2.1 h
  have hz0 := hz
  have hK := sz_K fx.2 hz
  refine lv_iload_n hx hb dX1_ofSpan_0 rfl (lv_at hl 1 rfl) ?_
  exact e_cT (As := [.int (iI s1)]) (rest := []) fx hl (nno_needSpan θ l hl0 S0 _ hz s1 (by omega) (by omega)) dX1_ofSpan_1 k671 k672 k1 k673 hd_X1_needSpan rfl ⟨by decide, by decide⟩ (Nat.le_of_ble_eq_true rfl) ⟨by decide, by decide⟩ ⟨by decide, by decide⟩ hS (fun _ h => h) hxt hlk (fun H1 h1 h2 => ⟨rfl, h1, h2⟩)

set_option maxHeartbeats 4000000 in
set_option maxRecDepth 100000 in
theorem no2_ofSpan (θ : TH) (l : Launch) (hl0 : l.stackTraces = false) (S0 : State) (H : Heap) (u : Nat → Nat) (dt sy sm sd : Nat → Int) (bc rf kn : Int) (hw : CWR θ S0 u H dt sy sm sd bc rf kn) (s1 k : Int) (h_0 : -2147483648 ≤ s1 ∧ s1 < 2147483648) (h_1 : -2147483648 ≤ k ∧ k < 2147483648) (h_2 : 0 ≤ s1 ∧ s1 < 3) (h_3 : ¬ (0 ≤ k ∧ k ≤ 3)) : TX l yX1_ofSpan cX1_ofSpan 3 (some .int) 7 112 [.ref (u 0), .int (iI s1), .int (iI k)] S0 H "java/lang/IllegalArgumentException" := by
  refine ct_of (by decide +kernel) (Nat.le_of_ble_eq_true rfl) ?_
  intro pg en s mi args below meth co ls fx hs hr hlk hxt hin hl
  subst hs
  obtain ⟨hx, hb, hml, hown, hts⟩ := id fx.1
  have hS : va_S (fun q : Nat => s.heap.size ≤ q) s.heap s.heap [] := va_S.rf
  obtain ⟨hz, hu, ⟨ho, ha1, ha2, ha3, ha4, hsb⟩, hd, hsp⟩ := id hw
  have hAB : ∀ q : Nat, (fun q : Nat => s.heap.size ≤ q) q → θ.2.2.2 ≤ q := fun q h => Nat.le_trans hz.2.1 h
  have hz0 := hz
  have hK := sz_K fx.2 hz
  refine lv_iload_n hx hb dX1_ofSpan_0 rfl (lv_at hl 1 rfl) ?_
  refine c_N (As := [.int (iI s1)]) (rest := []) fx hl (nok_needSpan l S0 _ s1 (by omega) (by omega)) dX1_ofSpan_1 k671 k672 k1 k673 hd_X1_needSpan rfl ⟨by decide, by decide⟩ (Nat.le_of_ble_eq_true rfl) ⟨by dsimp only; omega, by dsimp only; omega⟩ ?_
  refine lv_iload_n hx hb dX1_ofSpan_4 rfl (lv_at hl 2 rfl) ?_
  refine q_con hx hb dX1_ofSpan_5 ?_
  refine q_con hx hb dX1_ofSpan_6 ?_
  exact e_cT (As := [.int (iI k), .int (iI 0), .int (iI 3)]) (rest := []) fx hl (nno_needWithin θ l hl0 S0 _ hz k 0 3 (by omega) (by omega) (by omega) (by omega)) dX1_ofSpan_7 k172 k173 k1 k174 hd_X1_needWithin rfl ⟨by decide, by decide⟩ (Nat.le_of_ble_eq_true rfl) ⟨by decide, by decide⟩ ⟨by decide, by decide⟩ hS (fun _ h => h) hxt hlk (fun H1 h1 h2 => ⟨rfl, h1, h2⟩)

set_option maxHeartbeats 4000000 in
set_option maxRecDepth 100000 in
theorem ok_isKept (θ : TH) (l : Launch) (hl0 : l.stackTraces = false) (S0 : State) (H : Heap) (u : Nat → Nat) (dt sy sm sd : Nat → Int) (bc rf kn : Int) (hw : CWR θ S0 u H dt sy sm sd bc rf kn) (a n : Int) (r : Int) (hr0 : (r = 1 ∧ (dI (dt a.toNat) - dI (shI (dt a.toNat) n) = 0)) ∨ (r = 0 ∧ ¬ (dI (dt a.toNat) - dI (shI (dt a.toNat) n) = 0))) (h_0 : -2147483648 ≤ a ∧ a < 2147483648) (h_1 : -2147483648 ≤ n ∧ n < 2147483648) (h_2 : 0 ≤ a ∧ a < 6) (h_3 : -240000 ≤ n ∧ n ≤ 240000) : CT l yX1_isKept cX1_isKept 3 (some .boolean) 5 113 0 0 [.ref (u 0), .int (iI a), .int (iI n)] S0 H (fun v H1 => v = some (.int (iI r)) ∧ H1 = H) (fun _ _ => False) (fun _ => False) := by
  refine ct_of (by decide +kernel) (Nat.le_of_ble_eq_true rfl) ?_
  intro pg en s mi args below meth co ls fx hs hr hlk hxt hin hl
  subst hs
  obtain ⟨hx, hb, hml, hown, hts⟩ := id fx.1
  have hS : va_S (fun _ : Nat => False) s.heap s.heap [] := va_S.rf
  obtain ⟨hz, hu, ⟨ho, ha1, ha2, ha3, ha4, hsb⟩, hd, hsp⟩ := id hw
  have hAB : ∀ q : Nat, (fun _ : Nat => False) q → θ.2.2.2 ≤ q := fun _ h => h.elim
  have hz0 := hz
  have hK := sz_K fx.2 hz
  refine lv_iload_n hx hb dX1_isKept_0 rfl (lv_at hl 1 rfl) ?_
  refine c_N (As := [.int (iI a)]) (rest := []) fx hl (nok_needPlace l S0 _ a (by omega) (by omega)) dX1_isKept_1 k260 k261 k1 k262 hd_X1_needPlace rfl ⟨by decide, by decide⟩ (Nat.le_of_ble_eq_true rfl) ⟨by dsimp only; omega, by dsimp only; omega⟩ ?_
  refine lv_iload_n hx hb dX1_isKept_4 rfl (lv_at hl 2 rfl) ?_
  refine c_N (As := [.int (iI n)]) (rest := []) fx hl (nok_needMonths l S0 _ n (by omega) (by omega)) dX1_isKept_5 k640 k641 k1 k642 hd_X1_needMonths rfl ⟨by decide, by decide⟩ (Nat.le_of_ble_eq_true rfl) ⟨by dsimp only; omega, by dsimp only; omega⟩ ?_
  refine lv_aload_n hx hb dX1_isKept_8 rfl (lv_at hl 0 rfl) ?_
  refine r_get (θ := θ) (C := RX1) (T := TX1) (N := 8) (ci := 7) hx hb hts gwX1 hown hK ho rfl 0 (by decide) k73 (fun _ h => h) (v := .ref (u 1)) rfl dX1_isKept_9 ?_
  refine lv_iload_n hx hb dX1_isKept_12 rfl (lv_at hl 1 rfl) ?_
  refine r_iald (θ := θ) hx hb hK ha1 (i := a) (by omega) (by decide) dX1_isKept_13 ?_
  have tr1 := hd (a.toNat) (by omega)
  refine lv_iload_n hx hb dX1_isKept_14 rfl (lv_at hl 2 rfl) ?_
  refine c_P (As := [.int (iI (dt a.toNat)), .int (iI n)]) (rest := []) fx hl (pm_X0_lossOf l (dt a.toNat) n (by omega) (by omega)) dX1_isKept_15 k645 k646 k13 k647 hd_X0_lossOf rfl ⟨by decide, by decide⟩ (Nat.le_of_ble_eq_true rfl) ⟨by omega, by omega⟩ ?_
  refine q_nm (fun z2 ez2 => ?_)
  have t0z2 := dI_b (dt a.toNat)
  have t1z2 := dI_b (shI (dt a.toNat) n)
  refine q_ine (tgt := 25) hx hb dX1_isKept_18 (by decide) (by omega) (fun c3 => ?_) (fun c3 => ?_)
  · refine q_con hx hb dX1_isKept_25 ?_
    exact e_z hx hb hr hlk (by decide) hS dX1_isKept_26 (Nat.le_refl _) (Nat.le_refl _) ⟨ex_i (by omega), rfl⟩
  · refine q_con hx hb dX1_isKept_21 ?_
    refine lv_goto (tgt := 26) hx hb dX1_isKept_22 (by decide) ?_
    exact e_z hx hb hr hlk (by decide) hS dX1_isKept_26 (Nat.le_refl _) (Nat.le_refl _) ⟨ex_i (by omega), rfl⟩

set_option maxHeartbeats 4000000 in
set_option maxRecDepth 100000 in
theorem no1_isKept (θ : TH) (l : Launch) (hl0 : l.stackTraces = false) (S0 : State) (H : Heap) (u : Nat → Nat) (dt sy sm sd : Nat → Int) (bc rf kn : Int) (hw : CWR θ S0 u H dt sy sm sd bc rf kn) (a n : Int) (h_0 : -2147483648 ≤ a ∧ a < 2147483648) (h_1 : -2147483648 ≤ n ∧ n < 2147483648) (h_2 : ¬ (0 ≤ a ∧ a < 6)) : TX l yX1_isKept cX1_isKept 3 (some .boolean) 7 110 [.ref (u 0), .int (iI a), .int (iI n)] S0 H "java/lang/IndexOutOfBoundsException" := by
  refine ct_of (by decide +kernel) (Nat.le_of_ble_eq_true rfl) ?_
  intro pg en s mi args below meth co ls fx hs hr hlk hxt hin hl
  subst hs
  obtain ⟨hx, hb, hml, hown, hts⟩ := id fx.1
  have hS : va_S (fun q : Nat => s.heap.size ≤ q) s.heap s.heap [] := va_S.rf
  obtain ⟨hz, hu, ⟨ho, ha1, ha2, ha3, ha4, hsb⟩, hd, hsp⟩ := id hw
  have hAB : ∀ q : Nat, (fun q : Nat => s.heap.size ≤ q) q → θ.2.2.2 ≤ q := fun q h => Nat.le_trans hz.2.1 h
  have hz0 := hz
  have hK := sz_K fx.2 hz
  refine lv_iload_n hx hb dX1_isKept_0 rfl (lv_at hl 1 rfl) ?_
  exact e_cT (As := [.int (iI a)]) (rest := []) fx hl (nno_needPlace θ l hl0 S0 _ hz a (by omega) (by omega)) dX1_isKept_1 k260 k261 k1 k262 hd_X1_needPlace rfl ⟨by decide, by decide⟩ (Nat.le_of_ble_eq_true rfl) ⟨by decide, by decide⟩ ⟨by decide, by decide⟩ hS (fun _ h => h) hxt hlk (fun H1 h1 h2 => ⟨rfl, h1, h2⟩)

set_option maxHeartbeats 4000000 in
set_option maxRecDepth 100000 in
theorem no2_isKept (θ : TH) (l : Launch) (hl0 : l.stackTraces = false) (S0 : State) (H : Heap) (u : Nat → Nat) (dt sy sm sd : Nat → Int) (bc rf kn : Int) (hw : CWR θ S0 u H dt sy sm sd bc rf kn) (a n : Int) (h_0 : -2147483648 ≤ a ∧ a < 2147483648) (h_1 : -2147483648 ≤ n ∧ n < 2147483648) (h_2 : 0 ≤ a ∧ a < 6) (h_3 : ¬ (-240000 ≤ n ∧ n ≤ 240000)) : TX l yX1_isKept cX1_isKept 3 (some .boolean) 8 132 [.ref (u 0), .int (iI a), .int (iI n)] S0 H "java/lang/IllegalArgumentException" := by
  refine ct_of (by decide +kernel) (Nat.le_of_ble_eq_true rfl) ?_
  intro pg en s mi args below meth co ls fx hs hr hlk hxt hin hl
  subst hs
  obtain ⟨hx, hb, hml, hown, hts⟩ := id fx.1
  have hS : va_S (fun q : Nat => s.heap.size ≤ q) s.heap s.heap [] := va_S.rf
  obtain ⟨hz, hu, ⟨ho, ha1, ha2, ha3, ha4, hsb⟩, hd, hsp⟩ := id hw
  have hAB : ∀ q : Nat, (fun q : Nat => s.heap.size ≤ q) q → θ.2.2.2 ≤ q := fun q h => Nat.le_trans hz.2.1 h
  have hz0 := hz
  have hK := sz_K fx.2 hz
  refine lv_iload_n hx hb dX1_isKept_0 rfl (lv_at hl 1 rfl) ?_
  refine c_N (As := [.int (iI a)]) (rest := []) fx hl (nok_needPlace l S0 _ a (by omega) (by omega)) dX1_isKept_1 k260 k261 k1 k262 hd_X1_needPlace rfl ⟨by decide, by decide⟩ (Nat.le_of_ble_eq_true rfl) ⟨by dsimp only; omega, by dsimp only; omega⟩ ?_
  refine lv_iload_n hx hb dX1_isKept_4 rfl (lv_at hl 2 rfl) ?_
  exact e_cT (As := [.int (iI n)]) (rest := []) fx hl (nno_needMonths θ l hl0 S0 _ hz n (by omega) (by omega)) dX1_isKept_5 k640 k641 k1 k642 hd_X1_needMonths rfl ⟨by decide, by decide⟩ (Nat.le_of_ble_eq_true rfl) ⟨by decide, by decide⟩ ⟨by decide, by decide⟩ hS (fun _ h => h) hxt hlk (fun H1 h1 h2 => ⟨rfl, h1, h2⟩)

set_option maxHeartbeats 4000000 in
set_option maxRecDepth 100000 in
theorem ok_loss (θ : TH) (l : Launch) (hl0 : l.stackTraces = false) (S0 : State) (H : Heap) (u : Nat → Nat) (dt sy sm sd : Nat → Int) (bc rf kn : Int) (hw : CWR θ S0 u H dt sy sm sd bc rf kn) (a n : Int) (h_0 : -2147483648 ≤ a ∧ a < 2147483648) (h_1 : -2147483648 ≤ n ∧ n < 2147483648) (h_2 : 0 ≤ a ∧ a < 6) (h_3 : -240000 ≤ n ∧ n ≤ 240000) : CT l yX1_loss cX1_loss 3 (some .int) 5 113 0 0 [.ref (u 0), .int (iI a), .int (iI n)] S0 H (fun v H1 => v = some (.int (iI (dI (dt a.toNat) - dI (shI (dt a.toNat) n)))) ∧ H1 = H) (fun _ _ => False) (fun _ => False) := by
  refine ct_of (by decide +kernel) (Nat.le_of_ble_eq_true rfl) ?_
  intro pg en s mi args below meth co ls fx hs hr hlk hxt hin hl
  subst hs
  obtain ⟨hx, hb, hml, hown, hts⟩ := id fx.1
  have hS : va_S (fun _ : Nat => False) s.heap s.heap [] := va_S.rf
  obtain ⟨hz, hu, ⟨ho, ha1, ha2, ha3, ha4, hsb⟩, hd, hsp⟩ := id hw
  have hAB : ∀ q : Nat, (fun _ : Nat => False) q → θ.2.2.2 ≤ q := fun _ h => h.elim
  have hz0 := hz
  have hK := sz_K fx.2 hz
  refine lv_iload_n hx hb dX1_loss_0 rfl (lv_at hl 1 rfl) ?_
  refine c_N (As := [.int (iI a)]) (rest := []) fx hl (nok_needPlace l S0 _ a (by omega) (by omega)) dX1_loss_1 k260 k261 k1 k262 hd_X1_needPlace rfl ⟨by decide, by decide⟩ (Nat.le_of_ble_eq_true rfl) ⟨by dsimp only; omega, by dsimp only; omega⟩ ?_
  refine lv_iload_n hx hb dX1_loss_4 rfl (lv_at hl 2 rfl) ?_
  refine c_N (As := [.int (iI n)]) (rest := []) fx hl (nok_needMonths l S0 _ n (by omega) (by omega)) dX1_loss_5 k640 k641 k1 k642 hd_X1_needMonths rfl ⟨by decide, by decide⟩ (Nat.le_of_ble_eq_true rfl) ⟨by dsimp only; omega, by dsimp only; omega⟩ ?_
  refine lv_aload_n hx hb dX1_loss_8 rfl (lv_at hl 0 rfl) ?_
  refine r_get (θ := θ) (C := RX1) (T := TX1) (N := 8) (ci := 7) hx hb hts gwX1 hown hK ho rfl 0 (by decide) k73 (fun _ h => h) (v := .ref (u 1)) rfl dX1_loss_9 ?_
  refine lv_iload_n hx hb dX1_loss_12 rfl (lv_at hl 1 rfl) ?_
  refine r_iald (θ := θ) hx hb hK ha1 (i := a) (by omega) (by decide) dX1_loss_13 ?_
  have tr1 := hd (a.toNat) (by omega)
  refine lv_iload_n hx hb dX1_loss_14 rfl (lv_at hl 2 rfl) ?_
  refine c_P (As := [.int (iI (dt a.toNat)), .int (iI n)]) (rest := []) fx hl (pm_X0_lossOf l (dt a.toNat) n (by omega) (by omega)) dX1_loss_15 k645 k646 k13 k647 hd_X0_lossOf rfl ⟨by decide, by decide⟩ (Nat.le_of_ble_eq_true rfl) ⟨by omega, by omega⟩ ?_
  refine q_nm (fun z2 ez2 => ?_)
  have t0z2 := dI_b (dt a.toNat)
  have t1z2 := dI_b (shI (dt a.toNat) n)
  exact e_i hx hb hr hlk hS dX1_loss_18 (Nat.le_refl _) (Nat.le_refl _) ⟨ex_i (by subst_vars; omega), rfl⟩

set_option maxHeartbeats 4000000 in
set_option maxRecDepth 100000 in
theorem no1_loss (θ : TH) (l : Launch) (hl0 : l.stackTraces = false) (S0 : State) (H : Heap) (u : Nat → Nat) (dt sy sm sd : Nat → Int) (bc rf kn : Int) (hw : CWR θ S0 u H dt sy sm sd bc rf kn) (a n : Int) (h_0 : -2147483648 ≤ a ∧ a < 2147483648) (h_1 : -2147483648 ≤ n ∧ n < 2147483648) (h_2 : ¬ (0 ≤ a ∧ a < 6)) : TX l yX1_loss cX1_loss 3 (some .int) 7 110 [.ref (u 0), .int (iI a), .int (iI n)] S0 H "java/lang/IndexOutOfBoundsException" := by
  refine ct_of (by decide +kernel) (Nat.le_of_ble_eq_true rfl) ?_
  intro pg en s mi args below meth co ls fx hs hr hlk hxt hin hl
  subst hs
  obtain ⟨hx, hb, hml, hown, hts⟩ := id fx.1
  have hS : va_S (fun q : Nat => s.heap.size ≤ q) s.heap s.heap [] := va_S.rf
  obtain ⟨hz, hu, ⟨ho, ha1, ha2, ha3, ha4, hsb⟩, hd, hsp⟩ := id hw
  have hAB : ∀ q : Nat, (fun q : Nat => s.heap.size ≤ q) q → θ.2.2.2 ≤ q := fun q h => Nat.le_trans hz.2.1 h
  have hz0 := hz
  have hK := sz_K fx.2 hz
  refine lv_iload_n hx hb dX1_loss_0 rfl (lv_at hl 1 rfl) ?_
  exact e_cT (As := [.int (iI a)]) (rest := []) fx hl (nno_needPlace θ l hl0 S0 _ hz a (by omega) (by omega)) dX1_loss_1 k260 k261 k1 k262 hd_X1_needPlace rfl ⟨by decide, by decide⟩ (Nat.le_of_ble_eq_true rfl) ⟨by decide, by decide⟩ ⟨by decide, by decide⟩ hS (fun _ h => h) hxt hlk (fun H1 h1 h2 => ⟨rfl, h1, h2⟩)

set_option maxHeartbeats 4000000 in
set_option maxRecDepth 100000 in
theorem no2_loss (θ : TH) (l : Launch) (hl0 : l.stackTraces = false) (S0 : State) (H : Heap) (u : Nat → Nat) (dt sy sm sd : Nat → Int) (bc rf kn : Int) (hw : CWR θ S0 u H dt sy sm sd bc rf kn) (a n : Int) (h_0 : -2147483648 ≤ a ∧ a < 2147483648) (h_1 : -2147483648 ≤ n ∧ n < 2147483648) (h_2 : 0 ≤ a ∧ a < 6) (h_3 : ¬ (-240000 ≤ n ∧ n ≤ 240000)) : TX l yX1_loss cX1_loss 3 (some .int) 8 132 [.ref (u 0), .int (iI a), .int (iI n)] S0 H "java/lang/IllegalArgumentException" := by
  refine ct_of (by decide +kernel) (Nat.le_of_ble_eq_true rfl) ?_
  intro pg en s mi args below meth co ls fx hs hr hlk hxt hin hl
  subst hs
  obtain ⟨hx, hb, hml, hown, hts⟩ := id fx.1
  have hS : va_S (fun q : Nat => s.heap.size ≤ q) s.heap s.heap [] := va_S.rf
  obtain ⟨hz, hu, ⟨ho, ha1, ha2, ha3, ha4, hsb⟩, hd, hsp⟩ := id hw
  have hAB : ∀ q : Nat, (fun q : Nat => s.heap.size ≤ q) q → θ.2.2.2 ≤ q := fun q h => Nat.le_trans hz.2.1 h
  have hz0 := hz
  have hK := sz_K fx.2 hz
  refine lv_iload_n hx hb dX1_loss_0 rfl (lv_at hl 1 rfl) ?_
  refine c_N (As := [.int (iI a)]) (rest := []) fx hl (nok_needPlace l S0 _ a (by omega) (by omega)) dX1_loss_1 k260 k261 k1 k262 hd_X1_needPlace rfl ⟨by decide, by decide⟩ (Nat.le_of_ble_eq_true rfl) ⟨by dsimp only; omega, by dsimp only; omega⟩ ?_
  refine lv_iload_n hx hb dX1_loss_4 rfl (lv_at hl 2 rfl) ?_
  exact e_cT (As := [.int (iI n)]) (rest := []) fx hl (nno_needMonths θ l hl0 S0 _ hz n (by omega) (by omega)) dX1_loss_5 k640 k641 k1 k642 hd_X1_needMonths rfl ⟨by decide, by decide⟩ (Nat.le_of_ble_eq_true rfl) ⟨by decide, by decide⟩ ⟨by decide, by decide⟩ hS (fun _ h => h) hxt hlk (fun H1 h1 h2 => ⟨rfl, h1, h2⟩)

set_option maxHeartbeats 4000000 in
set_option maxRecDepth 100000 in
theorem ok_leadsBack (θ : TH) (l : Launch) (hl0 : l.stackTraces = false) (S0 : State) (H : Heap) (u : Nat → Nat) (dt sy sm sd : Nat → Int) (bc rf kn : Int) (hw : CWR θ S0 u H dt sy sm sd bc rf kn) (a n : Int) (r : Int) (hr0 : (r = 1 ∧ (shI (shI (dt a.toNat) n) (-n) = dt a.toNat)) ∨ (r = 0 ∧ ¬ (shI (shI (dt a.toNat) n) (-n) = dt a.toNat))) (h_0 : -2147483648 ≤ a ∧ a < 2147483648) (h_1 : -2147483648 ≤ n ∧ n < 2147483648) (h_2 : 0 ≤ a ∧ a < 6) (h_3 : -240000 ≤ n ∧ n ≤ 240000) : CT l yX1_leadsBack cX1_leadsBack 3 (some .boolean) 5 113 0 0 [.ref (u 0), .int (iI a), .int (iI n)] S0 H (fun v H1 => v = some (.int (iI r)) ∧ H1 = H) (fun _ _ => False) (fun _ => False) := by
  refine ct_of (by decide +kernel) (Nat.le_of_ble_eq_true rfl) ?_
  intro pg en s mi args below meth co ls fx hs hr hlk hxt hin hl
  subst hs
  obtain ⟨hx, hb, hml, hown, hts⟩ := id fx.1
  have hS : va_S (fun _ : Nat => False) s.heap s.heap [] := va_S.rf
  obtain ⟨hz, hu, ⟨ho, ha1, ha2, ha3, ha4, hsb⟩, hd, hsp⟩ := id hw
  have hAB : ∀ q : Nat, (fun _ : Nat => False) q → θ.2.2.2 ≤ q := fun _ h => h.elim
  have hz0 := hz
  have hK := sz_K fx.2 hz
  refine lv_iload_n hx hb dX1_leadsBack_0 rfl (lv_at hl 1 rfl) ?_
  refine c_N (As := [.int (iI a)]) (rest := []) fx hl (nok_needPlace l S0 _ a (by omega) (by omega)) dX1_leadsBack_1 k260 k261 k1 k262 hd_X1_needPlace rfl ⟨by decide, by decide⟩ (Nat.le_of_ble_eq_true rfl) ⟨by dsimp only; omega, by dsimp only; omega⟩ ?_
  refine lv_iload_n hx hb dX1_leadsBack_4 rfl (lv_at hl 2 rfl) ?_
  refine c_N (As := [.int (iI n)]) (rest := []) fx hl (nok_needMonths l S0 _ n (by omega) (by omega)) dX1_leadsBack_5 k640 k641 k1 k642 hd_X1_needMonths rfl ⟨by decide, by decide⟩ (Nat.le_of_ble_eq_true rfl) ⟨by dsimp only; omega, by dsimp only; omega⟩ ?_
  refine lv_aload_n hx hb dX1_leadsBack_8 rfl (lv_at hl 0 rfl) ?_
  refine r_get (θ := θ) (C := RX1) (T := TX1) (N := 8) (ci := 7) hx hb hts gwX1 hown hK ho rfl 0 (by decide) k73 (fun _ h => h) (v := .ref (u 1)) rfl dX1_leadsBack_9 ?_
  refine lv_iload_n hx hb dX1_leadsBack_12 rfl (lv_at hl 1 rfl) ?_
  refine r_iald (θ := θ) hx hb hK ha1 (i := a) (by omega) (by decide) dX1_leadsBack_13 ?_
  have tr1 := hd (a.toNat) (by omega)
  refine lv_iload_n hx hb dX1_leadsBack_14 rfl (lv_at hl 2 rfl) ?_
  obtain ⟨r2, hr2⟩ := bex (shI (shI (dt a.toNat) n) (-n) = (dt a.toNat))
  refine c_P (As := [.int (iI (dt a.toNat)), .int (iI n)]) (rest := []) fx hl (pm_X0_comesBack l (dt a.toNat) n r2 hr2 (by omega) (by omega)) dX1_leadsBack_15 k887 k151 k13 k152 hd_X0_comesBack rfl ⟨by decide, by decide⟩ (Nat.le_of_ble_eq_true rfl) ⟨by omega, by omega⟩ ?_
  have br2 : r2 = 0 ∨ r2 = 1 := hr2.elim (fun h => Or.inr h.1) (fun h => Or.inl h.1)
  exact e_z hx hb hr hlk (br2) hS dX1_leadsBack_18 (Nat.le_refl _) (Nat.le_refl _) ⟨ex_i (by subst_vars; omega), rfl⟩

set_option maxHeartbeats 4000000 in
set_option maxRecDepth 100000 in
theorem no1_leadsBack (θ : TH) (l : Launch) (hl0 : l.stackTraces = false) (S0 : State) (H : Heap) (u : Nat → Nat) (dt sy sm sd : Nat → Int) (bc rf kn : Int) (hw : CWR θ S0 u H dt sy sm sd bc rf kn) (a n : Int) (h_0 : -2147483648 ≤ a ∧ a < 2147483648) (h_1 : -2147483648 ≤ n ∧ n < 2147483648) (h_2 : ¬ (0 ≤ a ∧ a < 6)) : TX l yX1_leadsBack cX1_leadsBack 3 (some .boolean) 7 110 [.ref (u 0), .int (iI a), .int (iI n)] S0 H "java/lang/IndexOutOfBoundsException" := by
  refine ct_of (by decide +kernel) (Nat.le_of_ble_eq_true rfl) ?_
  intro pg en s mi args below meth co ls fx hs hr hlk hxt hin hl
  subst hs
  obtain ⟨hx, hb, hml, hown, hts⟩ := id fx.1
  have hS : va_S (fun q : Nat => s.heap.size ≤ q) s.heap s.heap [] := va_S.rf
  obtain ⟨hz, hu, ⟨ho, ha1, ha2, ha3, ha4, hsb⟩, hd, hsp⟩ := id hw
  have hAB : ∀ q : Nat, (fun q : Nat => s.heap.size ≤ q) q → θ.2.2.2 ≤ q := fun q h => Nat.le_trans hz.2.1 h
  have hz0 := hz
  have hK := sz_K fx.2 hz
  refine lv_iload_n hx hb dX1_leadsBack_0 rfl (lv_at hl 1 rfl) ?_
  exact e_cT (As := [.int (iI a)]) (rest := []) fx hl (nno_needPlace θ l hl0 S0 _ hz a (by omega) (by omega)) dX1_leadsBack_1 k260 k261 k1 k262 hd_X1_needPlace rfl ⟨by decide, by decide⟩ (Nat.le_of_ble_eq_true rfl) ⟨by decide, by decide⟩ ⟨by decide, by decide⟩ hS (fun _ h => h) hxt hlk (fun H1 h1 h2 => ⟨rfl, h1, h2⟩)

set_option maxHeartbeats 4000000 in
set_option maxRecDepth 100000 in
theorem no2_leadsBack (θ : TH) (l : Launch) (hl0 : l.stackTraces = false) (S0 : State) (H : Heap) (u : Nat → Nat) (dt sy sm sd : Nat → Int) (bc rf kn : Int) (hw : CWR θ S0 u H dt sy sm sd bc rf kn) (a n : Int) (h_0 : -2147483648 ≤ a ∧ a < 2147483648) (h_1 : -2147483648 ≤ n ∧ n < 2147483648) (h_2 : 0 ≤ a ∧ a < 6) (h_3 : ¬ (-240000 ≤ n ∧ n ≤ 240000)) : TX l yX1_leadsBack cX1_leadsBack 3 (some .boolean) 8 132 [.ref (u 0), .int (iI a), .int (iI n)] S0 H "java/lang/IllegalArgumentException" := by
  refine ct_of (by decide +kernel) (Nat.le_of_ble_eq_true rfl) ?_
  intro pg en s mi args below meth co ls fx hs hr hlk hxt hin hl
  subst hs
  obtain ⟨hx, hb, hml, hown, hts⟩ := id fx.1
  have hS : va_S (fun q : Nat => s.heap.size ≤ q) s.heap s.heap [] := va_S.rf
  obtain ⟨hz, hu, ⟨ho, ha1, ha2, ha3, ha4, hsb⟩, hd, hsp⟩ := id hw
  have hAB : ∀ q : Nat, (fun q : Nat => s.heap.size ≤ q) q → θ.2.2.2 ≤ q := fun q h => Nat.le_trans hz.2.1 h
  have hz0 := hz
  have hK := sz_K fx.2 hz
  refine lv_iload_n hx hb dX1_leadsBack_0 rfl (lv_at hl 1 rfl) ?_
  refine c_N (As := [.int (iI a)]) (rest := []) fx hl (nok_needPlace l S0 _ a (by omega) (by omega)) dX1_leadsBack_1 k260 k261 k1 k262 hd_X1_needPlace rfl ⟨by decide, by decide⟩ (Nat.le_of_ble_eq_true rfl) ⟨by dsimp only; omega, by dsimp only; omega⟩ ?_
  refine lv_iload_n hx hb dX1_leadsBack_4 rfl (lv_at hl 2 rfl) ?_
  exact e_cT (As := [.int (iI n)]) (rest := []) fx hl (nno_needMonths θ l hl0 S0 _ hz n (by omega) (by omega)) dX1_leadsBack_5 k640 k641 k1 k642 hd_X1_needMonths rfl ⟨by decide, by decide⟩ (Nat.le_of_ble_eq_true rfl) ⟨by decide, by decide⟩ ⟨by decide, by decide⟩ hS (fun _ h => h) hxt hlk (fun H1 h1 h2 => ⟨rfl, h1, h2⟩)

set_option maxHeartbeats 4000000 in
set_option maxRecDepth 100000 in
theorem ok_twice (θ : TH) (l : Launch) (hl0 : l.stackTraces = false) (S0 : State) (H : Heap) (u : Nat → Nat) (dt sy sm sd : Nat → Int) (bc rf kn : Int) (hw : CWR θ S0 u H dt sy sm sd bc rf kn) (a n k : Int) (h_0 : -2147483648 ≤ a ∧ a < 2147483648) (h_1 : -2147483648 ≤ n ∧ n < 2147483648) (h_2 : -2147483648 ≤ k ∧ k < 2147483648) (h_3 : 0 ≤ a ∧ a < 6) (h_4 : -240000 ≤ n ∧ n ≤ 240000) (h_5 : -240000 ≤ k ∧ k ≤ 240000) : CT l yX1_twice cX1_twice 6 (some .int) 4 92 0 0 [.ref (u 0), .int (iI a), .int (iI n), .int (iI k)] S0 H (fun v H1 => v = some (.int (iI (shI (dt a.toNat) (n + k) - shI (shI (dt a.toNat) n) k))) ∧ H1 = H) (fun _ _ => False) (fun _ => False) := by
  refine ct_of (by decide +kernel) (Nat.le_of_ble_eq_true rfl) ?_
  intro pg en s mi args below meth co ls fx hs hr hlk hxt hin hl
  subst hs
  obtain ⟨hx, hb, hml, hown, hts⟩ := id fx.1
  have hS : va_S (fun _ : Nat => False) s.heap s.heap [] := va_S.rf
  obtain ⟨hz, hu, ⟨ho, ha1, ha2, ha3, ha4, hsb⟩, hd, hsp⟩ := id hw
  have hAB : ∀ q : Nat, (fun _ : Nat => False) q → θ.2.2.2 ≤ q := fun _ h => h.elim
  have hz0 := hz
  have hK := sz_K fx.2 hz
  refine lv_iload_n hx hb dX1_twice_0 rfl (lv_at hl 1 rfl) ?_
  refine c_N (As := [.int (iI a)]) (rest := []) fx hl (nok_needPlace l S0 _ a (by omega) (by omega)) dX1_twice_1 k260 k261 k1 k262 hd_X1_needPlace rfl ⟨by decide, by decide⟩ (Nat.le_of_ble_eq_true rfl) ⟨by dsimp only; omega, by dsimp only; omega⟩ ?_
  refine lv_iload_n hx hb dX1_twice_4 rfl (lv_at hl 2 rfl) ?_
  refine c_N (As := [.int (iI n)]) (rest := []) fx hl (nok_needMonths l S0 _ n (by omega) (by omega)) dX1_twice_5 k640 k641 k1 k642 hd_X1_needMonths rfl ⟨by decide, by decide⟩ (Nat.le_of_ble_eq_true rfl) ⟨by dsimp only; omega, by dsimp only; omega⟩ ?_
  refine lv_iload_n hx hb dX1_twice_8 rfl (lv_at hl 3 rfl) ?_
  refine c_N (As := [.int (iI k)]) (rest := []) fx hl (nok_needMonths l S0 _ k (by omega) (by omega)) dX1_twice_9 k640 k641 k1 k642 hd_X1_needMonths rfl ⟨by decide, by decide⟩ (Nat.le_of_ble_eq_true rfl) ⟨by dsimp only; omega, by dsimp only; omega⟩ ?_
  refine lv_aload_n hx hb dX1_twice_12 rfl (lv_at hl 0 rfl) ?_
  refine r_get (θ := θ) (C := RX1) (T := TX1) (N := 8) (ci := 7) hx hb hts gwX1 hown hK ho rfl 0 (by decide) k73 (fun _ h => h) (v := .ref (u 1)) rfl dX1_twice_13 ?_
  refine lv_iload_n hx hb dX1_twice_16 rfl (lv_at hl 1 rfl) ?_
  refine r_iald (θ := θ) hx hb hK ha1 (i := a) (by omega) (by decide) dX1_twice_17 ?_
  have tr1 := hd (a.toNat) (by omega)
  refine lv_istore (lv' := [(4, .int (iI (dt a.toNat))), (0, .ref (u 0)), (1, .int (iI a)), (2, .int (iI n)), (3, .int (iI k))]) hx hb dX1_twice_18 hl (by decide) rfl (fun ls hl => ?_)
  refine lv_iload hx hb dX1_twice_20 (lv_at hl 0 rfl) ?_
  refine lv_iload_n hx hb dX1_twice_22 rfl (lv_at hl 3 rfl) ?_
  refine lv_iload_n hx hb dX1_twice_23 rfl (lv_at hl 4 rfl) ?_
  refine q_add hx hb dX1_twice_24 ?_
  refine c_P (As := [.int (iI (dt a.toNat)), .int (iI (n + k))]) (rest := []) fx hl (pm_X0_shifted l (dt a.toNat) (n + k) (by omega) (by omega)) dX1_twice_25 k783 k141 k13 k142 hd_X0_shifted rfl ⟨by decide, by decide⟩ (Nat.le_of_ble_eq_true rfl) ⟨by omega, by omega⟩ ?_
  have t0z2 := shI_s (dt a.toNat) (n + k)
  have t1z2 := shI_bd (dt a.toNat) (n + k)
  refine lv_istore (lv' := [(5, .int (iI (shI (dt a.toNat) (n + k)))), (4, .int (iI (dt a.toNat))), (0, .ref (u 0)), (1, .int (iI a)), (2, .int (iI n)), (3, .int (iI k))]) hx hb dX1_twice_28 hl (by decide) rfl (fun ls hl => ?_)
  refine lv_iload hx hb dX1_twice_30 (lv_at hl 0 rfl) ?_
  refine lv_iload hx hb dX1_twice_32 (lv_at hl 1 rfl) ?_
  refine lv_iload_n hx hb dX1_twice_34 rfl (lv_at hl 4 rfl) ?_
  refine c_P (As := [.int (iI (dt a.toNat)), .int (iI n)]) (rest := [.int (iI (shI (dt a.toNat) (n + k)))]) fx hl (pm_X0_shifted l (dt a.toNat) n (by omega) (by omega)) dX1_twice_35 k783 k141 k13 k142 hd_X0_shifted rfl ⟨by decide, by decide⟩ (Nat.le_of_ble_eq_true rfl) ⟨by omega, by omega⟩ ?_
  have t0z3 := shI_s (dt a.toNat) n
  have t1z3 := shI_bd (dt a.toNat) n
  refine lv_iload_n hx hb dX1_twice_38 rfl (lv_at hl 5 rfl) ?_
  refine c_P (As := [.int (iI (shI (dt a.toNat) n)), .int (iI k)]) (rest := [.int (iI (shI (dt a.toNat) (n + k)))]) fx hl (pm_X0_shifted l (shI (dt a.toNat) n) k (by omega) (by omega)) dX1_twice_39 k783 k141 k13 k142 hd_X0_shifted rfl ⟨by decide, by decide⟩ (Nat.le_of_ble_eq_true rfl) ⟨by omega, by omega⟩ ?_
  have t0z4 := shI_s (shI (dt a.toNat) n) k
  have t1z4 := shI_bd (shI (dt a.toNat) n) k
  refine q_sub hx hb dX1_twice_42 ?_
  exact e_i hx hb hr hlk hS dX1_twice_43 (Nat.le_refl _) (Nat.le_refl _) ⟨ex_i (by subst_vars; omega), rfl⟩

set_option maxHeartbeats 4000000 in
set_option maxRecDepth 100000 in
theorem no1_twice (θ : TH) (l : Launch) (hl0 : l.stackTraces = false) (S0 : State) (H : Heap) (u : Nat → Nat) (dt sy sm sd : Nat → Int) (bc rf kn : Int) (hw : CWR θ S0 u H dt sy sm sd bc rf kn) (a n k : Int) (h_0 : -2147483648 ≤ a ∧ a < 2147483648) (h_1 : -2147483648 ≤ n ∧ n < 2147483648) (h_2 : -2147483648 ≤ k ∧ k < 2147483648) (h_3 : ¬ (0 ≤ a ∧ a < 6)) : TX l yX1_twice cX1_twice 6 (some .int) 7 110 [.ref (u 0), .int (iI a), .int (iI n), .int (iI k)] S0 H "java/lang/IndexOutOfBoundsException" := by
  refine ct_of (by decide +kernel) (Nat.le_of_ble_eq_true rfl) ?_
  intro pg en s mi args below meth co ls fx hs hr hlk hxt hin hl
  subst hs
  obtain ⟨hx, hb, hml, hown, hts⟩ := id fx.1
  have hS : va_S (fun q : Nat => s.heap.size ≤ q) s.heap s.heap [] := va_S.rf
  obtain ⟨hz, hu, ⟨ho, ha1, ha2, ha3, ha4, hsb⟩, hd, hsp⟩ := id hw
  have hAB : ∀ q : Nat, (fun q : Nat => s.heap.size ≤ q) q → θ.2.2.2 ≤ q := fun q h => Nat.le_trans hz.2.1 h
  have hz0 := hz
  have hK := sz_K fx.2 hz
  refine lv_iload_n hx hb dX1_twice_0 rfl (lv_at hl 1 rfl) ?_
  exact e_cT (As := [.int (iI a)]) (rest := []) fx hl (nno_needPlace θ l hl0 S0 _ hz a (by omega) (by omega)) dX1_twice_1 k260 k261 k1 k262 hd_X1_needPlace rfl ⟨by decide, by decide⟩ (Nat.le_of_ble_eq_true rfl) ⟨by decide, by decide⟩ ⟨by decide, by decide⟩ hS (fun _ h => h) hxt hlk (fun H1 h1 h2 => ⟨rfl, h1, h2⟩)

set_option maxHeartbeats 4000000 in
set_option maxRecDepth 100000 in
theorem no2_twice (θ : TH) (l : Launch) (hl0 : l.stackTraces = false) (S0 : State) (H : Heap) (u : Nat → Nat) (dt sy sm sd : Nat → Int) (bc rf kn : Int) (hw : CWR θ S0 u H dt sy sm sd bc rf kn) (a n k : Int) (h_0 : -2147483648 ≤ a ∧ a < 2147483648) (h_1 : -2147483648 ≤ n ∧ n < 2147483648) (h_2 : -2147483648 ≤ k ∧ k < 2147483648) (h_3 : 0 ≤ a ∧ a < 6) (h_4 : ¬ (-240000 ≤ n ∧ n ≤ 240000)) : TX l yX1_twice cX1_twice 6 (some .int) 8 132 [.ref (u 0), .int (iI a), .int (iI n), .int (iI k)] S0 H "java/lang/IllegalArgumentException" := by
  refine ct_of (by decide +kernel) (Nat.le_of_ble_eq_true rfl) ?_
  intro pg en s mi args below meth co ls fx hs hr hlk hxt hin hl
  subst hs
  obtain ⟨hx, hb, hml, hown, hts⟩ := id fx.1
  have hS : va_S (fun q : Nat => s.heap.size ≤ q) s.heap s.heap [] := va_S.rf
  obtain ⟨hz, hu, ⟨ho, ha1, ha2, ha3, ha4, hsb⟩, hd, hsp⟩ := id hw
  have hAB : ∀ q : Nat, (fun q : Nat => s.heap.size ≤ q) q → θ.2.2.2 ≤ q := fun q h => Nat.le_trans hz.2.1 h
  have hz0 := hz
  have hK := sz_K fx.2 hz
  refine lv_iload_n hx hb dX1_twice_0 rfl (lv_at hl 1 rfl) ?_
  refine c_N (As := [.int (iI a)]) (rest := []) fx hl (nok_needPlace l S0 _ a (by omega) (by omega)) dX1_twice_1 k260 k261 k1 k262 hd_X1_needPlace rfl ⟨by decide, by decide⟩ (Nat.le_of_ble_eq_true rfl) ⟨by dsimp only; omega, by dsimp only; omega⟩ ?_
  refine lv_iload_n hx hb dX1_twice_4 rfl (lv_at hl 2 rfl) ?_
  exact e_cT (As := [.int (iI n)]) (rest := []) fx hl (nno_needMonths θ l hl0 S0 _ hz n (by omega) (by omega)) dX1_twice_5 k640 k641 k1 k642 hd_X1_needMonths rfl ⟨by decide, by decide⟩ (Nat.le_of_ble_eq_true rfl) ⟨by decide, by decide⟩ ⟨by decide, by decide⟩ hS (fun _ h => h) hxt hlk (fun H1 h1 h2 => ⟨rfl, h1, h2⟩)

set_option maxHeartbeats 4000000 in
set_option maxRecDepth 100000 in
theorem no3_twice (θ : TH) (l : Launch) (hl0 : l.stackTraces = false) (S0 : State) (H : Heap) (u : Nat → Nat) (dt sy sm sd : Nat → Int) (bc rf kn : Int) (hw : CWR θ S0 u H dt sy sm sd bc rf kn) (a n k : Int) (h_0 : -2147483648 ≤ a ∧ a < 2147483648) (h_1 : -2147483648 ≤ n ∧ n < 2147483648) (h_2 : -2147483648 ≤ k ∧ k < 2147483648) (h_3 : 0 ≤ a ∧ a < 6) (h_4 : -240000 ≤ n ∧ n ≤ 240000) (h_5 : ¬ (-240000 ≤ k ∧ k ≤ 240000)) : TX l yX1_twice cX1_twice 6 (some .int) 8 132 [.ref (u 0), .int (iI a), .int (iI n), .int (iI k)] S0 H "java/lang/IllegalArgumentException" := by
  refine ct_of (by decide +kernel) (Nat.le_of_ble_eq_true rfl) ?_
  intro pg en s mi args below meth co ls fx hs hr hlk hxt hin hl
  subst hs
  obtain ⟨hx, hb, hml, hown, hts⟩ := id fx.1
  have hS : va_S (fun q : Nat => s.heap.size ≤ q) s.heap s.heap [] := va_S.rf
  obtain ⟨hz, hu, ⟨ho, ha1, ha2, ha3, ha4, hsb⟩, hd, hsp⟩ := id hw
  have hAB : ∀ q : Nat, (fun q : Nat => s.heap.size ≤ q) q → θ.2.2.2 ≤ q := fun q h => Nat.le_trans hz.2.1 h
  have hz0 := hz
  have hK := sz_K fx.2 hz
  refine lv_iload_n hx hb dX1_twice_0 rfl (lv_at hl 1 rfl) ?_
  refine c_N (As := [.int (iI a)]) (rest := []) fx hl (nok_needPlace l S0 _ a (by omega) (by omega)) dX1_twice_1 k260 k261 k1 k262 hd_X1_needPlace rfl ⟨by decide, by decide⟩ (Nat.le_of_ble_eq_true rfl) ⟨by dsimp only; omega, by dsimp only; omega⟩ ?_
  refine lv_iload_n hx hb dX1_twice_4 rfl (lv_at hl 2 rfl) ?_
  refine c_N (As := [.int (iI n)]) (rest := []) fx hl (nok_needMonths l S0 _ n (by omega) (by omega)) dX1_twice_5 k640 k641 k1 k642 hd_X1_needMonths rfl ⟨by decide, by decide⟩ (Nat.le_of_ble_eq_true rfl) ⟨by dsimp only; omega, by dsimp only; omega⟩ ?_
  refine lv_iload_n hx hb dX1_twice_8 rfl (lv_at hl 3 rfl) ?_
  exact e_cT (As := [.int (iI k)]) (rest := []) fx hl (nno_needMonths θ l hl0 S0 _ hz k (by omega) (by omega)) dX1_twice_9 k640 k641 k1 k642 hd_X1_needMonths rfl ⟨by decide, by decide⟩ (Nat.le_of_ble_eq_true rfl) ⟨by decide, by decide⟩ ⟨by decide, by decide⟩ hS (fun _ h => h) hxt hlk (fun H1 h1 h2 => ⟨rfl, h1, h2⟩)

set_option maxHeartbeats 4000000 in
set_option maxRecDepth 100000 in
theorem ok_gap (θ : TH) (l : Launch) (hl0 : l.stackTraces = false) (S0 : State) (H : Heap) (u : Nat → Nat) (dt sy sm sd : Nat → Int) (bc rf kn : Int) (hw : CWR θ S0 u H dt sy sm sd bc rf kn) (a n k : Int) (h_0 : -2147483648 ≤ a ∧ a < 2147483648) (h_1 : -2147483648 ≤ n ∧ n < 2147483648) (h_2 : -2147483648 ≤ k ∧ k < 2147483648) (h_3 : 0 ≤ a ∧ a < 6) (h_4 : -240000 ≤ n ∧ n ≤ 240000) (h_5 : -100000 ≤ k ∧ k ≤ 100000) : CT l yX1_gap cX1_gap 5 (some .int) 5 114 0 0 [.ref (u 0), .int (iI a), .int (iI n), .int (iI k)] S0 H (fun v H1 => v = some (.int (iI (shI (dt a.toNat + k) n - (shI (dt a.toNat) n + k)))) ∧ H1 = H) (fun _ _ => False) (fun _ => False) := by
  refine ct_of (by decide +kernel) (Nat.le_of_ble_eq_true rfl) ?_
  intro pg en s mi args below meth co ls fx hs hr hlk hxt hin hl
  subst hs
  obtain ⟨hx, hb, hml, hown, hts⟩ := id fx.1
  have hS : va_S (fun _ : Nat => False) s.heap s.heap [] := va_S.rf
  obtain ⟨hz, hu, ⟨ho, ha1, ha2, ha3, ha4, hsb⟩, hd, hsp⟩ := id hw
  have hAB : ∀ q : Nat, (fun _ : Nat => False) q → θ.2.2.2 ≤ q := fun _ h => h.elim
  have hz0 := hz
  have hK := sz_K fx.2 hz
  refine lv_iload_n hx hb dX1_gap_0 rfl (lv_at hl 1 rfl) ?_
  refine c_N (As := [.int (iI a)]) (rest := []) fx hl (nok_needPlace l S0 _ a (by omega) (by omega)) dX1_gap_1 k260 k261 k1 k262 hd_X1_needPlace rfl ⟨by decide, by decide⟩ (Nat.le_of_ble_eq_true rfl) ⟨by dsimp only; omega, by dsimp only; omega⟩ ?_
  refine lv_iload_n hx hb dX1_gap_4 rfl (lv_at hl 2 rfl) ?_
  refine c_N (As := [.int (iI n)]) (rest := []) fx hl (nok_needMonths l S0 _ n (by omega) (by omega)) dX1_gap_5 k640 k641 k1 k642 hd_X1_needMonths rfl ⟨by decide, by decide⟩ (Nat.le_of_ble_eq_true rfl) ⟨by dsimp only; omega, by dsimp only; omega⟩ ?_
  refine lv_iload_n hx hb dX1_gap_8 rfl (lv_at hl 3 rfl) ?_
  refine q_ldc (n := -100000) hx hb hown (hts _ k652) (by decide) dX1_gap_9 ?_
  refine q_ldc (n := 100000) hx hb hown (hts _ k653) (by decide) dX1_gap_11 ?_
  refine c_N (As := [.int (iI k), .int (iI (-100000)), .int (iI 100000)]) (rest := []) fx hl (nok_needWithin l S0 _ k (-100000) 100000 (by omega) (by omega) (by omega) (by omega)) dX1_gap_13 k172 k173 k1 k174 hd_X1_needWithin rfl ⟨by decide, by decide⟩ (Nat.le_of_ble_eq_true rfl) ⟨by dsimp only; omega, by dsimp only; omega⟩ ?_
  refine lv_aload_n hx hb dX1_gap_16 rfl (lv_at hl 0 rfl) ?_
  refine r_get (θ := θ) (C := RX1) (T := TX1) (N := 8) (ci := 7) hx hb hts gwX1 hown hK ho rfl 0 (by decide) k73 (fun _ h => h) (v := .ref (u 1)) rfl dX1_gap_17 ?_
  refine lv_iload_n hx hb dX1_gap_20 rfl (lv_at hl 1 rfl) ?_
  refine r_iald (θ := θ) hx hb hK ha1 (i := a) (by omega) (by decide) dX1_gap_21 ?_
  have tr1 := hd (a.toNat) (by omega)
  refine lv_istore (lv' := [(4, .int (iI (dt a.toNat))), (0, .ref (u 0)), (1, .int (iI a)), (2, .int (iI n)), (3, .int (iI k))]) hx hb dX1_gap_22 hl (by decide) rfl (fun ls hl => ?_)
  refine lv_iload hx hb dX1_gap_24 (lv_at hl 0 rfl) ?_
  refine lv_iload_n hx hb dX1_gap_26 rfl (lv_at hl 3 rfl) ?_
  refine lv_iload_n hx hb dX1_gap_27 rfl (lv_at hl 4 rfl) ?_
  refine c_P (As := [.int (iI (dt a.toNat)), .int (iI n), .int (iI k)]) (rest := []) fx hl (pm_X0_daysFirst l (dt a.toNat) n k (by omega) (by omega) (by omega)) dX1_gap_28 k654 k655 k13 k656 hd_X0_daysFirst rfl ⟨by decide, by decide⟩ (Nat.le_of_ble_eq_true rfl) ⟨by omega, by omega⟩ ?_
  have t0z2 := shI_bd ((dt a.toNat) + k) n
  refine lv_iload hx hb dX1_gap_31 (lv_at hl 0 rfl) ?_
  refine lv_iload_n hx hb dX1_gap_33 rfl (lv_at hl 3 rfl) ?_
  refine lv_iload_n hx hb dX1_gap_34 rfl (lv_at hl 4 rfl) ?_
  refine c_P (As := [.int (iI (dt a.toNat)), .int (iI n), .int (iI k)]) (rest := [.int (iI (shI ((dt a.toNat) + k) n))]) fx hl (pm_X0_monthsFirst l (dt a.toNat) n k (by omega) (by omega)) dX1_gap_35 k657 k160 k13 k161 hd_X0_monthsFirst rfl ⟨by decide, by decide⟩ (Nat.le_of_ble_eq_true rfl) ⟨by omega, by omega⟩ ?_
  refine q_nm (fun z3 ez3 => ?_)
  have t0z3 := shI_bd (dt a.toNat) n
  refine q_sub hx hb dX1_gap_38 ?_
  exact e_i hx hb hr hlk hS dX1_gap_39 (Nat.le_refl _) (Nat.le_refl _) ⟨ex_i (by subst_vars; omega), rfl⟩

set_option maxHeartbeats 4000000 in
set_option maxRecDepth 100000 in
theorem no1_gap (θ : TH) (l : Launch) (hl0 : l.stackTraces = false) (S0 : State) (H : Heap) (u : Nat → Nat) (dt sy sm sd : Nat → Int) (bc rf kn : Int) (hw : CWR θ S0 u H dt sy sm sd bc rf kn) (a n k : Int) (h_0 : -2147483648 ≤ a ∧ a < 2147483648) (h_1 : -2147483648 ≤ n ∧ n < 2147483648) (h_2 : -2147483648 ≤ k ∧ k < 2147483648) (h_3 : ¬ (0 ≤ a ∧ a < 6)) : TX l yX1_gap cX1_gap 5 (some .int) 7 110 [.ref (u 0), .int (iI a), .int (iI n), .int (iI k)] S0 H "java/lang/IndexOutOfBoundsException" := by
  refine ct_of (by decide +kernel) (Nat.le_of_ble_eq_true rfl) ?_
  intro pg en s mi args below meth co ls fx hs hr hlk hxt hin hl
  subst hs
  obtain ⟨hx, hb, hml, hown, hts⟩ := id fx.1
  have hS : va_S (fun q : Nat => s.heap.size ≤ q) s.heap s.heap [] := va_S.rf
  obtain ⟨hz, hu, ⟨ho, ha1, ha2, ha3, ha4, hsb⟩, hd, hsp⟩ := id hw
  have hAB : ∀ q : Nat, (fun q : Nat => s.heap.size ≤ q) q → θ.2.2.2 ≤ q := fun q h => Nat.le_trans hz.2.1 h
  have hz0 := hz
  have hK := sz_K fx.2 hz
  refine lv_iload_n hx hb dX1_gap_0 rfl (lv_at hl 1 rfl) ?_
  exact e_cT (As := [.int (iI a)]) (rest := []) fx hl (nno_needPlace θ l hl0 S0 _ hz a (by omega) (by omega)) dX1_gap_1 k260 k261 k1 k262 hd_X1_needPlace rfl ⟨by decide, by decide⟩ (Nat.le_of_ble_eq_true rfl) ⟨by decide, by decide⟩ ⟨by decide, by decide⟩ hS (fun _ h => h) hxt hlk (fun H1 h1 h2 => ⟨rfl, h1, h2⟩)

set_option maxHeartbeats 4000000 in
set_option maxRecDepth 100000 in
theorem no2_gap (θ : TH) (l : Launch) (hl0 : l.stackTraces = false) (S0 : State) (H : Heap) (u : Nat → Nat) (dt sy sm sd : Nat → Int) (bc rf kn : Int) (hw : CWR θ S0 u H dt sy sm sd bc rf kn) (a n k : Int) (h_0 : -2147483648 ≤ a ∧ a < 2147483648) (h_1 : -2147483648 ≤ n ∧ n < 2147483648) (h_2 : -2147483648 ≤ k ∧ k < 2147483648) (h_3 : 0 ≤ a ∧ a < 6) (h_4 : ¬ (-240000 ≤ n ∧ n ≤ 240000)) : TX l yX1_gap cX1_gap 5 (some .int) 8 132 [.ref (u 0), .int (iI a), .int (iI n), .int (iI k)] S0 H "java/lang/IllegalArgumentException" := by
  refine ct_of (by decide +kernel) (Nat.le_of_ble_eq_true rfl) ?_
  intro pg en s mi args below meth co ls fx hs hr hlk hxt hin hl
  subst hs
  obtain ⟨hx, hb, hml, hown, hts⟩ := id fx.1
  have hS : va_S (fun q : Nat => s.heap.size ≤ q) s.heap s.heap [] := va_S.rf
  obtain ⟨hz, hu, ⟨ho, ha1, ha2, ha3, ha4, hsb⟩, hd, hsp⟩ := id hw
  have hAB : ∀ q : Nat, (fun q : Nat => s.heap.size ≤ q) q → θ.2.2.2 ≤ q := fun q h => Nat.le_trans hz.2.1 h
  have hz0 := hz
  have hK := sz_K fx.2 hz
  refine lv_iload_n hx hb dX1_gap_0 rfl (lv_at hl 1 rfl) ?_
  refine c_N (As := [.int (iI a)]) (rest := []) fx hl (nok_needPlace l S0 _ a (by omega) (by omega)) dX1_gap_1 k260 k261 k1 k262 hd_X1_needPlace rfl ⟨by decide, by decide⟩ (Nat.le_of_ble_eq_true rfl) ⟨by dsimp only; omega, by dsimp only; omega⟩ ?_
  refine lv_iload_n hx hb dX1_gap_4 rfl (lv_at hl 2 rfl) ?_
  exact e_cT (As := [.int (iI n)]) (rest := []) fx hl (nno_needMonths θ l hl0 S0 _ hz n (by omega) (by omega)) dX1_gap_5 k640 k641 k1 k642 hd_X1_needMonths rfl ⟨by decide, by decide⟩ (Nat.le_of_ble_eq_true rfl) ⟨by decide, by decide⟩ ⟨by decide, by decide⟩ hS (fun _ h => h) hxt hlk (fun H1 h1 h2 => ⟨rfl, h1, h2⟩)

set_option maxHeartbeats 4000000 in
set_option maxRecDepth 100000 in
theorem no3_gap (θ : TH) (l : Launch) (hl0 : l.stackTraces = false) (S0 : State) (H : Heap) (u : Nat → Nat) (dt sy sm sd : Nat → Int) (bc rf kn : Int) (hw : CWR θ S0 u H dt sy sm sd bc rf kn) (a n k : Int) (h_0 : -2147483648 ≤ a ∧ a < 2147483648) (h_1 : -2147483648 ≤ n ∧ n < 2147483648) (h_2 : -2147483648 ≤ k ∧ k < 2147483648) (h_3 : 0 ≤ a ∧ a < 6) (h_4 : -240000 ≤ n ∧ n ≤ 240000) (h_5 : ¬ (-100000 ≤ k ∧ k ≤ 100000)) : TX l yX1_gap cX1_gap 5 (some .int) 7 112 [.ref (u 0), .int (iI a), .int (iI n), .int (iI k)] S0 H "java/lang/IllegalArgumentException" := by
  refine ct_of (by decide +kernel) (Nat.le_of_ble_eq_true rfl) ?_
  intro pg en s mi args below meth co ls fx hs hr hlk hxt hin hl
  subst hs
  obtain ⟨hx, hb, hml, hown, hts⟩ := id fx.1
  have hS : va_S (fun q : Nat => s.heap.size ≤ q) s.heap s.heap [] := va_S.rf
  obtain ⟨hz, hu, ⟨ho, ha1, ha2, ha3, ha4, hsb⟩, hd, hsp⟩ := id hw
  have hAB : ∀ q : Nat, (fun q : Nat => s.heap.size ≤ q) q → θ.2.2.2 ≤ q := fun q h => Nat.le_trans hz.2.1 h
  have hz0 := hz
  have hK := sz_K fx.2 hz
  refine lv_iload_n hx hb dX1_gap_0 rfl (lv_at hl 1 rfl) ?_
  refine c_N (As := [.int (iI a)]) (rest := []) fx hl (nok_needPlace l S0 _ a (by omega) (by omega)) dX1_gap_1 k260 k261 k1 k262 hd_X1_needPlace rfl ⟨by decide, by decide⟩ (Nat.le_of_ble_eq_true rfl) ⟨by dsimp only; omega, by dsimp only; omega⟩ ?_
  refine lv_iload_n hx hb dX1_gap_4 rfl (lv_at hl 2 rfl) ?_
  refine c_N (As := [.int (iI n)]) (rest := []) fx hl (nok_needMonths l S0 _ n (by omega) (by omega)) dX1_gap_5 k640 k641 k1 k642 hd_X1_needMonths rfl ⟨by decide, by decide⟩ (Nat.le_of_ble_eq_true rfl) ⟨by dsimp only; omega, by dsimp only; omega⟩ ?_
  refine lv_iload_n hx hb dX1_gap_8 rfl (lv_at hl 3 rfl) ?_
  refine q_ldc (n := -100000) hx hb hown (hts _ k652) (by decide) dX1_gap_9 ?_
  refine q_ldc (n := 100000) hx hb hown (hts _ k653) (by decide) dX1_gap_11 ?_
  exact e_cT (As := [.int (iI k), .int (iI (-100000)), .int (iI 100000)]) (rest := []) fx hl (nno_needWithin θ l hl0 S0 _ hz k (-100000) 100000 (by omega) (by omega) (by omega) (by omega)) dX1_gap_13 k172 k173 k1 k174 hd_X1_needWithin rfl ⟨by decide, by decide⟩ (Nat.le_of_ble_eq_true rfl) ⟨by decide, by decide⟩ ⟨by decide, by decide⟩ hS (fun _ h => h) hxt hlk (fun H1 h1 h2 => ⟨rfl, h1, h2⟩)

set_option maxHeartbeats 4000000 in
set_option maxRecDepth 100000 in
theorem ok_lowest (θ : TH) (l : Launch) (hl0 : l.stackTraces = false) (S0 : State) (H : Heap) (u : Nat → Nat) (dt sy sm sd : Nat → Int) (bc rf kn : Int) (hw : CWR θ S0 u H dt sy sm sd bc rf kn) (a n k : Int) (h_0 : -2147483648 ≤ a ∧ a < 2147483648) (h_1 : -2147483648 ≤ n ∧ n < 2147483648) (h_2 : -2147483648 ≤ k ∧ k < 2147483648) (h_3 : 0 ≤ a ∧ a < 6) (h_4 : -1200 ≤ n ∧ n ≤ 1200) (h_5 : 0 ≤ k ∧ k ≤ 48) : CT l yX1_lowest cX1_lowest 6 (some .int) 4 92 0 0 [.ref (u 0), .int (iI a), .int (iI n), .int (iI k)] S0 H (fun v H1 => (∃ z : Int, v = some (.int (iI z))) ∧ H1 = H) (fun _ _ => False) (fun _ => False) := by
  refine ct_of (by decide +kernel) (Nat.le_of_ble_eq_true rfl) ?_
  intro pg en s mi args below meth co ls fx hs hr hlk hxt hin hl
  subst hs
  obtain ⟨hx, hb, hml, hown, hts⟩ := id fx.1
  have hS : va_S (fun _ : Nat => False) s.heap s.heap [] := va_S.rf
  obtain ⟨hz, hu, ⟨ho, ha1, ha2, ha3, ha4, hsb⟩, hd, hsp⟩ := id hw
  have hAB : ∀ q : Nat, (fun _ : Nat => False) q → θ.2.2.2 ≤ q := fun _ h => h.elim
  have hz0 := hz
  have hK := sz_K fx.2 hz
  refine lv_iload_n hx hb dX1_lowest_0 rfl (lv_at hl 1 rfl) ?_
  refine c_N (As := [.int (iI a)]) (rest := []) fx hl (nok_needPlace l S0 _ a (by omega) (by omega)) dX1_lowest_1 k260 k261 k1 k262 hd_X1_needPlace rfl ⟨by decide, by decide⟩ (Nat.le_of_ble_eq_true rfl) ⟨by dsimp only; omega, by dsimp only; omega⟩ ?_
  refine lv_iload_n hx hb dX1_lowest_4 rfl (lv_at hl 2 rfl) ?_
  refine q_sip hx hb dX1_lowest_5 (by decide) ?_
  refine q_sip hx hb dX1_lowest_8 (by decide) ?_
  refine c_N (As := [.int (iI n), .int (iI (-1200)), .int (iI 1200)]) (rest := []) fx hl (nok_needWithin l S0 _ n (-1200) 1200 (by omega) (by omega) (by omega) (by omega)) dX1_lowest_11 k172 k173 k1 k174 hd_X1_needWithin rfl ⟨by decide, by decide⟩ (Nat.le_of_ble_eq_true rfl) ⟨by dsimp only; omega, by dsimp only; omega⟩ ?_
  refine lv_iload_n hx hb dX1_lowest_14 rfl (lv_at hl 3 rfl) ?_
  refine q_con hx hb dX1_lowest_15 ?_
  refine q_bip hx hb dX1_lowest_16 (by decide) ?_
  refine c_N (As := [.int (iI k), .int (iI 0), .int (iI 48)]) (rest := []) fx hl (nok_needWithin l S0 _ k 0 48 (by omega) (by omega) (by omega) (by omega)) dX1_lowest_18 k172 k173 k1 k174 hd_X1_needWithin rfl ⟨by decide, by decide⟩ (Nat.le_of_ble_eq_true rfl) ⟨by dsimp only; omega, by dsimp only; omega⟩ ?_
  refine lv_aload_n hx hb dX1_lowest_21 rfl (lv_at hl 0 rfl) ?_
  refine r_get (θ := θ) (C := RX1) (T := TX1) (N := 8) (ci := 7) hx hb hts gwX1 hown hK ho rfl 0 (by decide) k73 (fun _ h => h) (v := .ref (u 1)) rfl dX1_lowest_22 ?_
  refine lv_iload_n hx hb dX1_lowest_25 rfl (lv_at hl 1 rfl) ?_
  refine r_iald (θ := θ) hx hb hK ha1 (i := a) (by omega) (by decide) dX1_lowest_26 ?_
  have tr1 := hd (a.toNat) (by omega)
  refine lv_istore (lv' := [(4, .int (iI (dt a.toNat))), (0, .ref (u 0)), (1, .int (iI a)), (2, .int (iI n)), (3, .int (iI k))]) hx hb dX1_lowest_27 hl (by decide) rfl (fun ls hl => ?_)
  refine q_con hx hb dX1_lowest_29 ?_
  refine lv_istore (lv' := [(5, .int (iI 0)), (4, .int (iI (dt a.toNat))), (0, .ref (u 0)), (1, .int (iI a)), (2, .int (iI n)), (3, .int (iI k))]) hx hb dX1_lowest_30 hl (by decide) rfl (fun ls hl => ?_)
  refine w_loop (nL := 6) (σ := Int × Int) (fun x => (k - x.2).toNat) (fun x => (0 ≤ x.2 ∧ x.2 ≤ k) ∧ (-4371587 - 40000 * x.2 ≤ x.1 ∧ x.1 ≤ 2932896 + 40000 * x.2)) (fun x => [(4, .int (iI x.1)), (5, .int (iI x.2)), (0, .ref (u 0)), (1, .int (iI a)), (2, .int (iI n)), (3, .int (iI k))]) ?_ ((dt a.toNat : Int), (0 : Int)) ⟨by (try dsimp only); omega, by (try dsimp only); omega⟩ (lv_sub hl [1, 0, 2, 3, 4, 5] rfl)
  intro x hI32 ih32 ls hl
  obtain ⟨dd, j⟩ := x
  (try dsimp only at hI32 ih32 hl ⊢)
  refine lv_iload hx hb dX1_lowest_32 (lv_at hl 1 rfl) ?_
  refine lv_iload_n hx hb dX1_lowest_34 rfl (lv_at hl 5 rfl) ?_
  refine q_cge (tgt := 52) hx hb dX1_lowest_35 (by decide) (by omega) (by omega) (fun c2 => ?_) (fun c2 => ?_)
  · refine lv_iload hx hb dX1_lowest_52 (lv_at hl 0 rfl) ?_
    refine c_P (As := [.int (iI dd)]) (rest := []) fx hl (pm_X0_dayOf l dd (by omega)) dX1_lowest_54 k288 k129 k13 k130 hd_X0_dayOf rfl ⟨by decide, by decide⟩ (Nat.le_of_ble_eq_true rfl) ⟨by omega, by omega⟩ ?_
    have t0z3 := dI_b dd
    exact e_i hx hb hr hlk hS dX1_lowest_57 (Nat.le_refl _) (Nat.le_refl _) ⟨⟨_, rfl⟩, rfl⟩
  · refine lv_iload hx hb dX1_lowest_38 (lv_at hl 0 rfl) ?_
    refine lv_iload_n hx hb dX1_lowest_40 rfl (lv_at hl 4 rfl) ?_
    refine c_P (As := [.int (iI dd), .int (iI n)]) (rest := []) fx hl (pm_X0_shifted l dd n (by omega) (by omega)) dX1_lowest_41 k783 k141 k13 k142 hd_X0_shifted rfl ⟨by decide, by decide⟩ (Nat.le_of_ble_eq_true rfl) ⟨by omega, by omega⟩ ?_
    have t0z4 := shI_s dd n
    have t1z4 := shI_bd dd n
    refine lv_istore (lv' := [(4, .int (iI (shI dd n))), (5, .int (iI j)), (0, .ref (u 0)), (1, .int (iI a)), (2, .int (iI n)), (3, .int (iI k))]) hx hb dX1_lowest_44 hl (by decide) rfl (fun ls hl => ?_)
    refine lv_iinc (v := iI (j + 1)) (lv' := [(5, .int (iI (j + 1))), (4, .int (iI (shI dd n))), (0, .ref (u 0)), (1, .int (iI a)), (2, .int (iI n)), (3, .int (iI k))]) hx hb dX1_lowest_46 hl (k := 1) rfl (iI_add _ _) (by decide) rfl (fun ls hl => ?_)
    refine lv_goto (tgt := 32) hx hb dX1_lowest_49 (by decide) ?_
    exact ih32 (shI dd n, j + 1) _ ⟨by (try dsimp only); omega, by (try dsimp only); omega⟩ (by (try dsimp only); omega) (lv_sub hl [1, 0, 2, 3, 4, 5] rfl)

set_option maxHeartbeats 4000000 in
set_option maxRecDepth 100000 in
theorem no1_lowest (θ : TH) (l : Launch) (hl0 : l.stackTraces = false) (S0 : State) (H : Heap) (u : Nat → Nat) (dt sy sm sd : Nat → Int) (bc rf kn : Int) (hw : CWR θ S0 u H dt sy sm sd bc rf kn) (a n k : Int) (h_0 : -2147483648 ≤ a ∧ a < 2147483648) (h_1 : -2147483648 ≤ n ∧ n < 2147483648) (h_2 : -2147483648 ≤ k ∧ k < 2147483648) (h_3 : ¬ (0 ≤ a ∧ a < 6)) : TX l yX1_lowest cX1_lowest 6 (some .int) 7 110 [.ref (u 0), .int (iI a), .int (iI n), .int (iI k)] S0 H "java/lang/IndexOutOfBoundsException" := by
  refine ct_of (by decide +kernel) (Nat.le_of_ble_eq_true rfl) ?_
  intro pg en s mi args below meth co ls fx hs hr hlk hxt hin hl
  subst hs
  obtain ⟨hx, hb, hml, hown, hts⟩ := id fx.1
  have hS : va_S (fun q : Nat => s.heap.size ≤ q) s.heap s.heap [] := va_S.rf
  obtain ⟨hz, hu, ⟨ho, ha1, ha2, ha3, ha4, hsb⟩, hd, hsp⟩ := id hw
  have hAB : ∀ q : Nat, (fun q : Nat => s.heap.size ≤ q) q → θ.2.2.2 ≤ q := fun q h => Nat.le_trans hz.2.1 h
  have hz0 := hz
  have hK := sz_K fx.2 hz
  refine lv_iload_n hx hb dX1_lowest_0 rfl (lv_at hl 1 rfl) ?_
  exact e_cT (As := [.int (iI a)]) (rest := []) fx hl (nno_needPlace θ l hl0 S0 _ hz a (by omega) (by omega)) dX1_lowest_1 k260 k261 k1 k262 hd_X1_needPlace rfl ⟨by decide, by decide⟩ (Nat.le_of_ble_eq_true rfl) ⟨by decide, by decide⟩ ⟨by decide, by decide⟩ hS (fun _ h => h) hxt hlk (fun H1 h1 h2 => ⟨rfl, h1, h2⟩)

set_option maxHeartbeats 4000000 in
set_option maxRecDepth 100000 in
theorem no2_lowest (θ : TH) (l : Launch) (hl0 : l.stackTraces = false) (S0 : State) (H : Heap) (u : Nat → Nat) (dt sy sm sd : Nat → Int) (bc rf kn : Int) (hw : CWR θ S0 u H dt sy sm sd bc rf kn) (a n k : Int) (h_0 : -2147483648 ≤ a ∧ a < 2147483648) (h_1 : -2147483648 ≤ n ∧ n < 2147483648) (h_2 : -2147483648 ≤ k ∧ k < 2147483648) (h_3 : 0 ≤ a ∧ a < 6) (h_4 : ¬ (-1200 ≤ n ∧ n ≤ 1200)) : TX l yX1_lowest cX1_lowest 6 (some .int) 7 112 [.ref (u 0), .int (iI a), .int (iI n), .int (iI k)] S0 H "java/lang/IllegalArgumentException" := by
  refine ct_of (by decide +kernel) (Nat.le_of_ble_eq_true rfl) ?_
  intro pg en s mi args below meth co ls fx hs hr hlk hxt hin hl
  subst hs
  obtain ⟨hx, hb, hml, hown, hts⟩ := id fx.1
  have hS : va_S (fun q : Nat => s.heap.size ≤ q) s.heap s.heap [] := va_S.rf
  obtain ⟨hz, hu, ⟨ho, ha1, ha2, ha3, ha4, hsb⟩, hd, hsp⟩ := id hw
  have hAB : ∀ q : Nat, (fun q : Nat => s.heap.size ≤ q) q → θ.2.2.2 ≤ q := fun q h => Nat.le_trans hz.2.1 h
  have hz0 := hz
  have hK := sz_K fx.2 hz
  refine lv_iload_n hx hb dX1_lowest_0 rfl (lv_at hl 1 rfl) ?_
  refine c_N (As := [.int (iI a)]) (rest := []) fx hl (nok_needPlace l S0 _ a (by omega) (by omega)) dX1_lowest_1 k260 k261 k1 k262 hd_X1_needPlace rfl ⟨by decide, by decide⟩ (Nat.le_of_ble_eq_true rfl) ⟨by dsimp only; omega, by dsimp only; omega⟩ ?_
  refine lv_iload_n hx hb dX1_lowest_4 rfl (lv_at hl 2 rfl) ?_
  refine q_sip hx hb dX1_lowest_5 (by decide) ?_
  refine q_sip hx hb dX1_lowest_8 (by decide) ?_
  exact e_cT (As := [.int (iI n), .int (iI (-1200)), .int (iI 1200)]) (rest := []) fx hl (nno_needWithin θ l hl0 S0 _ hz n (-1200) 1200 (by omega) (by omega) (by omega) (by omega)) dX1_lowest_11 k172 k173 k1 k174 hd_X1_needWithin rfl ⟨by decide, by decide⟩ (Nat.le_of_ble_eq_true rfl) ⟨by decide, by decide⟩ ⟨by decide, by decide⟩ hS (fun _ h => h) hxt hlk (fun H1 h1 h2 => ⟨rfl, h1, h2⟩)

set_option maxHeartbeats 4000000 in
set_option maxRecDepth 100000 in
theorem no3_lowest (θ : TH) (l : Launch) (hl0 : l.stackTraces = false) (S0 : State) (H : Heap) (u : Nat → Nat) (dt sy sm sd : Nat → Int) (bc rf kn : Int) (hw : CWR θ S0 u H dt sy sm sd bc rf kn) (a n k : Int) (h_0 : -2147483648 ≤ a ∧ a < 2147483648) (h_1 : -2147483648 ≤ n ∧ n < 2147483648) (h_2 : -2147483648 ≤ k ∧ k < 2147483648) (h_3 : 0 ≤ a ∧ a < 6) (h_4 : -1200 ≤ n ∧ n ≤ 1200) (h_5 : ¬ (0 ≤ k ∧ k ≤ 48)) : TX l yX1_lowest cX1_lowest 6 (some .int) 7 112 [.ref (u 0), .int (iI a), .int (iI n), .int (iI k)] S0 H "java/lang/IllegalArgumentException" := by
  refine ct_of (by decide +kernel) (Nat.le_of_ble_eq_true rfl) ?_
  intro pg en s mi args below meth co ls fx hs hr hlk hxt hin hl
  subst hs
  obtain ⟨hx, hb, hml, hown, hts⟩ := id fx.1
  have hS : va_S (fun q : Nat => s.heap.size ≤ q) s.heap s.heap [] := va_S.rf
  obtain ⟨hz, hu, ⟨ho, ha1, ha2, ha3, ha4, hsb⟩, hd, hsp⟩ := id hw
  have hAB : ∀ q : Nat, (fun q : Nat => s.heap.size ≤ q) q → θ.2.2.2 ≤ q := fun q h => Nat.le_trans hz.2.1 h
  have hz0 := hz
  have hK := sz_K fx.2 hz
  refine lv_iload_n hx hb dX1_lowest_0 rfl (lv_at hl 1 rfl) ?_
  refine c_N (As := [.int (iI a)]) (rest := []) fx hl (nok_needPlace l S0 _ a (by omega) (by omega)) dX1_lowest_1 k260 k261 k1 k262 hd_X1_needPlace rfl ⟨by decide, by decide⟩ (Nat.le_of_ble_eq_true rfl) ⟨by dsimp only; omega, by dsimp only; omega⟩ ?_
  refine lv_iload_n hx hb dX1_lowest_4 rfl (lv_at hl 2 rfl) ?_
  refine q_sip hx hb dX1_lowest_5 (by decide) ?_
  refine q_sip hx hb dX1_lowest_8 (by decide) ?_
  refine c_N (As := [.int (iI n), .int (iI (-1200)), .int (iI 1200)]) (rest := []) fx hl (nok_needWithin l S0 _ n (-1200) 1200 (by omega) (by omega) (by omega) (by omega)) dX1_lowest_11 k172 k173 k1 k174 hd_X1_needWithin rfl ⟨by decide, by decide⟩ (Nat.le_of_ble_eq_true rfl) ⟨by dsimp only; omega, by dsimp only; omega⟩ ?_
  refine lv_iload_n hx hb dX1_lowest_14 rfl (lv_at hl 3 rfl) ?_
  refine q_con hx hb dX1_lowest_15 ?_
  refine q_bip hx hb dX1_lowest_16 (by decide) ?_
  exact e_cT (As := [.int (iI k), .int (iI 0), .int (iI 48)]) (rest := []) fx hl (nno_needWithin θ l hl0 S0 _ hz k 0 48 (by omega) (by omega) (by omega) (by omega)) dX1_lowest_18 k172 k173 k1 k174 hd_X1_needWithin rfl ⟨by decide, by decide⟩ (Nat.le_of_ble_eq_true rfl) ⟨by decide, by decide⟩ ⟨by decide, by decide⟩ hS (fun _ h => h) hxt hlk (fun H1 h1 h2 => ⟨rfl, h1, h2⟩)

set_option maxHeartbeats 4000000 in
set_option maxRecDepth 100000 in
theorem ok_keeps (θ : TH) (l : Launch) (hl0 : l.stackTraces = false) (S0 : State) (H : Heap) (u : Nat → Nat) (dt sy sm sd : Nat → Int) (bc rf kn : Int) (hw : CWR θ S0 u H dt sy sm sd bc rf kn) (a n : Int) (h_0 : -2147483648 ≤ a ∧ a < 2147483648) (h_1 : -2147483648 ≤ n ∧ n < 2147483648) (h_2 : 0 ≤ a ∧ a < 6) (h_3 : -1200 ≤ n ∧ n ≤ 1200) : CT l yX1_keeps cX1_keeps 5 (some .int) 5 113 0 0 [.ref (u 0), .int (iI a), .int (iI n)] S0 H (fun v H1 => (∃ z : Int, v = some (.int (iI z))) ∧ H1 = H) (fun _ _ => False) (fun _ => False) := by
  refine ct_of (by decide +kernel) (Nat.le_of_ble_eq_true rfl) ?_
  intro pg en s mi args below meth co ls fx hs hr hlk hxt hin hl
  subst hs
  obtain ⟨hx, hb, hml, hown, hts⟩ := id fx.1
  have hS : va_S (fun _ : Nat => False) s.heap s.heap [] := va_S.rf
  obtain ⟨hz, hu, ⟨ho, ha1, ha2, ha3, ha4, hsb⟩, hd, hsp⟩ := id hw
  have hAB : ∀ q : Nat, (fun _ : Nat => False) q → θ.2.2.2 ≤ q := fun _ h => h.elim
  have hz0 := hz
  have hK := sz_K fx.2 hz
  refine lv_iload_n hx hb dX1_keeps_0 rfl (lv_at hl 1 rfl) ?_
  refine c_N (As := [.int (iI a)]) (rest := []) fx hl (nok_needPlace l S0 _ a (by omega) (by omega)) dX1_keeps_1 k260 k261 k1 k262 hd_X1_needPlace rfl ⟨by decide, by decide⟩ (Nat.le_of_ble_eq_true rfl) ⟨by dsimp only; omega, by dsimp only; omega⟩ ?_
  refine lv_iload_n hx hb dX1_keeps_4 rfl (lv_at hl 2 rfl) ?_
  refine q_sip hx hb dX1_keeps_5 (by decide) ?_
  refine q_sip hx hb dX1_keeps_8 (by decide) ?_
  refine c_N (As := [.int (iI n), .int (iI (-1200)), .int (iI 1200)]) (rest := []) fx hl (nok_needWithin l S0 _ n (-1200) 1200 (by omega) (by omega) (by omega) (by omega)) dX1_keeps_11 k172 k173 k1 k174 hd_X1_needWithin rfl ⟨by decide, by decide⟩ (Nat.le_of_ble_eq_true rfl) ⟨by dsimp only; omega, by dsimp only; omega⟩ ?_
  refine lv_aload_n hx hb dX1_keeps_14 rfl (lv_at hl 0 rfl) ?_
  refine r_get (θ := θ) (C := RX1) (T := TX1) (N := 8) (ci := 7) hx hb hts gwX1 hown hK ho rfl 0 (by decide) k73 (fun _ h => h) (v := .ref (u 1)) rfl dX1_keeps_15 ?_
  refine lv_iload_n hx hb dX1_keeps_18 rfl (lv_at hl 1 rfl) ?_
  refine r_iald (θ := θ) hx hb hK ha1 (i := a) (by omega) (by decide) dX1_keeps_19 ?_
  have tr1 := hd (a.toNat) (by omega)
  refine lv_istore_n (lv' := [(3, .int (iI (dt a.toNat))), (0, .ref (u 0)), (1, .int (iI a)), (2, .int (iI n))]) hx hb dX1_keeps_20 rfl hl (by decide) rfl (fun ls hl => ?_)
  refine q_con hx hb dX1_keeps_21 ?_
  refine lv_istore (lv' := [(4, .int (iI 1)), (3, .int (iI (dt a.toNat))), (0, .ref (u 0)), (1, .int (iI a)), (2, .int (iI n))]) hx hb dX1_keeps_22 hl (by decide) rfl (fun ls hl => ?_)
  refine w_loop (nL := 5) (σ := Int × Int) (fun x => (49 - x.2).toNat) (fun x => (1 ≤ x.2 ∧ x.2 ≤ 49) ∧ (-4371587 - 40000 * x.2 ≤ x.1 ∧ x.1 ≤ 2932896 + 40000 * x.2)) (fun x => [(3, .int (iI x.1)), (4, .int (iI x.2)), (0, .ref (u 0)), (1, .int (iI a)), (2, .int (iI n))]) ?_ ((dt a.toNat : Int), (1 : Int)) ⟨by (try dsimp only); omega, by (try dsimp only); omega⟩ (lv_sub hl [1, 0, 2, 3, 4] rfl)
  intro x hI24 ih24 ls hl
  obtain ⟨dd, j⟩ := x
  (try dsimp only at hI24 ih24 hl ⊢)
  refine lv_iload hx hb dX1_keeps_24 (lv_at hl 1 rfl) ?_
  refine q_bip hx hb dX1_keeps_26 (by decide) ?_
  refine q_cgt (tgt := 54) hx hb dX1_keeps_28 (by decide) (by omega) (by omega) (fun c2 => ?_) (fun c2 => ?_)
  · refine q_con hx hb dX1_keeps_54 ?_
    exact e_i hx hb hr hlk hS dX1_keeps_55 (Nat.le_refl _) (Nat.le_refl _) ⟨⟨_, rfl⟩, rfl⟩
  · refine lv_iload_n hx hb dX1_keeps_31 rfl (lv_at hl 0 rfl) ?_
    refine lv_iload_n hx hb dX1_keeps_32 rfl (lv_at hl 4 rfl) ?_
    refine c_P (As := [.int (iI dd), .int (iI n)]) (rest := []) fx hl (pm_X0_lossOf l dd n (by omega) (by omega)) dX1_keeps_33 k645 k646 k13 k647 hd_X0_lossOf rfl ⟨by decide, by decide⟩ (Nat.le_of_ble_eq_true rfl) ⟨by omega, by omega⟩ ?_
    refine q_nm (fun z3 ez3 => ?_)
    have t0z3 := dI_b dd
    have t1z3 := dI_b (shI dd n)
    refine q_ile (tgt := 42) hx hb dX1_keeps_36 (by decide) (by omega) (fun c4 => ?_) (fun c4 => ?_)
    · refine lv_iload_n hx hb dX1_keeps_42 rfl (lv_at hl 0 rfl) ?_
      refine lv_iload_n hx hb dX1_keeps_43 rfl (lv_at hl 4 rfl) ?_
      refine c_P (As := [.int (iI dd), .int (iI n)]) (rest := []) fx hl (pm_X0_shifted l dd n (by omega) (by omega)) dX1_keeps_44 k783 k141 k13 k142 hd_X0_shifted rfl ⟨by decide, by decide⟩ (Nat.le_of_ble_eq_true rfl) ⟨by omega, by omega⟩ ?_
      have t0z5 := shI_s dd n
      have t1z5 := shI_bd dd n
      refine lv_istore_n (lv' := [(3, .int (iI (shI dd n))), (4, .int (iI j)), (0, .ref (u 0)), (1, .int (iI a)), (2, .int (iI n))]) hx hb dX1_keeps_47 rfl hl (by decide) rfl (fun ls hl => ?_)
      refine lv_iinc (v := iI (j + 1)) (lv' := [(4, .int (iI (j + 1))), (3, .int (iI (shI dd n))), (0, .ref (u 0)), (1, .int (iI a)), (2, .int (iI n))]) hx hb dX1_keeps_48 hl (k := 1) rfl (iI_add _ _) (by decide) rfl (fun ls hl => ?_)
      refine lv_goto (tgt := 24) hx hb dX1_keeps_51 (by decide) ?_
      exact ih24 (shI dd n, j + 1) _ ⟨by (try dsimp only); omega, by (try dsimp only); omega⟩ (by (try dsimp only); omega) (lv_sub hl [1, 0, 2, 3, 4] rfl)
    · refine lv_iload hx hb dX1_keeps_39 (lv_at hl 1 rfl) ?_
      exact e_i hx hb hr hlk hS dX1_keeps_41 (Nat.le_refl _) (Nat.le_refl _) ⟨⟨_, rfl⟩, rfl⟩

set_option maxHeartbeats 4000000 in
set_option maxRecDepth 100000 in
theorem no1_keeps (θ : TH) (l : Launch) (hl0 : l.stackTraces = false) (S0 : State) (H : Heap) (u : Nat → Nat) (dt sy sm sd : Nat → Int) (bc rf kn : Int) (hw : CWR θ S0 u H dt sy sm sd bc rf kn) (a n : Int) (h_0 : -2147483648 ≤ a ∧ a < 2147483648) (h_1 : -2147483648 ≤ n ∧ n < 2147483648) (h_2 : ¬ (0 ≤ a ∧ a < 6)) : TX l yX1_keeps cX1_keeps 5 (some .int) 7 110 [.ref (u 0), .int (iI a), .int (iI n)] S0 H "java/lang/IndexOutOfBoundsException" := by
  refine ct_of (by decide +kernel) (Nat.le_of_ble_eq_true rfl) ?_
  intro pg en s mi args below meth co ls fx hs hr hlk hxt hin hl
  subst hs
  obtain ⟨hx, hb, hml, hown, hts⟩ := id fx.1
  have hS : va_S (fun q : Nat => s.heap.size ≤ q) s.heap s.heap [] := va_S.rf
  obtain ⟨hz, hu, ⟨ho, ha1, ha2, ha3, ha4, hsb⟩, hd, hsp⟩ := id hw
  have hAB : ∀ q : Nat, (fun q : Nat => s.heap.size ≤ q) q → θ.2.2.2 ≤ q := fun q h => Nat.le_trans hz.2.1 h
  have hz0 := hz
  have hK := sz_K fx.2 hz
  refine lv_iload_n hx hb dX1_keeps_0 rfl (lv_at hl 1 rfl) ?_
  exact e_cT (As := [.int (iI a)]) (rest := []) fx hl (nno_needPlace θ l hl0 S0 _ hz a (by omega) (by omega)) dX1_keeps_1 k260 k261 k1 k262 hd_X1_needPlace rfl ⟨by decide, by decide⟩ (Nat.le_of_ble_eq_true rfl) ⟨by decide, by decide⟩ ⟨by decide, by decide⟩ hS (fun _ h => h) hxt hlk (fun H1 h1 h2 => ⟨rfl, h1, h2⟩)

set_option maxHeartbeats 4000000 in
set_option maxRecDepth 100000 in
theorem no2_keeps (θ : TH) (l : Launch) (hl0 : l.stackTraces = false) (S0 : State) (H : Heap) (u : Nat → Nat) (dt sy sm sd : Nat → Int) (bc rf kn : Int) (hw : CWR θ S0 u H dt sy sm sd bc rf kn) (a n : Int) (h_0 : -2147483648 ≤ a ∧ a < 2147483648) (h_1 : -2147483648 ≤ n ∧ n < 2147483648) (h_2 : 0 ≤ a ∧ a < 6) (h_3 : ¬ (-1200 ≤ n ∧ n ≤ 1200)) : TX l yX1_keeps cX1_keeps 5 (some .int) 7 112 [.ref (u 0), .int (iI a), .int (iI n)] S0 H "java/lang/IllegalArgumentException" := by
  refine ct_of (by decide +kernel) (Nat.le_of_ble_eq_true rfl) ?_
  intro pg en s mi args below meth co ls fx hs hr hlk hxt hin hl
  subst hs
  obtain ⟨hx, hb, hml, hown, hts⟩ := id fx.1
  have hS : va_S (fun q : Nat => s.heap.size ≤ q) s.heap s.heap [] := va_S.rf
  obtain ⟨hz, hu, ⟨ho, ha1, ha2, ha3, ha4, hsb⟩, hd, hsp⟩ := id hw
  have hAB : ∀ q : Nat, (fun q : Nat => s.heap.size ≤ q) q → θ.2.2.2 ≤ q := fun q h => Nat.le_trans hz.2.1 h
  have hz0 := hz
  have hK := sz_K fx.2 hz
  refine lv_iload_n hx hb dX1_keeps_0 rfl (lv_at hl 1 rfl) ?_
  refine c_N (As := [.int (iI a)]) (rest := []) fx hl (nok_needPlace l S0 _ a (by omega) (by omega)) dX1_keeps_1 k260 k261 k1 k262 hd_X1_needPlace rfl ⟨by decide, by decide⟩ (Nat.le_of_ble_eq_true rfl) ⟨by dsimp only; omega, by dsimp only; omega⟩ ?_
  refine lv_iload_n hx hb dX1_keeps_4 rfl (lv_at hl 2 rfl) ?_
  refine q_sip hx hb dX1_keeps_5 (by decide) ?_
  refine q_sip hx hb dX1_keeps_8 (by decide) ?_
  exact e_cT (As := [.int (iI n), .int (iI (-1200)), .int (iI 1200)]) (rest := []) fx hl (nno_needWithin θ l hl0 S0 _ hz n (-1200) 1200 (by omega) (by omega) (by omega) (by omega)) dX1_keeps_11 k172 k173 k1 k174 hd_X1_needWithin rfl ⟨by decide, by decide⟩ (Nat.le_of_ble_eq_true rfl) ⟨by decide, by decide⟩ ⟨by decide, by decide⟩ hS (fun _ h => h) hxt hlk (fun H1 h1 h2 => ⟨rfl, h1, h2⟩)

set_option maxHeartbeats 4000000 in
set_option maxRecDepth 100000 in
theorem ok_ofMonthNumber (θ : TH) (l : Launch) (hl0 : l.stackTraces = false) (S0 : State) (H : Heap) (u : Nat → Nat) (dt sy sm sd : Nat → Int) (bc rf kn : Int) (hw : CWR θ S0 u H dt sy sm sd bc rf kn) (m k : Int) (h_0 : -2147483648 ≤ m ∧ m < 2147483648) (h_1 : -2147483648 ≤ k ∧ k < 2147483648) (h_2 : -119988 ≤ m ∧ m ≤ 119999) (h_3 : 0 ≤ k ∧ k ≤ 3) : CT l yX1_ofMonthNumber cX1_ofMonthNumber 3 (some .int) 3 67 0 0 [.ref (u 0), .int (iI m), .int (iI k)] S0 H (fun v H1 => v = some (.int (iI (if k = 0 then m / 12 else if k = 1 then m % 12 + 1 else if k = 2 then fI (m + 1) - fI m else fI m))) ∧ H1 = H) (fun _ _ => False) (fun _ => False) := by
  refine ct_of (by decide +kernel) (Nat.le_of_ble_eq_true rfl) ?_
  intro pg en s mi args below meth co ls fx hs hr hlk hxt hin hl
  subst hs
  obtain ⟨hx, hb, hml, hown, hts⟩ := id fx.1
  have hS : va_S (fun _ : Nat => False) s.heap s.heap [] := va_S.rf
  obtain ⟨hz, hu, ⟨ho, ha1, ha2, ha3, ha4, hsb⟩, hd, hsp⟩ := id hw
  have hAB : ∀ q : Nat, (fun _ : Nat => False) q → θ.2.2.2 ≤ q := fun _ h => h.elim
  have hz0 := hz
  have hK := sz_K fx.2 hz
  refine lv_iload_n hx hb dX1_ofMonthNumber_0 rfl (lv_at hl 1 rfl) ?_
  refine c_N (As := [.int (iI m)]) (rest := []) fx hl (nok_needMonth l S0 _ m (by omega) (by omega)) dX1_ofMonthNumber_1 k743 k744 k1 k745 hd_X1_needMonth rfl ⟨by decide, by decide⟩ (Nat.le_of_ble_eq_true rfl) ⟨by dsimp only; omega, by dsimp only; omega⟩ ?_
  refine lv_iload_n hx hb dX1_ofMonthNumber_4 rfl (lv_at hl 2 rfl) ?_
  refine q_con hx hb dX1_ofMonthNumber_5 ?_
  refine q_con hx hb dX1_ofMonthNumber_6 ?_
  refine c_N (As := [.int (iI k), .int (iI 0), .int (iI 3)]) (rest := []) fx hl (nok_needWithin l S0 _ k 0 3 (by omega) (by omega) (by omega) (by omega)) dX1_ofMonthNumber_7 k172 k173 k1 k174 hd_X1_needWithin rfl ⟨by decide, by decide⟩ (Nat.le_of_ble_eq_true rfl) ⟨by dsimp only; omega, by dsimp only; omega⟩ ?_
  refine lv_iload_n hx hb dX1_ofMonthNumber_10 rfl (lv_at hl 2 rfl) ?_
  rcases (show k = 0 ∨ k = 1 ∨ k = 2 ∨ (k < 0 ∨ 2 < k) by omega) with c1 | c1 | c1 | c1
  · refine q_tabI (tgt := 36) hx hb 0 dX1_ofMonthNumber_11 (by omega) (by omega) (by omega) rfl (by decide) ?_
    refine lv_iload_n hx hb dX1_ofMonthNumber_36 rfl (lv_at hl 1 rfl) ?_
    refine c_P (As := [.int (iI m)]) (rest := []) fx hl (pm_X0_yearOfMonth l m (by omega)) dX1_ofMonthNumber_37 k323 k304 k13 k305 hd_X0_yearOfMonth rfl ⟨by decide, by decide⟩ (Nat.le_of_ble_eq_true rfl) ⟨by omega, by omega⟩ ?_
    refine q_nm (fun z2 ez2 => ?_)
    exact e_i hx hb hr hlk hS dX1_ofMonthNumber_40 (Nat.le_refl _) (Nat.le_refl _) ⟨ex_i (by subst_vars; (split <;> (try split) <;> (try split) <;> omega)), rfl⟩
  · refine q_tabI (tgt := 41) hx hb 1 dX1_ofMonthNumber_11 (by omega) (by omega) (by omega) rfl (by decide) ?_
    refine lv_iload_n hx hb dX1_ofMonthNumber_41 rfl (lv_at hl 1 rfl) ?_
    refine c_P (As := [.int (iI m)]) (rest := []) fx hl (pm_X0_monthInYear l m (by omega)) dX1_ofMonthNumber_42 k627 k628 k13 k629 hd_X0_monthInYear rfl ⟨by decide, by decide⟩ (Nat.le_of_ble_eq_true rfl) ⟨by omega, by omega⟩ ?_
    refine q_nm (fun z3 ez3 => ?_)
    exact e_i hx hb hr hlk hS dX1_ofMonthNumber_45 (Nat.le_refl _) (Nat.le_refl _) ⟨ex_i (by subst_vars; (split <;> (try split) <;> (try split) <;> omega)), rfl⟩
  · refine q_tabI (tgt := 46) hx hb 2 dX1_ofMonthNumber_11 (by omega) (by omega) (by omega) rfl (by decide) ?_
    refine lv_iload_n hx hb dX1_ofMonthNumber_46 rfl (lv_at hl 1 rfl) ?_
    refine c_P (As := [.int (iI m)]) (rest := []) fx hl (pm_X0_lengthOf l m (by omega)) dX1_ofMonthNumber_47 k311 k148 k13 k149 hd_X0_lengthOf rfl ⟨by decide, by decide⟩ (Nat.le_of_ble_eq_true rfl) ⟨by omega, by omega⟩ ?_
    refine q_nm (fun z4 ez4 => ?_)
    have t0z4 := len_b m
    exact e_i hx hb hr hlk hS dX1_ofMonthNumber_50 (Nat.le_refl _) (Nat.le_refl _) ⟨ex_i (by subst_vars; (split <;> (try split) <;> (try split) <;> omega)), rfl⟩
  · refine q_tabO (tgt := 51) hx hb dX1_ofMonthNumber_11 (by omega) (by omega) (by decide) ?_
    refine lv_iload_n hx hb dX1_ofMonthNumber_51 rfl (lv_at hl 1 rfl) ?_
    refine c_P (As := [.int (iI m)]) (rest := []) fx hl (pm_X0_firstOf l m (by omega)) dX1_ofMonthNumber_52 k306 k119 k13 k120 hd_X0_firstOf rfl ⟨by decide, by decide⟩ (Nat.le_of_ble_eq_true rfl) ⟨by omega, by omega⟩ ?_
    have t0z5 := fI_bd m
    exact e_i hx hb hr hlk hS dX1_ofMonthNumber_55 (Nat.le_refl _) (Nat.le_refl _) ⟨ex_i (by subst_vars; (split <;> (try split) <;> (try split) <;> omega)), rfl⟩

set_option maxHeartbeats 4000000 in
set_option maxRecDepth 100000 in
theorem no1_ofMonthNumber (θ : TH) (l : Launch) (hl0 : l.stackTraces = false) (S0 : State) (H : Heap) (u : Nat → Nat) (dt sy sm sd : Nat → Int) (bc rf kn : Int) (hw : CWR θ S0 u H dt sy sm sd bc rf kn) (m k : Int) (h_0 : -2147483648 ≤ m ∧ m < 2147483648) (h_1 : -2147483648 ≤ k ∧ k < 2147483648) (h_2 : ¬ (-119988 ≤ m ∧ m ≤ 119999)) : TX l yX1_ofMonthNumber cX1_ofMonthNumber 3 (some .int) 8 132 [.ref (u 0), .int (iI m), .int (iI k)] S0 H "java/lang/IllegalArgumentException" := by
  refine ct_of (by decide +kernel) (Nat.le_of_ble_eq_true rfl) ?_
  intro pg en s mi args below meth co ls fx hs hr hlk hxt hin hl
  subst hs
  obtain ⟨hx, hb, hml, hown, hts⟩ := id fx.1
  have hS : va_S (fun q : Nat => s.heap.size ≤ q) s.heap s.heap [] := va_S.rf
  obtain ⟨hz, hu, ⟨ho, ha1, ha2, ha3, ha4, hsb⟩, hd, hsp⟩ := id hw
  have hAB : ∀ q : Nat, (fun q : Nat => s.heap.size ≤ q) q → θ.2.2.2 ≤ q := fun q h => Nat.le_trans hz.2.1 h
  have hz0 := hz
  have hK := sz_K fx.2 hz
  refine lv_iload_n hx hb dX1_ofMonthNumber_0 rfl (lv_at hl 1 rfl) ?_
  exact e_cT (As := [.int (iI m)]) (rest := []) fx hl (nno_needMonth θ l hl0 S0 _ hz m (by omega) (by omega)) dX1_ofMonthNumber_1 k743 k744 k1 k745 hd_X1_needMonth rfl ⟨by decide, by decide⟩ (Nat.le_of_ble_eq_true rfl) ⟨by decide, by decide⟩ ⟨by decide, by decide⟩ hS (fun _ h => h) hxt hlk (fun H1 h1 h2 => ⟨rfl, h1, h2⟩)

set_option maxHeartbeats 4000000 in
set_option maxRecDepth 100000 in
theorem no2_ofMonthNumber (θ : TH) (l : Launch) (hl0 : l.stackTraces = false) (S0 : State) (H : Heap) (u : Nat → Nat) (dt sy sm sd : Nat → Int) (bc rf kn : Int) (hw : CWR θ S0 u H dt sy sm sd bc rf kn) (m k : Int) (h_0 : -2147483648 ≤ m ∧ m < 2147483648) (h_1 : -2147483648 ≤ k ∧ k < 2147483648) (h_2 : -119988 ≤ m ∧ m ≤ 119999) (h_3 : ¬ (0 ≤ k ∧ k ≤ 3)) : TX l yX1_ofMonthNumber cX1_ofMonthNumber 3 (some .int) 7 112 [.ref (u 0), .int (iI m), .int (iI k)] S0 H "java/lang/IllegalArgumentException" := by
  refine ct_of (by decide +kernel) (Nat.le_of_ble_eq_true rfl) ?_
  intro pg en s mi args below meth co ls fx hs hr hlk hxt hin hl
  subst hs
  obtain ⟨hx, hb, hml, hown, hts⟩ := id fx.1
  have hS : va_S (fun q : Nat => s.heap.size ≤ q) s.heap s.heap [] := va_S.rf
  obtain ⟨hz, hu, ⟨ho, ha1, ha2, ha3, ha4, hsb⟩, hd, hsp⟩ := id hw
  have hAB : ∀ q : Nat, (fun q : Nat => s.heap.size ≤ q) q → θ.2.2.2 ≤ q := fun q h => Nat.le_trans hz.2.1 h
  have hz0 := hz
  have hK := sz_K fx.2 hz
  refine lv_iload_n hx hb dX1_ofMonthNumber_0 rfl (lv_at hl 1 rfl) ?_
  refine c_N (As := [.int (iI m)]) (rest := []) fx hl (nok_needMonth l S0 _ m (by omega) (by omega)) dX1_ofMonthNumber_1 k743 k744 k1 k745 hd_X1_needMonth rfl ⟨by decide, by decide⟩ (Nat.le_of_ble_eq_true rfl) ⟨by dsimp only; omega, by dsimp only; omega⟩ ?_
  refine lv_iload_n hx hb dX1_ofMonthNumber_4 rfl (lv_at hl 2 rfl) ?_
  refine q_con hx hb dX1_ofMonthNumber_5 ?_
  refine q_con hx hb dX1_ofMonthNumber_6 ?_
  exact e_cT (As := [.int (iI k), .int (iI 0), .int (iI 3)]) (rest := []) fx hl (nno_needWithin θ l hl0 S0 _ hz k 0 3 (by omega) (by omega) (by omega) (by omega)) dX1_ofMonthNumber_7 k172 k173 k1 k174 hd_X1_needWithin rfl ⟨by decide, by decide⟩ (Nat.le_of_ble_eq_true rfl) ⟨by decide, by decide⟩ ⟨by decide, by decide⟩ hS (fun _ h => h) hxt hlk (fun H1 h1 h2 => ⟨rfl, h1, h2⟩)

set_option maxHeartbeats 4000000 in
set_option maxRecDepth 100000 in
theorem ok_lengths (θ : TH) (l : Launch) (hl0 : l.stackTraces = false) (S0 : State) (H : Heap) (u : Nat → Nat) (dt sy sm sd : Nat → Int) (bc rf kn : Int) (hw : CWR θ S0 u H dt sy sm sd bc rf kn) (m k : Int) (h_0 : -2147483648 ≤ m ∧ m < 2147483648) (h_1 : -2147483648 ≤ k ∧ k < 2147483648) (h_2 : -119988 ≤ m ∧ m ≤ 119999) (h_3 : 0 ≤ k ∧ k ≤ 48) : CT l yX1_lengths cX1_lengths 3 (some .int) 2 47 0 0 [.ref (u 0), .int (iI m), .int (iI k)] S0 H (fun v H1 => v = some (.int (iI (fI (m + k) - fI m))) ∧ H1 = H) (fun _ _ => False) (fun _ => False) := by
  refine ct_of (by decide +kernel) (Nat.le_of_ble_eq_true rfl) ?_
  intro pg en s mi args below meth co ls fx hs hr hlk hxt hin hl
  subst hs
  obtain ⟨hx, hb, hml, hown, hts⟩ := id fx.1
  have hS : va_S (fun _ : Nat => False) s.heap s.heap [] := va_S.rf
  obtain ⟨hz, hu, ⟨ho, ha1, ha2, ha3, ha4, hsb⟩, hd, hsp⟩ := id hw
  have hAB : ∀ q : Nat, (fun _ : Nat => False) q → θ.2.2.2 ≤ q := fun _ h => h.elim
  have hz0 := hz
  have hK := sz_K fx.2 hz
  refine lv_iload_n hx hb dX1_lengths_0 rfl (lv_at hl 1 rfl) ?_
  refine c_N (As := [.int (iI m)]) (rest := []) fx hl (nok_needMonth l S0 _ m (by omega) (by omega)) dX1_lengths_1 k743 k744 k1 k745 hd_X1_needMonth rfl ⟨by decide, by decide⟩ (Nat.le_of_ble_eq_true rfl) ⟨by dsimp only; omega, by dsimp only; omega⟩ ?_
  refine lv_iload_n hx hb dX1_lengths_4 rfl (lv_at hl 2 rfl) ?_
  refine q_con hx hb dX1_lengths_5 ?_
  refine q_bip hx hb dX1_lengths_6 (by decide) ?_
  refine c_N (As := [.int (iI k), .int (iI 0), .int (iI 48)]) (rest := []) fx hl (nok_needWithin l S0 _ k 0 48 (by omega) (by omega) (by omega) (by omega)) dX1_lengths_8 k172 k173 k1 k174 hd_X1_needWithin rfl ⟨by decide, by decide⟩ (Nat.le_of_ble_eq_true rfl) ⟨by dsimp only; omega, by dsimp only; omega⟩ ?_
  refine lv_iload_n hx hb dX1_lengths_11 rfl (lv_at hl 1 rfl) ?_
  refine lv_iload_n hx hb dX1_lengths_12 rfl (lv_at hl 2 rfl) ?_
  refine q_add hx hb dX1_lengths_13 ?_
  refine c_P (As := [.int (iI (m + k))]) (rest := []) fx hl (pm_X0_firstOf l (m + k) (by omega)) dX1_lengths_14 k306 k119 k13 k120 hd_X0_firstOf rfl ⟨by decide, by decide⟩ (Nat.le_of_ble_eq_true rfl) ⟨by omega, by omega⟩ ?_
  have t0z1 := fI_bd (m + k)
  refine lv_iload_n hx hb dX1_lengths_17 rfl (lv_at hl 1 rfl) ?_
  refine c_P (As := [.int (iI m)]) (rest := [.int (iI (fI (m + k)))]) fx hl (pm_X0_firstOf l m (by omega)) dX1_lengths_18 k306 k119 k13 k120 hd_X0_firstOf rfl ⟨by decide, by decide⟩ (Nat.le_of_ble_eq_true rfl) ⟨by omega, by omega⟩ ?_
  have t0z2 := fI_bd m
  refine q_sub hx hb dX1_lengths_21 ?_
  exact e_i hx hb hr hlk hS dX1_lengths_22 (Nat.le_refl _) (Nat.le_refl _) ⟨ex_i (by subst_vars; omega), rfl⟩

set_option maxHeartbeats 4000000 in
set_option maxRecDepth 100000 in
theorem no1_lengths (θ : TH) (l : Launch) (hl0 : l.stackTraces = false) (S0 : State) (H : Heap) (u : Nat → Nat) (dt sy sm sd : Nat → Int) (bc rf kn : Int) (hw : CWR θ S0 u H dt sy sm sd bc rf kn) (m k : Int) (h_0 : -2147483648 ≤ m ∧ m < 2147483648) (h_1 : -2147483648 ≤ k ∧ k < 2147483648) (h_2 : ¬ (-119988 ≤ m ∧ m ≤ 119999)) : TX l yX1_lengths cX1_lengths 3 (some .int) 8 132 [.ref (u 0), .int (iI m), .int (iI k)] S0 H "java/lang/IllegalArgumentException" := by
  refine ct_of (by decide +kernel) (Nat.le_of_ble_eq_true rfl) ?_
  intro pg en s mi args below meth co ls fx hs hr hlk hxt hin hl
  subst hs
  obtain ⟨hx, hb, hml, hown, hts⟩ := id fx.1
  have hS : va_S (fun q : Nat => s.heap.size ≤ q) s.heap s.heap [] := va_S.rf
  obtain ⟨hz, hu, ⟨ho, ha1, ha2, ha3, ha4, hsb⟩, hd, hsp⟩ := id hw
  have hAB : ∀ q : Nat, (fun q : Nat => s.heap.size ≤ q) q → θ.2.2.2 ≤ q := fun q h => Nat.le_trans hz.2.1 h
  have hz0 := hz
  have hK := sz_K fx.2 hz
  refine lv_iload_n hx hb dX1_lengths_0 rfl (lv_at hl 1 rfl) ?_
  exact e_cT (As := [.int (iI m)]) (rest := []) fx hl (nno_needMonth θ l hl0 S0 _ hz m (by omega) (by omega)) dX1_lengths_1 k743 k744 k1 k745 hd_X1_needMonth rfl ⟨by decide, by decide⟩ (Nat.le_of_ble_eq_true rfl) ⟨by decide, by decide⟩ ⟨by decide, by decide⟩ hS (fun _ h => h) hxt hlk (fun H1 h1 h2 => ⟨rfl, h1, h2⟩)

set_option maxHeartbeats 4000000 in
set_option maxRecDepth 100000 in
theorem no2_lengths (θ : TH) (l : Launch) (hl0 : l.stackTraces = false) (S0 : State) (H : Heap) (u : Nat → Nat) (dt sy sm sd : Nat → Int) (bc rf kn : Int) (hw : CWR θ S0 u H dt sy sm sd bc rf kn) (m k : Int) (h_0 : -2147483648 ≤ m ∧ m < 2147483648) (h_1 : -2147483648 ≤ k ∧ k < 2147483648) (h_2 : -119988 ≤ m ∧ m ≤ 119999) (h_3 : ¬ (0 ≤ k ∧ k ≤ 48)) : TX l yX1_lengths cX1_lengths 3 (some .int) 7 112 [.ref (u 0), .int (iI m), .int (iI k)] S0 H "java/lang/IllegalArgumentException" := by
  refine ct_of (by decide +kernel) (Nat.le_of_ble_eq_true rfl) ?_
  intro pg en s mi args below meth co ls fx hs hr hlk hxt hin hl
  subst hs
  obtain ⟨hx, hb, hml, hown, hts⟩ := id fx.1
  have hS : va_S (fun q : Nat => s.heap.size ≤ q) s.heap s.heap [] := va_S.rf
  obtain ⟨hz, hu, ⟨ho, ha1, ha2, ha3, ha4, hsb⟩, hd, hsp⟩ := id hw
  have hAB : ∀ q : Nat, (fun q : Nat => s.heap.size ≤ q) q → θ.2.2.2 ≤ q := fun q h => Nat.le_trans hz.2.1 h
  have hz0 := hz
  have hK := sz_K fx.2 hz
  refine lv_iload_n hx hb dX1_lengths_0 rfl (lv_at hl 1 rfl) ?_
  refine c_N (As := [.int (iI m)]) (rest := []) fx hl (nok_needMonth l S0 _ m (by omega) (by omega)) dX1_lengths_1 k743 k744 k1 k745 hd_X1_needMonth rfl ⟨by decide, by decide⟩ (Nat.le_of_ble_eq_true rfl) ⟨by dsimp only; omega, by dsimp only; omega⟩ ?_
  refine lv_iload_n hx hb dX1_lengths_4 rfl (lv_at hl 2 rfl) ?_
  refine q_con hx hb dX1_lengths_5 ?_
  refine q_bip hx hb dX1_lengths_6 (by decide) ?_
  exact e_cT (As := [.int (iI k), .int (iI 0), .int (iI 48)]) (rest := []) fx hl (nno_needWithin θ l hl0 S0 _ hz k 0 48 (by omega) (by omega) (by omega) (by omega)) dX1_lengths_8 k172 k173 k1 k174 hd_X1_needWithin rfl ⟨by decide, by decide⟩ (Nat.le_of_ble_eq_true rfl) ⟨by decide, by decide⟩ ⟨by decide, by decide⟩ hS (fun _ h => h) hxt hlk (fun H1 h1 h2 => ⟨rfl, h1, h2⟩)

set_option maxHeartbeats 4000000 in
set_option maxRecDepth 100000 in
theorem ok_nth (θ : TH) (l : Launch) (hl0 : l.stackTraces = false) (S0 : State) (H : Heap) (u : Nat → Nat) (dt sy sm sd : Nat → Int) (bc rf kn : Int) (hw : CWR θ S0 u H dt sy sm sd bc rf kn) (m w k : Int) (h_0 : -2147483648 ≤ m ∧ m < 2147483648) (h_1 : -2147483648 ≤ w ∧ w < 2147483648) (h_2 : -2147483648 ≤ k ∧ k < 2147483648) (h_3 : -119988 ≤ m ∧ m ≤ 119999) (h_4 : 1 ≤ w ∧ w ≤ 7) (h_5 : 1 ≤ k ∧ k ≤ 5) : CT l yX1_nth cX1_nth 6 (some .int) 3 67 0 0 [.ref (u 0), .int (iI m), .int (iI w), .int (iI k)] S0 H (fun v H1 => (∃ z : Int, v = some (.int (iI z))) ∧ H1 = H) (fun _ _ => False) (fun _ => False) := by
  refine ct_of (by decide +kernel) (Nat.le_of_ble_eq_true rfl) ?_
  intro pg en s mi args below meth co ls fx hs hr hlk hxt hin hl
  subst hs
  obtain ⟨hx, hb, hml, hown, hts⟩ := id fx.1
  have hS : va_S (fun _ : Nat => False) s.heap s.heap [] := va_S.rf
  obtain ⟨hz, hu, ⟨ho, ha1, ha2, ha3, ha4, hsb⟩, hd, hsp⟩ := id hw
  have hAB : ∀ q : Nat, (fun _ : Nat => False) q → θ.2.2.2 ≤ q := fun _ h => h.elim
  have hz0 := hz
  have hK := sz_K fx.2 hz
  have tt1 := fI_bd m
  refine lv_iload_n hx hb dX1_nth_0 rfl (lv_at hl 1 rfl) ?_
  refine c_N (As := [.int (iI m)]) (rest := []) fx hl (nok_needMonth l S0 _ m (by omega) (by omega)) dX1_nth_1 k743 k744 k1 k745 hd_X1_needMonth rfl ⟨by decide, by decide⟩ (Nat.le_of_ble_eq_true rfl) ⟨by dsimp only; omega, by dsimp only; omega⟩ ?_
  refine lv_iload_n hx hb dX1_nth_4 rfl (lv_at hl 2 rfl) ?_
  refine q_con hx hb dX1_nth_5 ?_
  refine q_bip hx hb dX1_nth_6 (by decide) ?_
  refine c_N (As := [.int (iI w), .int (iI 1), .int (iI 7)]) (rest := []) fx hl (nok_needWithin l S0 _ w 1 7 (by omega) (by omega) (by omega) (by omega)) dX1_nth_8 k172 k173 k1 k174 hd_X1_needWithin rfl ⟨by decide, by decide⟩ (Nat.le_of_ble_eq_true rfl) ⟨by dsimp only; omega, by dsimp only; omega⟩ ?_
  refine lv_iload_n hx hb dX1_nth_11 rfl (lv_at hl 3 rfl) ?_
  refine q_con hx hb dX1_nth_12 ?_
  refine q_con hx hb dX1_nth_13 ?_
  refine c_N (As := [.int (iI k), .int (iI 1), .int (iI 5)]) (rest := []) fx hl (nok_needWithin l S0 _ k 1 5 (by omega) (by omega) (by omega) (by omega)) dX1_nth_14 k172 k173 k1 k174 hd_X1_needWithin rfl ⟨by decide, by decide⟩ (Nat.le_of_ble_eq_true rfl) ⟨by dsimp only; omega, by dsimp only; omega⟩ ?_
  refine lv_iload_n hx hb dX1_nth_17 rfl (lv_at hl 2 rfl) ?_
  refine lv_iload_n hx hb dX1_nth_18 rfl (lv_at hl 1 rfl) ?_
  refine c_P (As := [.int (iI m)]) (rest := [.int (iI w)]) fx hl (pm_X0_firstOf l m (by omega)) dX1_nth_19 k306 k119 k13 k120 hd_X0_firstOf rfl ⟨by decide, by decide⟩ (Nat.le_of_ble_eq_true rfl) ⟨by omega, by omega⟩ ?_
  have t0z1 := fI_bd m
  refine c_P (As := [.int (iI (fI m))]) (rest := [.int (iI w)]) fx hl (pm_X0_weekdayOf l (fI m) (by omega)) dX1_nth_22 k293 k294 k13 k295 hd_X0_weekdayOf rfl ⟨by decide, by decide⟩ (Nat.le_of_ble_eq_true rfl) ⟨by omega, by omega⟩ ?_
  have t0z2 := wI_b (fI m)
  refine q_sub hx hb dX1_nth_25 ?_
  refine q_bip hx hb dX1_nth_26 (by decide) ?_
  refine c_P (As := [.int (iI (w - (wI (fI m)))), .int (iI 7)]) (rest := []) fx hl (pm_floorMod l (w - (wI (fI m))) 7 (by omega) (by omega)) dX1_nth_28 k949 k125 k14 k126 hd_J9_floorMod_7cf53 rfl ⟨by decide, by decide⟩ (Nat.le_of_ble_eq_true rfl) ⟨by omega, by omega⟩ ?_
  refine q_nm (fun z3 ez3 => ?_)
  refine lv_istore (lv' := [(4, .int (iI z3)), (0, .ref (u 0)), (1, .int (iI m)), (2, .int (iI w)), (3, .int (iI k))]) hx hb dX1_nth_31 hl (by decide) rfl (fun ls hl => ?_)
  refine q_con hx hb dX1_nth_33 ?_
  refine lv_iload hx hb dX1_nth_34 (lv_at hl 0 rfl) ?_
  refine q_add hx hb dX1_nth_36 ?_
  refine q_bip hx hb dX1_nth_37 (by decide) ?_
  refine lv_iload_n hx hb dX1_nth_39 rfl (lv_at hl 4 rfl) ?_
  refine q_con hx hb dX1_nth_40 ?_
  refine q_sub hx hb dX1_nth_41 ?_
  refine q_mul hx hb dX1_nth_42 ?_
  refine q_add hx hb dX1_nth_43 ?_
  refine q_nm (fun z4 ez4 => ?_)
  refine lv_istore (lv' := [(5, .int (iI z4)), (4, .int (iI z3)), (0, .ref (u 0)), (1, .int (iI m)), (2, .int (iI w)), (3, .int (iI k))]) hx hb dX1_nth_44 hl (by decide) rfl (fun ls hl => ?_)
  refine lv_iload hx hb dX1_nth_46 (lv_at hl 0 rfl) ?_
  refine lv_iload_n hx hb dX1_nth_48 rfl (lv_at hl 3 rfl) ?_
  refine c_P (As := [.int (iI m)]) (rest := [.int (iI z4)]) fx hl (pm_X0_lengthOf l m (by omega)) dX1_nth_49 k311 k148 k13 k149 hd_X0_lengthOf rfl ⟨by decide, by decide⟩ (Nat.le_of_ble_eq_true rfl) ⟨by omega, by omega⟩ ?_
  refine q_nm (fun z5 ez5 => ?_)
  have t0z5 := len_b m
  refine q_cgt (tgt := 60) hx hb dX1_nth_52 (by decide) (by omega) (by omega) (fun c6 => ?_) (fun c6 => ?_)
  · refine q_con hx hb dX1_nth_60 ?_
    exact e_i hx hb hr hlk hS dX1_nth_61 (Nat.le_refl _) (Nat.le_refl _) ⟨⟨_, rfl⟩, rfl⟩
  · refine lv_iload hx hb dX1_nth_55 (lv_at hl 0 rfl) ?_
    refine lv_goto (tgt := 61) hx hb dX1_nth_57 (by decide) ?_
    exact e_i hx hb hr hlk hS dX1_nth_61 (Nat.le_refl _) (Nat.le_refl _) ⟨⟨_, rfl⟩, rfl⟩

set_option maxHeartbeats 4000000 in
set_option maxRecDepth 100000 in
theorem no1_nth (θ : TH) (l : Launch) (hl0 : l.stackTraces = false) (S0 : State) (H : Heap) (u : Nat → Nat) (dt sy sm sd : Nat → Int) (bc rf kn : Int) (hw : CWR θ S0 u H dt sy sm sd bc rf kn) (m w k : Int) (h_0 : -2147483648 ≤ m ∧ m < 2147483648) (h_1 : -2147483648 ≤ w ∧ w < 2147483648) (h_2 : -2147483648 ≤ k ∧ k < 2147483648) (h_3 : ¬ (-119988 ≤ m ∧ m ≤ 119999)) : TX l yX1_nth cX1_nth 6 (some .int) 8 132 [.ref (u 0), .int (iI m), .int (iI w), .int (iI k)] S0 H "java/lang/IllegalArgumentException" := by
  refine ct_of (by decide +kernel) (Nat.le_of_ble_eq_true rfl) ?_
  intro pg en s mi args below meth co ls fx hs hr hlk hxt hin hl
  subst hs
  obtain ⟨hx, hb, hml, hown, hts⟩ := id fx.1
  have hS : va_S (fun q : Nat => s.heap.size ≤ q) s.heap s.heap [] := va_S.rf
  obtain ⟨hz, hu, ⟨ho, ha1, ha2, ha3, ha4, hsb⟩, hd, hsp⟩ := id hw
  have hAB : ∀ q : Nat, (fun q : Nat => s.heap.size ≤ q) q → θ.2.2.2 ≤ q := fun q h => Nat.le_trans hz.2.1 h
  have hz0 := hz
  have hK := sz_K fx.2 hz
  have tt1 := fI_bd m
  refine lv_iload_n hx hb dX1_nth_0 rfl (lv_at hl 1 rfl) ?_
  exact e_cT (As := [.int (iI m)]) (rest := []) fx hl (nno_needMonth θ l hl0 S0 _ hz m (by omega) (by omega)) dX1_nth_1 k743 k744 k1 k745 hd_X1_needMonth rfl ⟨by decide, by decide⟩ (Nat.le_of_ble_eq_true rfl) ⟨by decide, by decide⟩ ⟨by decide, by decide⟩ hS (fun _ h => h) hxt hlk (fun H1 h1 h2 => ⟨rfl, h1, h2⟩)

set_option maxHeartbeats 4000000 in
set_option maxRecDepth 100000 in
theorem no2_nth (θ : TH) (l : Launch) (hl0 : l.stackTraces = false) (S0 : State) (H : Heap) (u : Nat → Nat) (dt sy sm sd : Nat → Int) (bc rf kn : Int) (hw : CWR θ S0 u H dt sy sm sd bc rf kn) (m w k : Int) (h_0 : -2147483648 ≤ m ∧ m < 2147483648) (h_1 : -2147483648 ≤ w ∧ w < 2147483648) (h_2 : -2147483648 ≤ k ∧ k < 2147483648) (h_3 : -119988 ≤ m ∧ m ≤ 119999) (h_4 : ¬ (1 ≤ w ∧ w ≤ 7)) : TX l yX1_nth cX1_nth 6 (some .int) 7 112 [.ref (u 0), .int (iI m), .int (iI w), .int (iI k)] S0 H "java/lang/IllegalArgumentException" := by
  refine ct_of (by decide +kernel) (Nat.le_of_ble_eq_true rfl) ?_
  intro pg en s mi args below meth co ls fx hs hr hlk hxt hin hl
  subst hs
  obtain ⟨hx, hb, hml, hown, hts⟩ := id fx.1
  have hS : va_S (fun q : Nat => s.heap.size ≤ q) s.heap s.heap [] := va_S.rf
  obtain ⟨hz, hu, ⟨ho, ha1, ha2, ha3, ha4, hsb⟩, hd, hsp⟩ := id hw
  have hAB : ∀ q : Nat, (fun q : Nat => s.heap.size ≤ q) q → θ.2.2.2 ≤ q := fun q h => Nat.le_trans hz.2.1 h
  have hz0 := hz
  have hK := sz_K fx.2 hz
  have tt1 := fI_bd m
  refine lv_iload_n hx hb dX1_nth_0 rfl (lv_at hl 1 rfl) ?_
  refine c_N (As := [.int (iI m)]) (rest := []) fx hl (nok_needMonth l S0 _ m (by omega) (by omega)) dX1_nth_1 k743 k744 k1 k745 hd_X1_needMonth rfl ⟨by decide, by decide⟩ (Nat.le_of_ble_eq_true rfl) ⟨by dsimp only; omega, by dsimp only; omega⟩ ?_
  refine lv_iload_n hx hb dX1_nth_4 rfl (lv_at hl 2 rfl) ?_
  refine q_con hx hb dX1_nth_5 ?_
  refine q_bip hx hb dX1_nth_6 (by decide) ?_
  exact e_cT (As := [.int (iI w), .int (iI 1), .int (iI 7)]) (rest := []) fx hl (nno_needWithin θ l hl0 S0 _ hz w 1 7 (by omega) (by omega) (by omega) (by omega)) dX1_nth_8 k172 k173 k1 k174 hd_X1_needWithin rfl ⟨by decide, by decide⟩ (Nat.le_of_ble_eq_true rfl) ⟨by decide, by decide⟩ ⟨by decide, by decide⟩ hS (fun _ h => h) hxt hlk (fun H1 h1 h2 => ⟨rfl, h1, h2⟩)

set_option maxHeartbeats 4000000 in
set_option maxRecDepth 100000 in
theorem no3_nth (θ : TH) (l : Launch) (hl0 : l.stackTraces = false) (S0 : State) (H : Heap) (u : Nat → Nat) (dt sy sm sd : Nat → Int) (bc rf kn : Int) (hw : CWR θ S0 u H dt sy sm sd bc rf kn) (m w k : Int) (h_0 : -2147483648 ≤ m ∧ m < 2147483648) (h_1 : -2147483648 ≤ w ∧ w < 2147483648) (h_2 : -2147483648 ≤ k ∧ k < 2147483648) (h_3 : -119988 ≤ m ∧ m ≤ 119999) (h_4 : 1 ≤ w ∧ w ≤ 7) (h_5 : ¬ (1 ≤ k ∧ k ≤ 5)) : TX l yX1_nth cX1_nth 6 (some .int) 7 112 [.ref (u 0), .int (iI m), .int (iI w), .int (iI k)] S0 H "java/lang/IllegalArgumentException" := by
  refine ct_of (by decide +kernel) (Nat.le_of_ble_eq_true rfl) ?_
  intro pg en s mi args below meth co ls fx hs hr hlk hxt hin hl
  subst hs
  obtain ⟨hx, hb, hml, hown, hts⟩ := id fx.1
  have hS : va_S (fun q : Nat => s.heap.size ≤ q) s.heap s.heap [] := va_S.rf
  obtain ⟨hz, hu, ⟨ho, ha1, ha2, ha3, ha4, hsb⟩, hd, hsp⟩ := id hw
  have hAB : ∀ q : Nat, (fun q : Nat => s.heap.size ≤ q) q → θ.2.2.2 ≤ q := fun q h => Nat.le_trans hz.2.1 h
  have hz0 := hz
  have hK := sz_K fx.2 hz
  have tt1 := fI_bd m
  refine lv_iload_n hx hb dX1_nth_0 rfl (lv_at hl 1 rfl) ?_
  refine c_N (As := [.int (iI m)]) (rest := []) fx hl (nok_needMonth l S0 _ m (by omega) (by omega)) dX1_nth_1 k743 k744 k1 k745 hd_X1_needMonth rfl ⟨by decide, by decide⟩ (Nat.le_of_ble_eq_true rfl) ⟨by dsimp only; omega, by dsimp only; omega⟩ ?_
  refine lv_iload_n hx hb dX1_nth_4 rfl (lv_at hl 2 rfl) ?_
  refine q_con hx hb dX1_nth_5 ?_
  refine q_bip hx hb dX1_nth_6 (by decide) ?_
  refine c_N (As := [.int (iI w), .int (iI 1), .int (iI 7)]) (rest := []) fx hl (nok_needWithin l S0 _ w 1 7 (by omega) (by omega) (by omega) (by omega)) dX1_nth_8 k172 k173 k1 k174 hd_X1_needWithin rfl ⟨by decide, by decide⟩ (Nat.le_of_ble_eq_true rfl) ⟨by dsimp only; omega, by dsimp only; omega⟩ ?_
  refine lv_iload_n hx hb dX1_nth_11 rfl (lv_at hl 3 rfl) ?_
  refine q_con hx hb dX1_nth_12 ?_
  refine q_con hx hb dX1_nth_13 ?_
  exact e_cT (As := [.int (iI k), .int (iI 1), .int (iI 5)]) (rest := []) fx hl (nno_needWithin θ l hl0 S0 _ hz k 1 5 (by omega) (by omega) (by omega) (by omega)) dX1_nth_14 k172 k173 k1 k174 hd_X1_needWithin rfl ⟨by decide, by decide⟩ (Nat.le_of_ble_eq_true rfl) ⟨by decide, by decide⟩ ⟨by decide, by decide⟩ hS (fun _ h => h) hxt hlk (fun H1 h1 h2 => ⟨rfl, h1, h2⟩)

set_option maxHeartbeats 4000000 in
set_option maxRecDepth 100000 in
theorem ok_inYear (θ : TH) (l : Launch) (hl0 : l.stackTraces = false) (S0 : State) (H : Heap) (u : Nat → Nat) (dt sy sm sd : Nat → Int) (bc rf kn : Int) (hw : CWR θ S0 u H dt sy sm sd bc rf kn) (y k w : Int) (h_0 : -2147483648 ≤ y ∧ y < 2147483648) (h_1 : -2147483648 ≤ k ∧ k < 2147483648) (h_2 : -2147483648 ≤ w ∧ w < 2147483648) (h_3 : -9999 ≤ y ∧ y ≤ 9999) (h_4 : 1 ≤ k ∧ k ≤ 31) (h_5 : 1 ≤ w ∧ w ≤ 7) : CT l yX1_inYear cX1_inYear 7 (some .int) 3 68 0 0 [.ref (u 0), .int (iI y), .int (iI k), .int (iI w)] S0 H (fun v H1 => (∃ z : Int, v = some (.int (iI z))) ∧ H1 = H) (fun _ _ => False) (fun _ => False) := by
  refine ct_of (by decide +kernel) (Nat.le_of_ble_eq_true rfl) ?_
  intro pg en s mi args below meth co ls fx hs hr hlk hxt hin hl
  subst hs
  obtain ⟨hx, hb, hml, hown, hts⟩ := id fx.1
  have hS : va_S (fun _ : Nat => False) s.heap s.heap [] := va_S.rf
  obtain ⟨hz, hu, ⟨ho, ha1, ha2, ha3, ha4, hsb⟩, hd, hsp⟩ := id hw
  have hAB : ∀ q : Nat, (fun _ : Nat => False) q → θ.2.2.2 ≤ q := fun _ h => h.elim
  have hz0 := hz
  have hK := sz_K fx.2 hz
  refine lv_iload_n hx hb dX1_inYear_0 rfl (lv_at hl 1 rfl) ?_
  refine q_sip hx hb dX1_inYear_1 (by decide) ?_
  refine q_sip hx hb dX1_inYear_4 (by decide) ?_
  refine c_N (As := [.int (iI y), .int (iI (-9999)), .int (iI 9999)]) (rest := []) fx hl (nok_needWithin l S0 _ y (-9999) 9999 (by omega) (by omega) (by omega) (by omega)) dX1_inYear_7 k172 k173 k1 k174 hd_X1_needWithin rfl ⟨by decide, by decide⟩ (Nat.le_of_ble_eq_true rfl) ⟨by dsimp only; omega, by dsimp only; omega⟩ ?_
  refine lv_iload_n hx hb dX1_inYear_10 rfl (lv_at hl 2 rfl) ?_
  refine q_con hx hb dX1_inYear_11 ?_
  refine q_bip hx hb dX1_inYear_12 (by decide) ?_
  refine c_N (As := [.int (iI k), .int (iI 1), .int (iI 31)]) (rest := []) fx hl (nok_needWithin l S0 _ k 1 31 (by omega) (by omega) (by omega) (by omega)) dX1_inYear_14 k172 k173 k1 k174 hd_X1_needWithin rfl ⟨by decide, by decide⟩ (Nat.le_of_ble_eq_true rfl) ⟨by dsimp only; omega, by dsimp only; omega⟩ ?_
  refine lv_iload_n hx hb dX1_inYear_17 rfl (lv_at hl 3 rfl) ?_
  refine q_con hx hb dX1_inYear_18 ?_
  refine q_bip hx hb dX1_inYear_19 (by decide) ?_
  refine c_N (As := [.int (iI w), .int (iI 1), .int (iI 7)]) (rest := []) fx hl (nok_needWithin l S0 _ w 1 7 (by omega) (by omega) (by omega) (by omega)) dX1_inYear_21 k172 k173 k1 k174 hd_X1_needWithin rfl ⟨by decide, by decide⟩ (Nat.le_of_ble_eq_true rfl) ⟨by dsimp only; omega, by dsimp only; omega⟩ ?_
  refine q_bip hx hb dX1_inYear_24 (by decide) ?_
  refine lv_iload_n hx hb dX1_inYear_26 rfl (lv_at hl 1 rfl) ?_
  refine q_mul hx hb dX1_inYear_27 ?_
  refine q_nm (fun z1 ez1 => ?_)
  refine lv_istore (lv' := [(4, .int (iI z1)), (0, .ref (u 0)), (1, .int (iI y)), (2, .int (iI k)), (3, .int (iI w))]) hx hb dX1_inYear_28 hl (by decide) rfl (fun ls hl => ?_)
  refine q_con hx hb dX1_inYear_30 ?_
  refine lv_istore (lv' := [(5, .int (iI 0)), (4, .int (iI z1)), (0, .ref (u 0)), (1, .int (iI y)), (2, .int (iI k)), (3, .int (iI w))]) hx hb dX1_inYear_31 hl (by decide) rfl (fun ls hl => ?_)
  refine lv_iload hx hb dX1_inYear_33 (lv_at hl 1 rfl) ?_
  refine lv_istore (lv' := [(6, .int (iI z1)), (5, .int (iI 0)), (4, .int (iI z1)), (0, .ref (u 0)), (1, .int (iI y)), (2, .int (iI k)), (3, .int (iI w))]) hx hb dX1_inYear_35 hl (by decide) rfl (fun ls hl => ?_)
  refine w_loop (nL := 7) (σ := Int × Int) (fun x => (12 * y + 12 - x.2).toNat) (fun x => (12 * y ≤ x.2 ∧ x.2 ≤ 12 * y + 12) ∧ (0 ≤ x.1 ∧ x.1 ≤ x.2 - 12 * y)) (fun x => [(5, .int (iI x.1)), (6, .int (iI x.2)), (4, .int (iI z1)), (0, .ref (u 0)), (1, .int (iI y)), (2, .int (iI k)), (3, .int (iI w))]) ?_ ((0 : Int), (z1 : Int)) ⟨by (try dsimp only); omega, by (try dsimp only); omega⟩ (lv_sub hl [1, 0, 2, 3, 4, 5, 6] rfl)
  intro x hI37 ih37 ls hl
  obtain ⟨f, j⟩ := x
  (try dsimp only at hI37 ih37 hl ⊢)
  have tt1 := fI_bd j
  have tt2 := fI_bd (j + 1)
  refine lv_iload hx hb dX1_inYear_37 (lv_at hl 1 rfl) ?_
  refine lv_iload hx hb dX1_inYear_39 (lv_at hl 2 rfl) ?_
  refine q_bip hx hb dX1_inYear_41 (by decide) ?_
  refine q_add hx hb dX1_inYear_43 ?_
  refine q_cge (tgt := 78) hx hb dX1_inYear_44 (by decide) (by omega) (by omega) (fun c2 => ?_) (fun c2 => ?_)
  · refine lv_iload hx hb dX1_inYear_78 (lv_at hl 0 rfl) ?_
    exact e_i hx hb hr hlk hS dX1_inYear_80 (Nat.le_refl _) (Nat.le_refl _) ⟨⟨_, rfl⟩, rfl⟩
  · refine lv_iload_n hx hb dX1_inYear_47 rfl (lv_at hl 5 rfl) ?_
    refine lv_iload hx hb dX1_inYear_48 (lv_at hl 1 rfl) ?_
    refine c_P (As := [.int (iI j)]) (rest := [.int (iI k)]) fx hl (pm_X0_lengthOf l j (by omega)) dX1_inYear_50 k311 k148 k13 k149 hd_X0_lengthOf rfl ⟨by decide, by decide⟩ (Nat.le_of_ble_eq_true rfl) ⟨by omega, by omega⟩ ?_
    refine q_nm (fun z3 ez3 => ?_)
    have t0z3 := len_b j
    refine q_cgt (tgt := 72) hx hb dX1_inYear_53 (by decide) (by omega) (by omega) (fun c4 => ?_) (fun c4 => ?_)
    · refine lv_iinc (v := iI (j + 1)) (lv' := [(6, .int (iI (j + 1))), (5, .int (iI f)), (4, .int (iI z1)), (0, .ref (u 0)), (1, .int (iI y)), (2, .int (iI k)), (3, .int (iI w))]) hx hb dX1_inYear_72 hl (k := 1) rfl (iI_add _ _) (by decide) rfl (fun ls hl => ?_)
      refine lv_goto (tgt := 37) hx hb dX1_inYear_75 (by decide) ?_
      exact ih37 (f, j + 1) _ ⟨by (try dsimp only); omega, by (try dsimp only); omega⟩ (by (try dsimp only); omega) (lv_sub hl [1, 0, 2, 3, 4, 5, 6] rfl)
    · refine lv_iload hx hb dX1_inYear_56 (lv_at hl 1 rfl) ?_
      refine lv_iload_n hx hb dX1_inYear_58 rfl (lv_at hl 5 rfl) ?_
      refine c_P (As := [.int (iI j), .int (iI k)]) (rest := []) fx hl (pm_X0_dateIn l j k (by omega) (by omega)) dX1_inYear_59 k722 k132 k13 k133 hd_X0_dateIn rfl ⟨by decide, by decide⟩ (Nat.le_of_ble_eq_true rfl) ⟨by omega, by omega⟩ ?_
      have t0z5 := inI_s (m := j) (k := k) (by omega)
      have t1z5 := fI_bd j
      have t2z5 := fI_bd (j + 1)
      refine c_P (As := [.int (iI (inI j k))]) (rest := []) fx hl (pm_X0_weekdayOf l (inI j k) (by omega)) dX1_inYear_62 k293 k294 k13 k295 hd_X0_weekdayOf rfl ⟨by decide, by decide⟩ (Nat.le_of_ble_eq_true rfl) ⟨by omega, by omega⟩ ?_
      have t0z6 := wI_b (inI j k)
      refine lv_iload_n hx hb dX1_inYear_65 rfl (lv_at hl 6 rfl) ?_
      refine q_cne (tgt := 72) hx hb dX1_inYear_66 (by decide) (by omega) (by omega) (fun c7 => ?_) (fun c7 => ?_)
      · refine lv_iinc (v := iI (j + 1)) (lv' := [(6, .int (iI (j + 1))), (5, .int (iI f)), (4, .int (iI z1)), (0, .ref (u 0)), (1, .int (iI y)), (2, .int (iI k)), (3, .int (iI w))]) hx hb dX1_inYear_72 hl (k := 1) rfl (iI_add _ _) (by decide) rfl (fun ls hl => ?_)
        refine lv_goto (tgt := 37) hx hb dX1_inYear_75 (by decide) ?_
        exact ih37 (f, j + 1) _ ⟨by (try dsimp only); omega, by (try dsimp only); omega⟩ (by (try dsimp only); omega) (lv_sub hl [1, 0, 2, 3, 4, 5, 6] rfl)
      · refine lv_iinc (v := iI (f + 1)) (lv' := [(5, .int (iI (f + 1))), (6, .int (iI j)), (4, .int (iI z1)), (0, .ref (u 0)), (1, .int (iI y)), (2, .int (iI k)), (3, .int (iI w))]) hx hb dX1_inYear_69 hl (k := 0) rfl (iI_add _ _) (by decide) rfl (fun ls hl => ?_)
        refine lv_iinc (v := iI (j + 1)) (lv' := [(6, .int (iI (j + 1))), (5, .int (iI (f + 1))), (4, .int (iI z1)), (0, .ref (u 0)), (1, .int (iI y)), (2, .int (iI k)), (3, .int (iI w))]) hx hb dX1_inYear_72 hl (k := 1) rfl (iI_add _ _) (by decide) rfl (fun ls hl => ?_)
        refine lv_goto (tgt := 37) hx hb dX1_inYear_75 (by decide) ?_
        exact ih37 (f + 1, j + 1) _ ⟨by (try dsimp only); omega, by (try dsimp only); omega⟩ (by (try dsimp only); omega) (lv_sub hl [1, 0, 2, 3, 4, 5, 6] rfl)

set_option maxHeartbeats 4000000 in
set_option maxRecDepth 100000 in
theorem no1_inYear (θ : TH) (l : Launch) (hl0 : l.stackTraces = false) (S0 : State) (H : Heap) (u : Nat → Nat) (dt sy sm sd : Nat → Int) (bc rf kn : Int) (hw : CWR θ S0 u H dt sy sm sd bc rf kn) (y k w : Int) (h_0 : -2147483648 ≤ y ∧ y < 2147483648) (h_1 : -2147483648 ≤ k ∧ k < 2147483648) (h_2 : -2147483648 ≤ w ∧ w < 2147483648) (h_3 : ¬ (-9999 ≤ y ∧ y ≤ 9999)) : TX l yX1_inYear cX1_inYear 7 (some .int) 7 112 [.ref (u 0), .int (iI y), .int (iI k), .int (iI w)] S0 H "java/lang/IllegalArgumentException" := by
  refine ct_of (by decide +kernel) (Nat.le_of_ble_eq_true rfl) ?_
  intro pg en s mi args below meth co ls fx hs hr hlk hxt hin hl
  subst hs
  obtain ⟨hx, hb, hml, hown, hts⟩ := id fx.1
  have hS : va_S (fun q : Nat => s.heap.size ≤ q) s.heap s.heap [] := va_S.rf
  obtain ⟨hz, hu, ⟨ho, ha1, ha2, ha3, ha4, hsb⟩, hd, hsp⟩ := id hw
  have hAB : ∀ q : Nat, (fun q : Nat => s.heap.size ≤ q) q → θ.2.2.2 ≤ q := fun q h => Nat.le_trans hz.2.1 h
  have hz0 := hz
  have hK := sz_K fx.2 hz
  refine lv_iload_n hx hb dX1_inYear_0 rfl (lv_at hl 1 rfl) ?_
  refine q_sip hx hb dX1_inYear_1 (by decide) ?_
  refine q_sip hx hb dX1_inYear_4 (by decide) ?_
  exact e_cT (As := [.int (iI y), .int (iI (-9999)), .int (iI 9999)]) (rest := []) fx hl (nno_needWithin θ l hl0 S0 _ hz y (-9999) 9999 (by omega) (by omega) (by omega) (by omega)) dX1_inYear_7 k172 k173 k1 k174 hd_X1_needWithin rfl ⟨by decide, by decide⟩ (Nat.le_of_ble_eq_true rfl) ⟨by decide, by decide⟩ ⟨by decide, by decide⟩ hS (fun _ h => h) hxt hlk (fun H1 h1 h2 => ⟨rfl, h1, h2⟩)

set_option maxHeartbeats 4000000 in
set_option maxRecDepth 100000 in
theorem no2_inYear (θ : TH) (l : Launch) (hl0 : l.stackTraces = false) (S0 : State) (H : Heap) (u : Nat → Nat) (dt sy sm sd : Nat → Int) (bc rf kn : Int) (hw : CWR θ S0 u H dt sy sm sd bc rf kn) (y k w : Int) (h_0 : -2147483648 ≤ y ∧ y < 2147483648) (h_1 : -2147483648 ≤ k ∧ k < 2147483648) (h_2 : -2147483648 ≤ w ∧ w < 2147483648) (h_3 : -9999 ≤ y ∧ y ≤ 9999) (h_4 : ¬ (1 ≤ k ∧ k ≤ 31)) : TX l yX1_inYear cX1_inYear 7 (some .int) 7 112 [.ref (u 0), .int (iI y), .int (iI k), .int (iI w)] S0 H "java/lang/IllegalArgumentException" := by
  refine ct_of (by decide +kernel) (Nat.le_of_ble_eq_true rfl) ?_
  intro pg en s mi args below meth co ls fx hs hr hlk hxt hin hl
  subst hs
  obtain ⟨hx, hb, hml, hown, hts⟩ := id fx.1
  have hS : va_S (fun q : Nat => s.heap.size ≤ q) s.heap s.heap [] := va_S.rf
  obtain ⟨hz, hu, ⟨ho, ha1, ha2, ha3, ha4, hsb⟩, hd, hsp⟩ := id hw
  have hAB : ∀ q : Nat, (fun q : Nat => s.heap.size ≤ q) q → θ.2.2.2 ≤ q := fun q h => Nat.le_trans hz.2.1 h
  have hz0 := hz
  have hK := sz_K fx.2 hz
  refine lv_iload_n hx hb dX1_inYear_0 rfl (lv_at hl 1 rfl) ?_
  refine q_sip hx hb dX1_inYear_1 (by decide) ?_
  refine q_sip hx hb dX1_inYear_4 (by decide) ?_
  refine c_N (As := [.int (iI y), .int (iI (-9999)), .int (iI 9999)]) (rest := []) fx hl (nok_needWithin l S0 _ y (-9999) 9999 (by omega) (by omega) (by omega) (by omega)) dX1_inYear_7 k172 k173 k1 k174 hd_X1_needWithin rfl ⟨by decide, by decide⟩ (Nat.le_of_ble_eq_true rfl) ⟨by dsimp only; omega, by dsimp only; omega⟩ ?_
  refine lv_iload_n hx hb dX1_inYear_10 rfl (lv_at hl 2 rfl) ?_
  refine q_con hx hb dX1_inYear_11 ?_
  refine q_bip hx hb dX1_inYear_12 (by decide) ?_
  exact e_cT (As := [.int (iI k), .int (iI 1), .int (iI 31)]) (rest := []) fx hl (nno_needWithin θ l hl0 S0 _ hz k 1 31 (by omega) (by omega) (by omega) (by omega)) dX1_inYear_14 k172 k173 k1 k174 hd_X1_needWithin rfl ⟨by decide, by decide⟩ (Nat.le_of_ble_eq_true rfl) ⟨by decide, by decide⟩ ⟨by decide, by decide⟩ hS (fun _ h => h) hxt hlk (fun H1 h1 h2 => ⟨rfl, h1, h2⟩)

set_option maxHeartbeats 4000000 in
set_option maxRecDepth 100000 in
theorem no3_inYear (θ : TH) (l : Launch) (hl0 : l.stackTraces = false) (S0 : State) (H : Heap) (u : Nat → Nat) (dt sy sm sd : Nat → Int) (bc rf kn : Int) (hw : CWR θ S0 u H dt sy sm sd bc rf kn) (y k w : Int) (h_0 : -2147483648 ≤ y ∧ y < 2147483648) (h_1 : -2147483648 ≤ k ∧ k < 2147483648) (h_2 : -2147483648 ≤ w ∧ w < 2147483648) (h_3 : -9999 ≤ y ∧ y ≤ 9999) (h_4 : 1 ≤ k ∧ k ≤ 31) (h_5 : ¬ (1 ≤ w ∧ w ≤ 7)) : TX l yX1_inYear cX1_inYear 7 (some .int) 7 112 [.ref (u 0), .int (iI y), .int (iI k), .int (iI w)] S0 H "java/lang/IllegalArgumentException" := by
  refine ct_of (by decide +kernel) (Nat.le_of_ble_eq_true rfl) ?_
  intro pg en s mi args below meth co ls fx hs hr hlk hxt hin hl
  subst hs
  obtain ⟨hx, hb, hml, hown, hts⟩ := id fx.1
  have hS : va_S (fun q : Nat => s.heap.size ≤ q) s.heap s.heap [] := va_S.rf
  obtain ⟨hz, hu, ⟨ho, ha1, ha2, ha3, ha4, hsb⟩, hd, hsp⟩ := id hw
  have hAB : ∀ q : Nat, (fun q : Nat => s.heap.size ≤ q) q → θ.2.2.2 ≤ q := fun q h => Nat.le_trans hz.2.1 h
  have hz0 := hz
  have hK := sz_K fx.2 hz
  refine lv_iload_n hx hb dX1_inYear_0 rfl (lv_at hl 1 rfl) ?_
  refine q_sip hx hb dX1_inYear_1 (by decide) ?_
  refine q_sip hx hb dX1_inYear_4 (by decide) ?_
  refine c_N (As := [.int (iI y), .int (iI (-9999)), .int (iI 9999)]) (rest := []) fx hl (nok_needWithin l S0 _ y (-9999) 9999 (by omega) (by omega) (by omega) (by omega)) dX1_inYear_7 k172 k173 k1 k174 hd_X1_needWithin rfl ⟨by decide, by decide⟩ (Nat.le_of_ble_eq_true rfl) ⟨by dsimp only; omega, by dsimp only; omega⟩ ?_
  refine lv_iload_n hx hb dX1_inYear_10 rfl (lv_at hl 2 rfl) ?_
  refine q_con hx hb dX1_inYear_11 ?_
  refine q_bip hx hb dX1_inYear_12 (by decide) ?_
  refine c_N (As := [.int (iI k), .int (iI 1), .int (iI 31)]) (rest := []) fx hl (nok_needWithin l S0 _ k 1 31 (by omega) (by omega) (by omega) (by omega)) dX1_inYear_14 k172 k173 k1 k174 hd_X1_needWithin rfl ⟨by decide, by decide⟩ (Nat.le_of_ble_eq_true rfl) ⟨by dsimp only; omega, by dsimp only; omega⟩ ?_
  refine lv_iload_n hx hb dX1_inYear_17 rfl (lv_at hl 3 rfl) ?_
  refine q_con hx hb dX1_inYear_18 ?_
  refine q_bip hx hb dX1_inYear_19 (by decide) ?_
  exact e_cT (As := [.int (iI w), .int (iI 1), .int (iI 7)]) (rest := []) fx hl (nno_needWithin θ l hl0 S0 _ hz w 1 7 (by omega) (by omega) (by omega) (by omega)) dX1_inYear_21 k172 k173 k1 k174 hd_X1_needWithin rfl ⟨by decide, by decide⟩ (Nat.le_of_ble_eq_true rfl) ⟨by decide, by decide⟩ ⟨by decide, by decide⟩ hS (fun _ h => h) hxt hlk (fun H1 h1 h2 => ⟨rfl, h1, h2⟩)

set_option maxHeartbeats 4000000 in
set_option maxRecDepth 100000 in
theorem ok_recurs (θ : TH) (l : Launch) (hl0 : l.stackTraces = false) (S0 : State) (H : Heap) (u : Nat → Nat) (dt sy sm sd : Nat → Int) (bc rf kn : Int) (hw : CWR θ S0 u H dt sy sm sd bc rf kn) (a w k : Int) (h_0 : -2147483648 ≤ a ∧ a < 2147483648) (h_1 : -2147483648 ≤ w ∧ w < 2147483648) (h_2 : -2147483648 ≤ k ∧ k < 2147483648) (h_3 : 0 ≤ a ∧ a < 6) (h_4 : 1 ≤ w ∧ w ≤ 7) (h_5 : 0 ≤ k ∧ k ≤ 48) : CT l yX1_recurs cX1_recurs 7 (some .int) 4 92 0 0 [.ref (u 0), .int (iI a), .int (iI w), .int (iI k)] S0 H (fun v H1 => (∃ z : Int, v = some (.int (iI z))) ∧ H1 = H) (fun _ _ => False) (fun _ => False) := by
  refine ct_of (by decide +kernel) (Nat.le_of_ble_eq_true rfl) ?_
  intro pg en s mi args below meth co ls fx hs hr hlk hxt hin hl
  subst hs
  obtain ⟨hx, hb, hml, hown, hts⟩ := id fx.1
  have hS : va_S (fun _ : Nat => False) s.heap s.heap [] := va_S.rf
  obtain ⟨hz, hu, ⟨ho, ha1, ha2, ha3, ha4, hsb⟩, hd, hsp⟩ := id hw
  have hAB : ∀ q : Nat, (fun _ : Nat => False) q → θ.2.2.2 ≤ q := fun _ h => h.elim
  have hz0 := hz
  have hK := sz_K fx.2 hz
  refine lv_iload_n hx hb dX1_recurs_0 rfl (lv_at hl 1 rfl) ?_
  refine c_N (As := [.int (iI a)]) (rest := []) fx hl (nok_needPlace l S0 _ a (by omega) (by omega)) dX1_recurs_1 k260 k261 k1 k262 hd_X1_needPlace rfl ⟨by decide, by decide⟩ (Nat.le_of_ble_eq_true rfl) ⟨by dsimp only; omega, by dsimp only; omega⟩ ?_
  refine lv_iload_n hx hb dX1_recurs_4 rfl (lv_at hl 2 rfl) ?_
  refine q_con hx hb dX1_recurs_5 ?_
  refine q_bip hx hb dX1_recurs_6 (by decide) ?_
  refine c_N (As := [.int (iI w), .int (iI 1), .int (iI 7)]) (rest := []) fx hl (nok_needWithin l S0 _ w 1 7 (by omega) (by omega) (by omega) (by omega)) dX1_recurs_8 k172 k173 k1 k174 hd_X1_needWithin rfl ⟨by decide, by decide⟩ (Nat.le_of_ble_eq_true rfl) ⟨by dsimp only; omega, by dsimp only; omega⟩ ?_
  refine lv_iload_n hx hb dX1_recurs_11 rfl (lv_at hl 3 rfl) ?_
  refine q_con hx hb dX1_recurs_12 ?_
  refine q_bip hx hb dX1_recurs_13 (by decide) ?_
  refine c_N (As := [.int (iI k), .int (iI 0), .int (iI 48)]) (rest := []) fx hl (nok_needWithin l S0 _ k 0 48 (by omega) (by omega) (by omega) (by omega)) dX1_recurs_15 k172 k173 k1 k174 hd_X1_needWithin rfl ⟨by decide, by decide⟩ (Nat.le_of_ble_eq_true rfl) ⟨by dsimp only; omega, by dsimp only; omega⟩ ?_
  refine q_con hx hb dX1_recurs_18 ?_
  refine lv_istore (lv' := [(4, .int (iI 0)), (0, .ref (u 0)), (1, .int (iI a)), (2, .int (iI w)), (3, .int (iI k))]) hx hb dX1_recurs_19 hl (by decide) rfl (fun ls hl => ?_)
  refine q_con hx hb dX1_recurs_21 ?_
  refine lv_istore (lv' := [(5, .int (iI 1)), (4, .int (iI 0)), (0, .ref (u 0)), (1, .int (iI a)), (2, .int (iI w)), (3, .int (iI k))]) hx hb dX1_recurs_22 hl (by decide) rfl (fun ls hl => ?_)
  refine w_loop (nL := 7) (σ := Int × Int) (fun x => (k + 1 - x.2).toNat) (fun x => (1 ≤ x.2 ∧ x.2 ≤ k + 1) ∧ (0 ≤ x.1 ∧ x.1 < x.2)) (fun x => [(4, .int (iI x.1)), (5, .int (iI x.2)), (0, .ref (u 0)), (1, .int (iI a)), (2, .int (iI w)), (3, .int (iI k))]) ?_ ((0 : Int), (1 : Int)) ⟨by (try dsimp only); omega, by (try dsimp only); omega⟩ (lv_sub hl [1, 0, 2, 3, 4, 5] rfl)
  intro x hI24 ih24 ls hl
  obtain ⟨f, j⟩ := x
  (try dsimp only at hI24 ih24 hl ⊢)
  refine lv_iload hx hb dX1_recurs_24 (lv_at hl 1 rfl) ?_
  refine lv_iload_n hx hb dX1_recurs_26 rfl (lv_at hl 5 rfl) ?_
  refine q_cgt (tgt := 64) hx hb dX1_recurs_27 (by decide) (by omega) (by omega) (fun c1 => ?_) (fun c1 => ?_)
  · refine lv_iload hx hb dX1_recurs_64 (lv_at hl 0 rfl) ?_
    exact e_i hx hb hr hlk hS dX1_recurs_66 (Nat.le_refl _) (Nat.le_refl _) ⟨⟨_, rfl⟩, rfl⟩
  · refine lv_aload_n hx hb dX1_recurs_30 rfl (lv_at hl 2 rfl) ?_
    refine r_get (θ := θ) (C := RX1) (T := TX1) (N := 8) (ci := 7) hx hb hts gwX1 hown hK ho rfl 0 (by decide) k73 (fun _ h => h) (v := .ref (u 1)) rfl dX1_recurs_31 ?_
    refine lv_iload_n hx hb dX1_recurs_34 rfl (lv_at hl 3 rfl) ?_
    refine r_iald (θ := θ) hx hb hK ha1 (i := a) (by omega) (by decide) dX1_recurs_35 ?_
    have tr2 := hd (a.toNat) (by omega)
    refine q_bip hx hb dX1_recurs_36 (by decide) ?_
    refine lv_iload hx hb dX1_recurs_38 (lv_at hl 1 rfl) ?_
    refine q_mul hx hb dX1_recurs_40 ?_
    refine c_P (As := [.int (iI (dt a.toNat)), .int (iI (12 * j))]) (rest := []) fx hl (pm_X0_shifted l (dt a.toNat) (12 * j) (by omega) (by omega)) dX1_recurs_41 k783 k141 k13 k142 hd_X0_shifted rfl ⟨by decide, by decide⟩ (Nat.le_of_ble_eq_true rfl) ⟨by omega, by omega⟩ ?_
    have t0z3 := shI_s (dt a.toNat) (12 * j)
    have t1z3 := shI_bd (dt a.toNat) (12 * j)
    refine lv_istore (lv' := [(6, .int (iI (shI (dt a.toNat) (12 * j)))), (4, .int (iI f)), (5, .int (iI j)), (0, .ref (u 0)), (1, .int (iI a)), (2, .int (iI w)), (3, .int (iI k))]) hx hb dX1_recurs_44 hl (by decide) rfl (fun ls hl => ?_)
    refine lv_iload hx hb dX1_recurs_46 (lv_at hl 0 rfl) ?_
    refine c_P (As := [.int (iI (shI (dt a.toNat) (12 * j)))]) (rest := []) fx hl (pm_X0_weekdayOf l (shI (dt a.toNat) (12 * j)) (by omega)) dX1_recurs_48 k293 k294 k13 k295 hd_X0_weekdayOf rfl ⟨by decide, by decide⟩ (Nat.le_of_ble_eq_true rfl) ⟨by omega, by omega⟩ ?_
    have t0z4 := wI_b (shI (dt a.toNat) (12 * j))
    refine lv_iload_n hx hb dX1_recurs_51 rfl (lv_at hl 5 rfl) ?_
    refine q_cne (tgt := 58) hx hb dX1_recurs_52 (by decide) (by omega) (by omega) (fun c5 => ?_) (fun c5 => ?_)
    · refine lv_iinc (v := iI (j + 1)) (lv' := [(5, .int (iI (j + 1))), (6, .int (iI (shI (dt a.toNat) (12 * j)))), (4, .int (iI f)), (0, .ref (u 0)), (1, .int (iI a)), (2, .int (iI w)), (3, .int (iI k))]) hx hb dX1_recurs_58 hl (k := 2) rfl (iI_add _ _) (by decide) rfl (fun ls hl => ?_)
      refine lv_goto (tgt := 24) hx hb dX1_recurs_61 (by decide) ?_
      exact ih24 (f, j + 1) _ ⟨by (try dsimp only); omega, by (try dsimp only); omega⟩ (by (try dsimp only); omega) (lv_sub hl [2, 0, 3, 4, 5, 6] rfl)
    · refine lv_iinc (v := iI (f + 1)) (lv' := [(4, .int (iI (f + 1))), (6, .int (iI (shI (dt a.toNat) (12 * j)))), (5, .int (iI j)), (0, .ref (u 0)), (1, .int (iI a)), (2, .int (iI w)), (3, .int (iI k))]) hx hb dX1_recurs_55 hl (k := 1) rfl (iI_add _ _) (by decide) rfl (fun ls hl => ?_)
      refine lv_iinc (v := iI (j + 1)) (lv' := [(5, .int (iI (j + 1))), (4, .int (iI (f + 1))), (6, .int (iI (shI (dt a.toNat) (12 * j)))), (0, .ref (u 0)), (1, .int (iI a)), (2, .int (iI w)), (3, .int (iI k))]) hx hb dX1_recurs_58 hl (k := 2) rfl (iI_add _ _) (by decide) rfl (fun ls hl => ?_)
      refine lv_goto (tgt := 24) hx hb dX1_recurs_61 (by decide) ?_
      exact ih24 (f + 1, j + 1) _ ⟨by (try dsimp only); omega, by (try dsimp only); omega⟩ (by (try dsimp only); omega) (lv_sub hl [1, 0, 3, 4, 5, 6] rfl)

set_option maxHeartbeats 4000000 in
set_option maxRecDepth 100000 in
theorem no1_recurs (θ : TH) (l : Launch) (hl0 : l.stackTraces = false) (S0 : State) (H : Heap) (u : Nat → Nat) (dt sy sm sd : Nat → Int) (bc rf kn : Int) (hw : CWR θ S0 u H dt sy sm sd bc rf kn) (a w k : Int) (h_0 : -2147483648 ≤ a ∧ a < 2147483648) (h_1 : -2147483648 ≤ w ∧ w < 2147483648) (h_2 : -2147483648 ≤ k ∧ k < 2147483648) (h_3 : ¬ (0 ≤ a ∧ a < 6)) : TX l yX1_recurs cX1_recurs 7 (some .int) 7 110 [.ref (u 0), .int (iI a), .int (iI w), .int (iI k)] S0 H "java/lang/IndexOutOfBoundsException" := by
  refine ct_of (by decide +kernel) (Nat.le_of_ble_eq_true rfl) ?_
  intro pg en s mi args below meth co ls fx hs hr hlk hxt hin hl
  subst hs
  obtain ⟨hx, hb, hml, hown, hts⟩ := id fx.1
  have hS : va_S (fun q : Nat => s.heap.size ≤ q) s.heap s.heap [] := va_S.rf
  obtain ⟨hz, hu, ⟨ho, ha1, ha2, ha3, ha4, hsb⟩, hd, hsp⟩ := id hw
  have hAB : ∀ q : Nat, (fun q : Nat => s.heap.size ≤ q) q → θ.2.2.2 ≤ q := fun q h => Nat.le_trans hz.2.1 h
  have hz0 := hz
  have hK := sz_K fx.2 hz
  refine lv_iload_n hx hb dX1_recurs_0 rfl (lv_at hl 1 rfl) ?_
  exact e_cT (As := [.int (iI a)]) (rest := []) fx hl (nno_needPlace θ l hl0 S0 _ hz a (by omega) (by omega)) dX1_recurs_1 k260 k261 k1 k262 hd_X1_needPlace rfl ⟨by decide, by decide⟩ (Nat.le_of_ble_eq_true rfl) ⟨by decide, by decide⟩ ⟨by decide, by decide⟩ hS (fun _ h => h) hxt hlk (fun H1 h1 h2 => ⟨rfl, h1, h2⟩)

set_option maxHeartbeats 4000000 in
set_option maxRecDepth 100000 in
theorem no2_recurs (θ : TH) (l : Launch) (hl0 : l.stackTraces = false) (S0 : State) (H : Heap) (u : Nat → Nat) (dt sy sm sd : Nat → Int) (bc rf kn : Int) (hw : CWR θ S0 u H dt sy sm sd bc rf kn) (a w k : Int) (h_0 : -2147483648 ≤ a ∧ a < 2147483648) (h_1 : -2147483648 ≤ w ∧ w < 2147483648) (h_2 : -2147483648 ≤ k ∧ k < 2147483648) (h_3 : 0 ≤ a ∧ a < 6) (h_4 : ¬ (1 ≤ w ∧ w ≤ 7)) : TX l yX1_recurs cX1_recurs 7 (some .int) 7 112 [.ref (u 0), .int (iI a), .int (iI w), .int (iI k)] S0 H "java/lang/IllegalArgumentException" := by
  refine ct_of (by decide +kernel) (Nat.le_of_ble_eq_true rfl) ?_
  intro pg en s mi args below meth co ls fx hs hr hlk hxt hin hl
  subst hs
  obtain ⟨hx, hb, hml, hown, hts⟩ := id fx.1
  have hS : va_S (fun q : Nat => s.heap.size ≤ q) s.heap s.heap [] := va_S.rf
  obtain ⟨hz, hu, ⟨ho, ha1, ha2, ha3, ha4, hsb⟩, hd, hsp⟩ := id hw
  have hAB : ∀ q : Nat, (fun q : Nat => s.heap.size ≤ q) q → θ.2.2.2 ≤ q := fun q h => Nat.le_trans hz.2.1 h
  have hz0 := hz
  have hK := sz_K fx.2 hz
  refine lv_iload_n hx hb dX1_recurs_0 rfl (lv_at hl 1 rfl) ?_
  refine c_N (As := [.int (iI a)]) (rest := []) fx hl (nok_needPlace l S0 _ a (by omega) (by omega)) dX1_recurs_1 k260 k261 k1 k262 hd_X1_needPlace rfl ⟨by decide, by decide⟩ (Nat.le_of_ble_eq_true rfl) ⟨by dsimp only; omega, by dsimp only; omega⟩ ?_
  refine lv_iload_n hx hb dX1_recurs_4 rfl (lv_at hl 2 rfl) ?_
  refine q_con hx hb dX1_recurs_5 ?_
  refine q_bip hx hb dX1_recurs_6 (by decide) ?_
  exact e_cT (As := [.int (iI w), .int (iI 1), .int (iI 7)]) (rest := []) fx hl (nno_needWithin θ l hl0 S0 _ hz w 1 7 (by omega) (by omega) (by omega) (by omega)) dX1_recurs_8 k172 k173 k1 k174 hd_X1_needWithin rfl ⟨by decide, by decide⟩ (Nat.le_of_ble_eq_true rfl) ⟨by decide, by decide⟩ ⟨by decide, by decide⟩ hS (fun _ h => h) hxt hlk (fun H1 h1 h2 => ⟨rfl, h1, h2⟩)

set_option maxHeartbeats 4000000 in
set_option maxRecDepth 100000 in
theorem no3_recurs (θ : TH) (l : Launch) (hl0 : l.stackTraces = false) (S0 : State) (H : Heap) (u : Nat → Nat) (dt sy sm sd : Nat → Int) (bc rf kn : Int) (hw : CWR θ S0 u H dt sy sm sd bc rf kn) (a w k : Int) (h_0 : -2147483648 ≤ a ∧ a < 2147483648) (h_1 : -2147483648 ≤ w ∧ w < 2147483648) (h_2 : -2147483648 ≤ k ∧ k < 2147483648) (h_3 : 0 ≤ a ∧ a < 6) (h_4 : 1 ≤ w ∧ w ≤ 7) (h_5 : ¬ (0 ≤ k ∧ k ≤ 48)) : TX l yX1_recurs cX1_recurs 7 (some .int) 7 112 [.ref (u 0), .int (iI a), .int (iI w), .int (iI k)] S0 H "java/lang/IllegalArgumentException" := by
  refine ct_of (by decide +kernel) (Nat.le_of_ble_eq_true rfl) ?_
  intro pg en s mi args below meth co ls fx hs hr hlk hxt hin hl
  subst hs
  obtain ⟨hx, hb, hml, hown, hts⟩ := id fx.1
  have hS : va_S (fun q : Nat => s.heap.size ≤ q) s.heap s.heap [] := va_S.rf
  obtain ⟨hz, hu, ⟨ho, ha1, ha2, ha3, ha4, hsb⟩, hd, hsp⟩ := id hw
  have hAB : ∀ q : Nat, (fun q : Nat => s.heap.size ≤ q) q → θ.2.2.2 ≤ q := fun q h => Nat.le_trans hz.2.1 h
  have hz0 := hz
  have hK := sz_K fx.2 hz
  refine lv_iload_n hx hb dX1_recurs_0 rfl (lv_at hl 1 rfl) ?_
  refine c_N (As := [.int (iI a)]) (rest := []) fx hl (nok_needPlace l S0 _ a (by omega) (by omega)) dX1_recurs_1 k260 k261 k1 k262 hd_X1_needPlace rfl ⟨by decide, by decide⟩ (Nat.le_of_ble_eq_true rfl) ⟨by dsimp only; omega, by dsimp only; omega⟩ ?_
  refine lv_iload_n hx hb dX1_recurs_4 rfl (lv_at hl 2 rfl) ?_
  refine q_con hx hb dX1_recurs_5 ?_
  refine q_bip hx hb dX1_recurs_6 (by decide) ?_
  refine c_N (As := [.int (iI w), .int (iI 1), .int (iI 7)]) (rest := []) fx hl (nok_needWithin l S0 _ w 1 7 (by omega) (by omega) (by omega) (by omega)) dX1_recurs_8 k172 k173 k1 k174 hd_X1_needWithin rfl ⟨by decide, by decide⟩ (Nat.le_of_ble_eq_true rfl) ⟨by dsimp only; omega, by dsimp only; omega⟩ ?_
  refine lv_iload_n hx hb dX1_recurs_11 rfl (lv_at hl 3 rfl) ?_
  refine q_con hx hb dX1_recurs_12 ?_
  refine q_bip hx hb dX1_recurs_13 (by decide) ?_
  exact e_cT (As := [.int (iI k), .int (iI 0), .int (iI 48)]) (rest := []) fx hl (nno_needWithin θ l hl0 S0 _ hz k 0 48 (by omega) (by omega) (by omega) (by omega)) dX1_recurs_15 k172 k173 k1 k174 hd_X1_needWithin rfl ⟨by decide, by decide⟩ (Nat.le_of_ble_eq_true rfl) ⟨by decide, by decide⟩ ⟨by decide, by decide⟩ hS (fun _ h => h) hxt hlk (fun H1 h1 h2 => ⟨rfl, h1, h2⟩)

set_option maxHeartbeats 4000000 in
set_option maxRecDepth 100000 in
theorem ok_age (θ : TH) (l : Launch) (hl0 : l.stackTraces = false) (S0 : State) (H : Heap) (u : Nat → Nat) (dt sy sm sd : Nat → Int) (bc rf kn : Int) (hw : CWR θ S0 u H dt sy sm sd bc rf kn) (a b : Int) (h_0 : -2147483648 ≤ a ∧ a < 2147483648) (h_1 : -2147483648 ≤ b ∧ b < 2147483648) (h_2 : 0 ≤ a ∧ a < 6) (h_3 : 0 ≤ b ∧ b < 6) (h_4 : dt a.toNat ≤ dt b.toNat) : CT l yX1_age cX1_age 3 (some .int) 5 112 0 0 [.ref (u 0), .int (iI a), .int (iI b)] S0 H (fun v H1 => v = some (.int (iI (muI (dt a.toNat) (dt b.toNat) / 12))) ∧ H1 = H) (fun _ _ => False) (fun _ => False) := by
  refine ct_of (by decide +kernel) (Nat.le_of_ble_eq_true rfl) ?_
  intro pg en s mi args below meth co ls fx hs hr hlk hxt hin hl
  subst hs
  obtain ⟨hx, hb, hml, hown, hts⟩ := id fx.1
  have hS : va_S (fun _ : Nat => False) s.heap s.heap [] := va_S.rf
  obtain ⟨hz, hu, ⟨ho, ha1, ha2, ha3, ha4, hsb⟩, hd, hsp⟩ := id hw
  have hAB : ∀ q : Nat, (fun _ : Nat => False) q → θ.2.2.2 ≤ q := fun _ h => h.elim
  have hz0 := hz
  have hK := sz_K fx.2 hz
  refine lv_iload_n hx hb dX1_age_0 rfl (lv_at hl 1 rfl) ?_
  refine c_N (As := [.int (iI a)]) (rest := []) fx hl (nok_needPlace l S0 _ a (by omega) (by omega)) dX1_age_1 k260 k261 k1 k262 hd_X1_needPlace rfl ⟨by decide, by decide⟩ (Nat.le_of_ble_eq_true rfl) ⟨by dsimp only; omega, by dsimp only; omega⟩ ?_
  refine lv_iload_n hx hb dX1_age_4 rfl (lv_at hl 2 rfl) ?_
  refine c_N (As := [.int (iI b)]) (rest := []) fx hl (nok_needPlace l S0 _ b (by omega) (by omega)) dX1_age_5 k260 k261 k1 k262 hd_X1_needPlace rfl ⟨by decide, by decide⟩ (Nat.le_of_ble_eq_true rfl) ⟨by dsimp only; omega, by dsimp only; omega⟩ ?_
  refine lv_aload_n hx hb dX1_age_8 rfl (lv_at hl 0 rfl) ?_
  refine r_get (θ := θ) (C := RX1) (T := TX1) (N := 8) (ci := 7) hx hb hts gwX1 hown hK ho rfl 0 (by decide) k73 (fun _ h => h) (v := .ref (u 1)) rfl dX1_age_9 ?_
  refine lv_iload_n hx hb dX1_age_12 rfl (lv_at hl 2 rfl) ?_
  refine r_iald (θ := θ) hx hb hK ha1 (i := b) (by omega) (by decide) dX1_age_13 ?_
  have tr1 := hd (b.toNat) (by omega)
  refine lv_aload_n hx hb dX1_age_14 rfl (lv_at hl 0 rfl) ?_
  refine r_get (θ := θ) (C := RX1) (T := TX1) (N := 8) (ci := 7) hx hb hts gwX1 hown hK ho rfl 0 (by decide) k73 (fun _ h => h) (v := .ref (u 1)) rfl dX1_age_15 ?_
  refine lv_iload_n hx hb dX1_age_18 rfl (lv_at hl 1 rfl) ?_
  refine r_iald (θ := θ) hx hb hK ha1 (i := a) (by omega) (by decide) dX1_age_19 ?_
  have tr2 := hd (a.toNat) (by omega)
  refine c_N (As := [.int (iI (dt b.toNat)), .int (iI (dt a.toNat))]) (rest := []) fx hl (nok_needNotAhead l S0 _ (dt b.toNat) (dt a.toNat) (by omega) (by omega) (by omega)) dX1_age_20 k843 k844 k1 k845 hd_X1_needNotAhead rfl ⟨by decide, by decide⟩ (Nat.le_of_ble_eq_true rfl) ⟨by dsimp only; omega, by dsimp only; omega⟩ ?_
  refine lv_aload_n hx hb dX1_age_23 rfl (lv_at hl 0 rfl) ?_
  refine r_get (θ := θ) (C := RX1) (T := TX1) (N := 8) (ci := 7) hx hb hts gwX1 hown hK ho rfl 0 (by decide) k73 (fun _ h => h) (v := .ref (u 1)) rfl dX1_age_24 ?_
  refine lv_iload_n hx hb dX1_age_27 rfl (lv_at hl 1 rfl) ?_
  refine r_iald (θ := θ) hx hb hK ha1 (i := a) (by omega) (by decide) dX1_age_28 ?_
  have tr3 := hd (a.toNat) (by omega)
  refine lv_aload_n hx hb dX1_age_29 rfl (lv_at hl 0 rfl) ?_
  refine r_get (θ := θ) (C := RX1) (T := TX1) (N := 8) (ci := 7) hx hb hts gwX1 hown hK ho rfl 0 (by decide) k73 (fun _ h => h) (v := .ref (u 1)) rfl dX1_age_30 ?_
  refine lv_iload_n hx hb dX1_age_33 rfl (lv_at hl 2 rfl) ?_
  refine r_iald (θ := θ) hx hb hK ha1 (i := b) (by omega) (by decide) dX1_age_34 ?_
  have tr4 := hd (b.toNat) (by omega)
  refine c_P (As := [.int (iI (dt a.toNat)), .int (iI (dt b.toNat))]) (rest := []) fx hl (pm_X0_monthsUntil l (dt a.toNat) (dt b.toNat) (by omega) (by omega)) dX1_age_35 k666 k157 k13 k158 hd_X0_monthsUntil rfl ⟨by decide, by decide⟩ (Nat.le_of_ble_eq_true rfl) ⟨by omega, by omega⟩ ?_
  have t0z5 := mu_b (dt a.toNat) (dt b.toNat)
  have t1z5 := mI_bd (dt a.toNat)
  have t2z5 := mI_bd (dt b.toNat)
  refine q_bip hx hb dX1_age_38 (by decide) ?_
  refine q_div hx hb dX1_age_40 (by omega) (by omega) ?_
  refine q_nm (fun z6 ez6 => ?_)
  have fz6 : 0 ≤ (muI (dt a.toNat) (dt b.toNat)) → z6 = (muI (dt a.toNat) (dt b.toNat)) / 12 := fun h => by rw [ez6, tdiv_pos h (by omega)]
  have gz6 : (muI (dt a.toNat) (dt b.toNat)) < 0 → z6 = -((-(muI (dt a.toNat) (dt b.toNat))) / 12) := fun h => by rw [ez6, tdiv_neg' h]
  clear ez6
  exact e_i hx hb hr hlk hS dX1_age_41 (Nat.le_refl _) (Nat.le_refl _) ⟨ex_i (by omega), rfl⟩

set_option maxHeartbeats 4000000 in
set_option maxRecDepth 100000 in
theorem no1_age (θ : TH) (l : Launch) (hl0 : l.stackTraces = false) (S0 : State) (H : Heap) (u : Nat → Nat) (dt sy sm sd : Nat → Int) (bc rf kn : Int) (hw : CWR θ S0 u H dt sy sm sd bc rf kn) (a b : Int) (h_0 : -2147483648 ≤ a ∧ a < 2147483648) (h_1 : -2147483648 ≤ b ∧ b < 2147483648) (h_2 : ¬ (0 ≤ a ∧ a < 6)) : TX l yX1_age cX1_age 3 (some .int) 7 110 [.ref (u 0), .int (iI a), .int (iI b)] S0 H "java/lang/IndexOutOfBoundsException" := by
  refine ct_of (by decide +kernel) (Nat.le_of_ble_eq_true rfl) ?_
  intro pg en s mi args below meth co ls fx hs hr hlk hxt hin hl
  subst hs
  obtain ⟨hx, hb, hml, hown, hts⟩ := id fx.1
  have hS : va_S (fun q : Nat => s.heap.size ≤ q) s.heap s.heap [] := va_S.rf
  obtain ⟨hz, hu, ⟨ho, ha1, ha2, ha3, ha4, hsb⟩, hd, hsp⟩ := id hw
  have hAB : ∀ q : Nat, (fun q : Nat => s.heap.size ≤ q) q → θ.2.2.2 ≤ q := fun q h => Nat.le_trans hz.2.1 h
  have hz0 := hz
  have hK := sz_K fx.2 hz
  refine lv_iload_n hx hb dX1_age_0 rfl (lv_at hl 1 rfl) ?_
  exact e_cT (As := [.int (iI a)]) (rest := []) fx hl (nno_needPlace θ l hl0 S0 _ hz a (by omega) (by omega)) dX1_age_1 k260 k261 k1 k262 hd_X1_needPlace rfl ⟨by decide, by decide⟩ (Nat.le_of_ble_eq_true rfl) ⟨by decide, by decide⟩ ⟨by decide, by decide⟩ hS (fun _ h => h) hxt hlk (fun H1 h1 h2 => ⟨rfl, h1, h2⟩)

set_option maxHeartbeats 4000000 in
set_option maxRecDepth 100000 in
theorem no2_age (θ : TH) (l : Launch) (hl0 : l.stackTraces = false) (S0 : State) (H : Heap) (u : Nat → Nat) (dt sy sm sd : Nat → Int) (bc rf kn : Int) (hw : CWR θ S0 u H dt sy sm sd bc rf kn) (a b : Int) (h_0 : -2147483648 ≤ a ∧ a < 2147483648) (h_1 : -2147483648 ≤ b ∧ b < 2147483648) (h_2 : 0 ≤ a ∧ a < 6) (h_3 : ¬ (0 ≤ b ∧ b < 6)) : TX l yX1_age cX1_age 3 (some .int) 7 110 [.ref (u 0), .int (iI a), .int (iI b)] S0 H "java/lang/IndexOutOfBoundsException" := by
  refine ct_of (by decide +kernel) (Nat.le_of_ble_eq_true rfl) ?_
  intro pg en s mi args below meth co ls fx hs hr hlk hxt hin hl
  subst hs
  obtain ⟨hx, hb, hml, hown, hts⟩ := id fx.1
  have hS : va_S (fun q : Nat => s.heap.size ≤ q) s.heap s.heap [] := va_S.rf
  obtain ⟨hz, hu, ⟨ho, ha1, ha2, ha3, ha4, hsb⟩, hd, hsp⟩ := id hw
  have hAB : ∀ q : Nat, (fun q : Nat => s.heap.size ≤ q) q → θ.2.2.2 ≤ q := fun q h => Nat.le_trans hz.2.1 h
  have hz0 := hz
  have hK := sz_K fx.2 hz
  refine lv_iload_n hx hb dX1_age_0 rfl (lv_at hl 1 rfl) ?_
  refine c_N (As := [.int (iI a)]) (rest := []) fx hl (nok_needPlace l S0 _ a (by omega) (by omega)) dX1_age_1 k260 k261 k1 k262 hd_X1_needPlace rfl ⟨by decide, by decide⟩ (Nat.le_of_ble_eq_true rfl) ⟨by dsimp only; omega, by dsimp only; omega⟩ ?_
  refine lv_iload_n hx hb dX1_age_4 rfl (lv_at hl 2 rfl) ?_
  exact e_cT (As := [.int (iI b)]) (rest := []) fx hl (nno_needPlace θ l hl0 S0 _ hz b (by omega) (by omega)) dX1_age_5 k260 k261 k1 k262 hd_X1_needPlace rfl ⟨by decide, by decide⟩ (Nat.le_of_ble_eq_true rfl) ⟨by decide, by decide⟩ ⟨by decide, by decide⟩ hS (fun _ h => h) hxt hlk (fun H1 h1 h2 => ⟨rfl, h1, h2⟩)

set_option maxHeartbeats 4000000 in
set_option maxRecDepth 100000 in
theorem no3_age (θ : TH) (l : Launch) (hl0 : l.stackTraces = false) (S0 : State) (H : Heap) (u : Nat → Nat) (dt sy sm sd : Nat → Int) (bc rf kn : Int) (hw : CWR θ S0 u H dt sy sm sd bc rf kn) (a b : Int) (h_0 : -2147483648 ≤ a ∧ a < 2147483648) (h_1 : -2147483648 ≤ b ∧ b < 2147483648) (h_2 : 0 ≤ a ∧ a < 6) (h_3 : 0 ≤ b ∧ b < 6) (h_4 : ¬ (dt a.toNat ≤ dt b.toNat)) : TX l yX1_age cX1_age 3 (some .int) 7 111 [.ref (u 0), .int (iI a), .int (iI b)] S0 H "java/lang/IllegalStateException" := by
  refine ct_of (by decide +kernel) (Nat.le_of_ble_eq_true rfl) ?_
  intro pg en s mi args below meth co ls fx hs hr hlk hxt hin hl
  subst hs
  obtain ⟨hx, hb, hml, hown, hts⟩ := id fx.1
  have hS : va_S (fun q : Nat => s.heap.size ≤ q) s.heap s.heap [] := va_S.rf
  obtain ⟨hz, hu, ⟨ho, ha1, ha2, ha3, ha4, hsb⟩, hd, hsp⟩ := id hw
  have hAB : ∀ q : Nat, (fun q : Nat => s.heap.size ≤ q) q → θ.2.2.2 ≤ q := fun q h => Nat.le_trans hz.2.1 h
  have hz0 := hz
  have hK := sz_K fx.2 hz
  refine lv_iload_n hx hb dX1_age_0 rfl (lv_at hl 1 rfl) ?_
  refine c_N (As := [.int (iI a)]) (rest := []) fx hl (nok_needPlace l S0 _ a (by omega) (by omega)) dX1_age_1 k260 k261 k1 k262 hd_X1_needPlace rfl ⟨by decide, by decide⟩ (Nat.le_of_ble_eq_true rfl) ⟨by dsimp only; omega, by dsimp only; omega⟩ ?_
  refine lv_iload_n hx hb dX1_age_4 rfl (lv_at hl 2 rfl) ?_
  refine c_N (As := [.int (iI b)]) (rest := []) fx hl (nok_needPlace l S0 _ b (by omega) (by omega)) dX1_age_5 k260 k261 k1 k262 hd_X1_needPlace rfl ⟨by decide, by decide⟩ (Nat.le_of_ble_eq_true rfl) ⟨by dsimp only; omega, by dsimp only; omega⟩ ?_
  refine lv_aload_n hx hb dX1_age_8 rfl (lv_at hl 0 rfl) ?_
  refine r_get (θ := θ) (C := RX1) (T := TX1) (N := 8) (ci := 7) hx hb hts gwX1 hown hK ho rfl 0 (by decide) k73 (fun _ h => h) (v := .ref (u 1)) rfl dX1_age_9 ?_
  refine lv_iload_n hx hb dX1_age_12 rfl (lv_at hl 2 rfl) ?_
  refine r_iald (θ := θ) hx hb hK ha1 (i := b) (by omega) (by decide) dX1_age_13 ?_
  have tr1 := hd (b.toNat) (by omega)
  refine lv_aload_n hx hb dX1_age_14 rfl (lv_at hl 0 rfl) ?_
  refine r_get (θ := θ) (C := RX1) (T := TX1) (N := 8) (ci := 7) hx hb hts gwX1 hown hK ho rfl 0 (by decide) k73 (fun _ h => h) (v := .ref (u 1)) rfl dX1_age_15 ?_
  refine lv_iload_n hx hb dX1_age_18 rfl (lv_at hl 1 rfl) ?_
  refine r_iald (θ := θ) hx hb hK ha1 (i := a) (by omega) (by decide) dX1_age_19 ?_
  have tr2 := hd (a.toNat) (by omega)
  exact e_cT (As := [.int (iI (dt b.toNat)), .int (iI (dt a.toNat))]) (rest := []) fx hl (nno_needNotAhead θ l hl0 S0 _ hz (dt b.toNat) (dt a.toNat) (by omega) (by omega) (by omega)) dX1_age_20 k843 k844 k1 k845 hd_X1_needNotAhead rfl ⟨by decide, by decide⟩ (Nat.le_of_ble_eq_true rfl) ⟨by decide, by decide⟩ ⟨by decide, by decide⟩ hS (fun _ h => h) hxt hlk (fun H1 h1 h2 => ⟨rfl, h1, h2⟩)

set_option maxHeartbeats 4000000 in
set_option maxRecDepth 100000 in
theorem ok_wholeMonths (θ : TH) (l : Launch) (hl0 : l.stackTraces = false) (S0 : State) (H : Heap) (u : Nat → Nat) (dt sy sm sd : Nat → Int) (bc rf kn : Int) (hw : CWR θ S0 u H dt sy sm sd bc rf kn) (a b : Int) (h_0 : -2147483648 ≤ a ∧ a < 2147483648) (h_1 : -2147483648 ≤ b ∧ b < 2147483648) (h_2 : 0 ≤ a ∧ a < 6) (h_3 : 0 ≤ b ∧ b < 6) : CT l yX1_wholeMonths cX1_wholeMonths 3 (some .int) 5 112 0 0 [.ref (u 0), .int (iI a), .int (iI b)] S0 H (fun v H1 => v = some (.int (iI (if dt b.toNat < dt a.toNat then -muI (dt b.toNat) (dt a.toNat) else muI (dt a.toNat) (dt b.toNat)))) ∧ H1 = H) (fun _ _ => False) (fun _ => False) := by
  refine ct_of (by decide +kernel) (Nat.le_of_ble_eq_true rfl) ?_
  intro pg en s mi args below meth co ls fx hs hr hlk hxt hin hl
  subst hs
  obtain ⟨hx, hb, hml, hown, hts⟩ := id fx.1
  have hS : va_S (fun _ : Nat => False) s.heap s.heap [] := va_S.rf
  obtain ⟨hz, hu, ⟨ho, ha1, ha2, ha3, ha4, hsb⟩, hd, hsp⟩ := id hw
  have hAB : ∀ q : Nat, (fun _ : Nat => False) q → θ.2.2.2 ≤ q := fun _ h => h.elim
  have hz0 := hz
  have hK := sz_K fx.2 hz
  refine lv_iload_n hx hb dX1_wholeMonths_0 rfl (lv_at hl 1 rfl) ?_
  refine c_N (As := [.int (iI a)]) (rest := []) fx hl (nok_needPlace l S0 _ a (by omega) (by omega)) dX1_wholeMonths_1 k260 k261 k1 k262 hd_X1_needPlace rfl ⟨by decide, by decide⟩ (Nat.le_of_ble_eq_true rfl) ⟨by dsimp only; omega, by dsimp only; omega⟩ ?_
  refine lv_iload_n hx hb dX1_wholeMonths_4 rfl (lv_at hl 2 rfl) ?_
  refine c_N (As := [.int (iI b)]) (rest := []) fx hl (nok_needPlace l S0 _ b (by omega) (by omega)) dX1_wholeMonths_5 k260 k261 k1 k262 hd_X1_needPlace rfl ⟨by decide, by decide⟩ (Nat.le_of_ble_eq_true rfl) ⟨by dsimp only; omega, by dsimp only; omega⟩ ?_
  refine lv_aload_n hx hb dX1_wholeMonths_8 rfl (lv_at hl 0 rfl) ?_
  refine r_get (θ := θ) (C := RX1) (T := TX1) (N := 8) (ci := 7) hx hb hts gwX1 hown hK ho rfl 0 (by decide) k73 (fun _ h => h) (v := .ref (u 1)) rfl dX1_wholeMonths_9 ?_
  refine lv_iload_n hx hb dX1_wholeMonths_12 rfl (lv_at hl 2 rfl) ?_
  refine r_iald (θ := θ) hx hb hK ha1 (i := b) (by omega) (by decide) dX1_wholeMonths_13 ?_
  have tr1 := hd (b.toNat) (by omega)
  refine lv_aload_n hx hb dX1_wholeMonths_14 rfl (lv_at hl 0 rfl) ?_
  refine r_get (θ := θ) (C := RX1) (T := TX1) (N := 8) (ci := 7) hx hb hts gwX1 hown hK ho rfl 0 (by decide) k73 (fun _ h => h) (v := .ref (u 1)) rfl dX1_wholeMonths_15 ?_
  refine lv_iload_n hx hb dX1_wholeMonths_18 rfl (lv_at hl 1 rfl) ?_
  refine r_iald (θ := θ) hx hb hK ha1 (i := a) (by omega) (by decide) dX1_wholeMonths_19 ?_
  have tr2 := hd (a.toNat) (by omega)
  refine q_cge (tgt := 40) hx hb dX1_wholeMonths_20 (by decide) (by omega) (by omega) (fun c3 => ?_) (fun c3 => ?_)
  · refine lv_aload_n hx hb dX1_wholeMonths_40 rfl (lv_at hl 0 rfl) ?_
    refine r_get (θ := θ) (C := RX1) (T := TX1) (N := 8) (ci := 7) hx hb hts gwX1 hown hK ho rfl 0 (by decide) k73 (fun _ h => h) (v := .ref (u 1)) rfl dX1_wholeMonths_41 ?_
    refine lv_iload_n hx hb dX1_wholeMonths_44 rfl (lv_at hl 1 rfl) ?_
    refine r_iald (θ := θ) hx hb hK ha1 (i := a) (by omega) (by decide) dX1_wholeMonths_45 ?_
    have tr4 := hd (a.toNat) (by omega)
    refine lv_aload_n hx hb dX1_wholeMonths_46 rfl (lv_at hl 0 rfl) ?_
    refine r_get (θ := θ) (C := RX1) (T := TX1) (N := 8) (ci := 7) hx hb hts gwX1 hown hK ho rfl 0 (by decide) k73 (fun _ h => h) (v := .ref (u 1)) rfl dX1_wholeMonths_47 ?_
    refine lv_iload_n hx hb dX1_wholeMonths_50 rfl (lv_at hl 2 rfl) ?_
    refine r_iald (θ := θ) hx hb hK ha1 (i := b) (by omega) (by decide) dX1_wholeMonths_51 ?_
    have tr5 := hd (b.toNat) (by omega)
    refine c_P (As := [.int (iI (dt a.toNat)), .int (iI (dt b.toNat))]) (rest := []) fx hl (pm_X0_monthsUntil l (dt a.toNat) (dt b.toNat) (by omega) (by omega)) dX1_wholeMonths_52 k666 k157 k13 k158 hd_X0_monthsUntil rfl ⟨by decide, by decide⟩ (Nat.le_of_ble_eq_true rfl) ⟨by omega, by omega⟩ ?_
    have t0z6 := mu_b (dt a.toNat) (dt b.toNat)
    have t1z6 := mI_bd (dt a.toNat)
    have t2z6 := mI_bd (dt b.toNat)
    exact e_i hx hb hr hlk hS dX1_wholeMonths_55 (Nat.le_refl _) (Nat.le_refl _) ⟨ex_i (by (split <;> omega)), rfl⟩
  · refine lv_aload_n hx hb dX1_wholeMonths_23 rfl (lv_at hl 0 rfl) ?_
    refine r_get (θ := θ) (C := RX1) (T := TX1) (N := 8) (ci := 7) hx hb hts gwX1 hown hK ho rfl 0 (by decide) k73 (fun _ h => h) (v := .ref (u 1)) rfl dX1_wholeMonths_24 ?_
    refine lv_iload_n hx hb dX1_wholeMonths_27 rfl (lv_at hl 2 rfl) ?_
    refine r_iald (θ := θ) hx hb hK ha1 (i := b) (by omega) (by decide) dX1_wholeMonths_28 ?_
    have tr7 := hd (b.toNat) (by omega)
    refine lv_aload_n hx hb dX1_wholeMonths_29 rfl (lv_at hl 0 rfl) ?_
    refine r_get (θ := θ) (C := RX1) (T := TX1) (N := 8) (ci := 7) hx hb hts gwX1 hown hK ho rfl 0 (by decide) k73 (fun _ h => h) (v := .ref (u 1)) rfl dX1_wholeMonths_30 ?_
    refine lv_iload_n hx hb dX1_wholeMonths_33 rfl (lv_at hl 1 rfl) ?_
    refine r_iald (θ := θ) hx hb hK ha1 (i := a) (by omega) (by decide) dX1_wholeMonths_34 ?_
    have tr8 := hd (a.toNat) (by omega)
    refine c_P (As := [.int (iI (dt b.toNat)), .int (iI (dt a.toNat))]) (rest := []) fx hl (pm_X0_monthsUntil l (dt b.toNat) (dt a.toNat) (by omega) (by omega)) dX1_wholeMonths_35 k666 k157 k13 k158 hd_X0_monthsUntil rfl ⟨by decide, by decide⟩ (Nat.le_of_ble_eq_true rfl) ⟨by omega, by omega⟩ ?_
    have t0z9 := mu_b (dt b.toNat) (dt a.toNat)
    have t1z9 := mI_bd (dt b.toNat)
    have t2z9 := mI_bd (dt a.toNat)
    refine q_neg hx hb dX1_wholeMonths_38 ?_
    exact e_i hx hb hr hlk hS dX1_wholeMonths_39 (Nat.le_refl _) (Nat.le_refl _) ⟨ex_i (by (split <;> omega)), rfl⟩

set_option maxHeartbeats 4000000 in
set_option maxRecDepth 100000 in
theorem no1_wholeMonths (θ : TH) (l : Launch) (hl0 : l.stackTraces = false) (S0 : State) (H : Heap) (u : Nat → Nat) (dt sy sm sd : Nat → Int) (bc rf kn : Int) (hw : CWR θ S0 u H dt sy sm sd bc rf kn) (a b : Int) (h_0 : -2147483648 ≤ a ∧ a < 2147483648) (h_1 : -2147483648 ≤ b ∧ b < 2147483648) (h_2 : ¬ (0 ≤ a ∧ a < 6)) : TX l yX1_wholeMonths cX1_wholeMonths 3 (some .int) 7 110 [.ref (u 0), .int (iI a), .int (iI b)] S0 H "java/lang/IndexOutOfBoundsException" := by
  refine ct_of (by decide +kernel) (Nat.le_of_ble_eq_true rfl) ?_
  intro pg en s mi args below meth co ls fx hs hr hlk hxt hin hl
  subst hs
  obtain ⟨hx, hb, hml, hown, hts⟩ := id fx.1
  have hS : va_S (fun q : Nat => s.heap.size ≤ q) s.heap s.heap [] := va_S.rf
  obtain ⟨hz, hu, ⟨ho, ha1, ha2, ha3, ha4, hsb⟩, hd, hsp⟩ := id hw
  have hAB : ∀ q : Nat, (fun q : Nat => s.heap.size ≤ q) q → θ.2.2.2 ≤ q := fun q h => Nat.le_trans hz.2.1 h
  have hz0 := hz
  have hK := sz_K fx.2 hz
  refine lv_iload_n hx hb dX1_wholeMonths_0 rfl (lv_at hl 1 rfl) ?_
  exact e_cT (As := [.int (iI a)]) (rest := []) fx hl (nno_needPlace θ l hl0 S0 _ hz a (by omega) (by omega)) dX1_wholeMonths_1 k260 k261 k1 k262 hd_X1_needPlace rfl ⟨by decide, by decide⟩ (Nat.le_of_ble_eq_true rfl) ⟨by decide, by decide⟩ ⟨by decide, by decide⟩ hS (fun _ h => h) hxt hlk (fun H1 h1 h2 => ⟨rfl, h1, h2⟩)

set_option maxHeartbeats 4000000 in
set_option maxRecDepth 100000 in
theorem no2_wholeMonths (θ : TH) (l : Launch) (hl0 : l.stackTraces = false) (S0 : State) (H : Heap) (u : Nat → Nat) (dt sy sm sd : Nat → Int) (bc rf kn : Int) (hw : CWR θ S0 u H dt sy sm sd bc rf kn) (a b : Int) (h_0 : -2147483648 ≤ a ∧ a < 2147483648) (h_1 : -2147483648 ≤ b ∧ b < 2147483648) (h_2 : 0 ≤ a ∧ a < 6) (h_3 : ¬ (0 ≤ b ∧ b < 6)) : TX l yX1_wholeMonths cX1_wholeMonths 3 (some .int) 7 110 [.ref (u 0), .int (iI a), .int (iI b)] S0 H "java/lang/IndexOutOfBoundsException" := by
  refine ct_of (by decide +kernel) (Nat.le_of_ble_eq_true rfl) ?_
  intro pg en s mi args below meth co ls fx hs hr hlk hxt hin hl
  subst hs
  obtain ⟨hx, hb, hml, hown, hts⟩ := id fx.1
  have hS : va_S (fun q : Nat => s.heap.size ≤ q) s.heap s.heap [] := va_S.rf
  obtain ⟨hz, hu, ⟨ho, ha1, ha2, ha3, ha4, hsb⟩, hd, hsp⟩ := id hw
  have hAB : ∀ q : Nat, (fun q : Nat => s.heap.size ≤ q) q → θ.2.2.2 ≤ q := fun q h => Nat.le_trans hz.2.1 h
  have hz0 := hz
  have hK := sz_K fx.2 hz
  refine lv_iload_n hx hb dX1_wholeMonths_0 rfl (lv_at hl 1 rfl) ?_
  refine c_N (As := [.int (iI a)]) (rest := []) fx hl (nok_needPlace l S0 _ a (by omega) (by omega)) dX1_wholeMonths_1 k260 k261 k1 k262 hd_X1_needPlace rfl ⟨by decide, by decide⟩ (Nat.le_of_ble_eq_true rfl) ⟨by dsimp only; omega, by dsimp only; omega⟩ ?_
  refine lv_iload_n hx hb dX1_wholeMonths_4 rfl (lv_at hl 2 rfl) ?_
  exact e_cT (As := [.int (iI b)]) (rest := []) fx hl (nno_needPlace θ l hl0 S0 _ hz b (by omega) (by omega)) dX1_wholeMonths_5 k260 k261 k1 k262 hd_X1_needPlace rfl ⟨by decide, by decide⟩ (Nat.le_of_ble_eq_true rfl) ⟨by decide, by decide⟩ ⟨by decide, by decide⟩ hS (fun _ h => h) hxt hlk (fun H1 h1 h2 => ⟨rfl, h1, h2⟩)

set_option maxHeartbeats 4000000 in
set_option maxRecDepth 100000 in
theorem ok_isMetBefore (θ : TH) (l : Launch) (hl0 : l.stackTraces = false) (S0 : State) (H : Heap) (u : Nat → Nat) (dt sy sm sd : Nat → Int) (bc rf kn : Int) (hw : CWR θ S0 u H dt sy sm sd bc rf kn) (a : Int) (h_0 : -2147483648 ≤ a ∧ a < 2147483648) (h_1 : 0 ≤ a ∧ a < 6) : CT l yX1_isMetBefore cX1_isMetBefore 3 (some .boolean) 0 0 0 0 [.ref (u 0), .int (iI a)] S0 H (fun v H1 => (∃ z : Int, (z = 0 ∨ z = 1) ∧ v = some (.int (iI z))) ∧ H1 = H) (fun _ _ => False) (fun _ => False) := by
  refine ct_of (by decide +kernel) (Nat.le_of_ble_eq_true rfl) ?_
  intro pg en s mi args below meth co ls fx hs hr hlk hxt hin hl
  subst hs
  obtain ⟨hx, hb, hml, hown, hts⟩ := id fx.1
  have hS : va_S (fun _ : Nat => False) s.heap s.heap [] := va_S.rf
  obtain ⟨hz, hu, ⟨ho, ha1, ha2, ha3, ha4, hsb⟩, hd, hsp⟩ := id hw
  have hAB : ∀ q : Nat, (fun _ : Nat => False) q → θ.2.2.2 ≤ q := fun _ h => h.elim
  have hz0 := hz
  have hK := sz_K fx.2 hz
  refine q_con hx hb dX1_isMetBefore_0 ?_
  refine lv_istore_n (lv' := [(2, .int (iI 0)), (0, .ref (u 0)), (1, .int (iI a))]) hx hb dX1_isMetBefore_1 rfl hl (by decide) rfl (fun ls hl => ?_)
  refine w_loop (nL := 3) (σ := Int) (fun x => (a - x).toNat) (fun x => (0 ≤ x ∧ x ≤ a)) (fun x => [(2, .int (iI x)), (0, .ref (u 0)), (1, .int (iI a))]) ?_ (0 : Int) (by (try dsimp only); omega) (lv_sub hl [0, 1, 2] rfl)
  intro x hI2 ih2 ls hl
  obtain ⟨j, rfl⟩ : ∃ z, z = x := ⟨_, rfl⟩
  (try dsimp only at hI2 ih2 hl ⊢)
  refine lv_iload_n hx hb dX1_isMetBefore_2 rfl (lv_at hl 0 rfl) ?_
  refine lv_iload_n hx hb dX1_isMetBefore_3 rfl (lv_at hl 2 rfl) ?_
  refine q_cge (tgt := 30) hx hb dX1_isMetBefore_4 (by decide) (by omega) (by omega) (fun c1 => ?_) (fun c1 => ?_)
  · refine q_con hx hb dX1_isMetBefore_30 ?_
    exact e_z hx hb hr hlk (by decide) hS dX1_isMetBefore_31 (Nat.le_refl _) (Nat.le_refl _) ⟨⟨_, by omega, rfl⟩, rfl⟩
  · refine lv_aload_n hx hb dX1_isMetBefore_7 rfl (lv_at hl 1 rfl) ?_
    refine r_get (θ := θ) (C := RX1) (T := TX1) (N := 8) (ci := 7) hx hb hts gwX1 hown hK ho rfl 0 (by decide) k73 (fun _ h => h) (v := .ref (u 1)) rfl dX1_isMetBefore_8 ?_
    refine lv_iload_n hx hb dX1_isMetBefore_11 rfl (lv_at hl 0 rfl) ?_
    refine r_iald (θ := θ) hx hb hK ha1 (i := j) (by omega) (by decide) dX1_isMetBefore_12 ?_
    have tr2 := hd (j.toNat) (by omega)
    refine lv_aload_n hx hb dX1_isMetBefore_13 rfl (lv_at hl 1 rfl) ?_
    refine r_get (θ := θ) (C := RX1) (T := TX1) (N := 8) (ci := 7) hx hb hts gwX1 hown hK ho rfl 0 (by decide) k73 (fun _ h => h) (v := .ref (u 1)) rfl dX1_isMetBefore_14 ?_
    refine lv_iload_n hx hb dX1_isMetBefore_17 rfl (lv_at hl 2 rfl) ?_
    refine r_iald (θ := θ) hx hb hK ha1 (i := a) (by omega) (by decide) dX1_isMetBefore_18 ?_
    have tr3 := hd (a.toNat) (by omega)
    refine q_cne (tgt := 24) hx hb dX1_isMetBefore_19 (by decide) (by omega) (by omega) (fun c4 => ?_) (fun c4 => ?_)
    · refine lv_iinc (v := iI (j + 1)) (lv' := [(2, .int (iI (j + 1))), (0, .ref (u 0)), (1, .int (iI a))]) hx hb dX1_isMetBefore_24 hl (k := 0) rfl (iI_add _ _) (by decide) rfl (fun ls hl => ?_)
      refine lv_goto (tgt := 2) hx hb dX1_isMetBefore_27 (by decide) ?_
      exact ih2 (j + 1) _ (by (try dsimp only); omega) (by (try dsimp only); omega) (lv_sub hl [0, 1, 2] rfl)
    · refine q_con hx hb dX1_isMetBefore_22 ?_
      exact e_z hx hb hr hlk (by decide) hS dX1_isMetBefore_23 (Nat.le_refl _) (Nat.le_refl _) ⟨⟨_, by omega, rfl⟩, rfl⟩

set_option maxHeartbeats 4000000 in
set_option maxRecDepth 100000 in
theorem ok_unlikeDates (θ : TH) (l : Launch) (hl0 : l.stackTraces = false) (S0 : State) (H : Heap) (u : Nat → Nat) (dt sy sm sd : Nat → Int) (bc rf kn : Int) (hw : CWR θ S0 u H dt sy sm sd bc rf kn) : CT l yX1_unlikeDates cX1_unlikeDates 3 (some .int) 1 22 0 0 [.ref (u 0)] S0 H (fun v H1 => (∃ z : Int, v = some (.int (iI z))) ∧ H1 = H) (fun _ _ => False) (fun _ => False) := by
  refine ct_of (by decide +kernel) (Nat.le_of_ble_eq_true rfl) ?_
  intro pg en s mi args below meth co ls fx hs hr hlk hxt hin hl
  subst hs
  obtain ⟨hx, hb, hml, hown, hts⟩ := id fx.1
  have hS : va_S (fun _ : Nat => False) s.heap s.heap [] := va_S.rf
  obtain ⟨hz, hu, ⟨ho, ha1, ha2, ha3, ha4, hsb⟩, hd, hsp⟩ := id hw
  have hAB : ∀ q : Nat, (fun _ : Nat => False) q → θ.2.2.2 ≤ q := fun _ h => h.elim
  have hz0 := hz
  have hK := sz_K fx.2 hz
  refine q_con hx hb dX1_unlikeDates_0 ?_
  refine lv_istore_n (lv' := [(1, .int (iI 0)), (0, .ref (u 0))]) hx hb dX1_unlikeDates_1 rfl hl (by decide) rfl (fun ls hl => ?_)
  refine q_con hx hb dX1_unlikeDates_2 ?_
  refine lv_istore_n (lv' := [(2, .int (iI 0)), (1, .int (iI 0)), (0, .ref (u 0))]) hx hb dX1_unlikeDates_3 rfl hl (by decide) rfl (fun ls hl => ?_)
  refine w_loop (nL := 3) (σ := Int × Int) (fun x => (6 - x.2).toNat) (fun x => (0 ≤ x.2 ∧ x.2 ≤ 6) ∧ (0 ≤ x.1 ∧ x.1 ≤ x.2)) (fun x => [(1, .int (iI x.1)), (2, .int (iI x.2)), (0, .ref (u 0))]) ?_ ((0 : Int), (0 : Int)) ⟨by (try dsimp only); omega, by (try dsimp only); omega⟩ (lv_sub hl [1, 0, 2] rfl)
  intro x hI4 ih4 ls hl
  obtain ⟨f, j⟩ := x
  (try dsimp only at hI4 ih4 hl ⊢)
  refine lv_iload_n hx hb dX1_unlikeDates_4 rfl (lv_at hl 1 rfl) ?_
  refine q_bip hx hb dX1_unlikeDates_5 (by decide) ?_
  refine q_cge (tgt := 27) hx hb dX1_unlikeDates_7 (by decide) (by omega) (by omega) (fun c1 => ?_) (fun c1 => ?_)
  · refine lv_iload_n hx hb dX1_unlikeDates_27 rfl (lv_at hl 0 rfl) ?_
    exact e_i hx hb hr hlk hS dX1_unlikeDates_28 (Nat.le_refl _) (Nat.le_refl _) ⟨⟨_, rfl⟩, rfl⟩
  · refine lv_aload_n hx hb dX1_unlikeDates_10 rfl (lv_at hl 2 rfl) ?_
    refine lv_iload_n hx hb dX1_unlikeDates_11 rfl (lv_at hl 1 rfl) ?_
    have hcw := hw
    refine c_HB (As := [.int (iI j)]) (rest := []) (b := u 0) (C := RX1) fx hl (ok_isMetBefore θ l hl0 S0 _ u _ _ _ _ _ _ _ hcw j (by omega) (by omega)) (ob_recv hK ho rfl) dX1_unlikeDates_12 k248 k250 ks2 k1 k251 hd_X1_isMetBefore rfl ⟨by decide, by decide⟩ (Nat.le_of_ble_eq_true rfl) ⟨by dsimp only; omega, by dsimp only; omega⟩ (fun z2 bz2 => ?_)
    refine q_ine (tgt := 21) hx hb dX1_unlikeDates_15 (by decide) (by omega) (fun c3 => ?_) (fun c3 => ?_)
    · refine lv_iinc (v := iI (j + 1)) (lv' := [(2, .int (iI (j + 1))), (1, .int (iI f)), (0, .ref (u 0))]) hx hb dX1_unlikeDates_21 hl (k := 1) rfl (iI_add _ _) (by decide) rfl (fun ls hl => ?_)
      refine lv_goto (tgt := 4) hx hb dX1_unlikeDates_24 (by decide) ?_
      exact ih4 (f, j + 1) _ ⟨by (try dsimp only); omega, by (try dsimp only); omega⟩ (by (try dsimp only); omega) (lv_sub hl [1, 0, 2] rfl)
    · refine lv_iinc (v := iI (f + 1)) (lv' := [(1, .int (iI (f + 1))), (2, .int (iI j)), (0, .ref (u 0))]) hx hb dX1_unlikeDates_18 hl (k := 0) rfl (iI_add _ _) (by decide) rfl (fun ls hl => ?_)
      refine lv_iinc (v := iI (j + 1)) (lv' := [(2, .int (iI (j + 1))), (1, .int (iI (f + 1))), (0, .ref (u 0))]) hx hb dX1_unlikeDates_21 hl (k := 1) rfl (iI_add _ _) (by decide) rfl (fun ls hl => ?_)
      refine lv_goto (tgt := 4) hx hb dX1_unlikeDates_24 (by decide) ?_
      exact ih4 (f + 1, j + 1) _ ⟨by (try dsimp only); omega, by (try dsimp only); omega⟩ (by (try dsimp only); omega) (lv_sub hl [1, 0, 2] rfl)

set_option maxHeartbeats 4000000 in
set_option maxRecDepth 100000 in
theorem ok_house (θ : TH) (l : Launch) (hl0 : l.stackTraces = false) (S0 : State) (H : Heap) (u : Nat → Nat) (dt sy sm sd : Nat → Int) (bc rf kn : Int) (hw : CWR θ S0 u H dt sy sm sd bc rf kn) (k : Int) (h_0 : -2147483648 ≤ k ∧ k < 2147483648) (h_1 : 0 ≤ k ∧ k ≤ 3) : CT l yX1_house cX1_house 2 (some .int) 2 44 0 0 [.ref (u 0), .int (iI k)] S0 H (fun v H1 => (∃ z : Int, v = some (.int (iI z))) ∧ H1 = H) (fun _ _ => False) (fun _ => False) := by
  refine ct_of (by decide +kernel) (Nat.le_of_ble_eq_true rfl) ?_
  intro pg en s mi args below meth co ls fx hs hr hlk hxt hin hl
  subst hs
  obtain ⟨hx, hb, hml, hown, hts⟩ := id fx.1
  have hS : va_S (fun _ : Nat => False) s.heap s.heap [] := va_S.rf
  obtain ⟨hz, hu, ⟨ho, ha1, ha2, ha3, ha4, hsb⟩, hd, hsp⟩ := id hw
  have hAB : ∀ q : Nat, (fun _ : Nat => False) q → θ.2.2.2 ≤ q := fun _ h => h.elim
  have hz0 := hz
  have hK := sz_K fx.2 hz
  refine lv_iload_n hx hb dX1_house_0 rfl (lv_at hl 1 rfl) ?_
  refine q_con hx hb dX1_house_1 ?_
  refine q_con hx hb dX1_house_2 ?_
  refine c_N (As := [.int (iI k), .int (iI 0), .int (iI 3)]) (rest := []) fx hl (nok_needWithin l S0 _ k 0 3 (by omega) (by omega) (by omega) (by omega)) dX1_house_3 k172 k173 k1 k174 hd_X1_needWithin rfl ⟨by decide, by decide⟩ (Nat.le_of_ble_eq_true rfl) ⟨by dsimp only; omega, by dsimp only; omega⟩ ?_
  refine lv_iload_n hx hb dX1_house_6 rfl (lv_at hl 1 rfl) ?_
  rcases (show k = 0 ∨ k = 1 ∨ k = 2 ∨ (k < 0 ∨ 2 < k) by omega) with c1 | c1 | c1 | c1
  · refine q_tabI (tgt := 32) hx hb 0 dX1_house_7 (by omega) (by omega) (by omega) rfl (by decide) ?_
    refine lv_aload_n hx hb dX1_house_32 rfl (lv_at hl 0 rfl) ?_
    refine r_get (θ := θ) (C := RX1) (T := TX1) (N := 8) (ci := 7) hx hb hts gwX1 hown hK ho rfl 5 (by decide) k78 (fun _ h => h) (v := .int (iI bc)) rfl dX1_house_33 ?_
    exact e_i hx hb hr hlk hS dX1_house_36 (Nat.le_refl _) (Nat.le_refl _) ⟨⟨_, rfl⟩, rfl⟩
  · refine q_tabI (tgt := 37) hx hb 1 dX1_house_7 (by omega) (by omega) (by omega) rfl (by decide) ?_
    refine lv_aload_n hx hb dX1_house_37 rfl (lv_at hl 0 rfl) ?_
    have hcw := hw
    refine c_HA (As := []) (rest := []) (b := u 0) (C := RX1) fx hl (ok_unlikeDates θ l hl0 S0 _ u _ _ _ _ _ _ _ hcw ) (ob_recv hK ho rfl) dX1_house_38 k244 k246 ks1 k1 k247 hd_X1_unlikeDates rfl ⟨by decide, by decide⟩ (Nat.le_of_ble_eq_true rfl) ⟨by dsimp only; omega, by dsimp only; omega⟩ (fun z2 => ?_)
    exact e_i hx hb hr hlk hS dX1_house_41 (Nat.le_refl _) (Nat.le_refl _) ⟨⟨_, rfl⟩, rfl⟩
  · refine q_tabI (tgt := 42) hx hb 2 dX1_house_7 (by omega) (by omega) (by omega) rfl (by decide) ?_
    refine lv_aload_n hx hb dX1_house_42 rfl (lv_at hl 0 rfl) ?_
    refine r_get (θ := θ) (C := RX1) (T := TX1) (N := 8) (ci := 7) hx hb hts gwX1 hown hK ho rfl 6 (by decide) k79 (fun _ h => h) (v := .int (iI rf)) rfl dX1_house_43 ?_
    exact e_i hx hb hr hlk hS dX1_house_46 (Nat.le_refl _) (Nat.le_refl _) ⟨⟨_, rfl⟩, rfl⟩
  · refine q_tabO (tgt := 47) hx hb dX1_house_7 (by omega) (by omega) (by decide) ?_
    refine lv_aload_n hx hb dX1_house_47 rfl (lv_at hl 0 rfl) ?_
    refine r_get (θ := θ) (C := RX1) (T := TX1) (N := 8) (ci := 7) hx hb hts gwX1 hown hK ho rfl 7 (by decide) k80 (fun _ h => h) (v := .int (iI kn)) rfl dX1_house_48 ?_
    exact e_i hx hb hr hlk hS dX1_house_51 (Nat.le_refl _) (Nat.le_refl _) ⟨⟨_, rfl⟩, rfl⟩

set_option maxHeartbeats 4000000 in
set_option maxRecDepth 100000 in
theorem no1_house (θ : TH) (l : Launch) (hl0 : l.stackTraces = false) (S0 : State) (H : Heap) (u : Nat → Nat) (dt sy sm sd : Nat → Int) (bc rf kn : Int) (hw : CWR θ S0 u H dt sy sm sd bc rf kn) (k : Int) (h_0 : -2147483648 ≤ k ∧ k < 2147483648) (h_1 : ¬ (0 ≤ k ∧ k ≤ 3)) : TX l yX1_house cX1_house 2 (some .int) 7 112 [.ref (u 0), .int (iI k)] S0 H "java/lang/IllegalArgumentException" := by
  refine ct_of (by decide +kernel) (Nat.le_of_ble_eq_true rfl) ?_
  intro pg en s mi args below meth co ls fx hs hr hlk hxt hin hl
  subst hs
  obtain ⟨hx, hb, hml, hown, hts⟩ := id fx.1
  have hS : va_S (fun q : Nat => s.heap.size ≤ q) s.heap s.heap [] := va_S.rf
  obtain ⟨hz, hu, ⟨ho, ha1, ha2, ha3, ha4, hsb⟩, hd, hsp⟩ := id hw
  have hAB : ∀ q : Nat, (fun q : Nat => s.heap.size ≤ q) q → θ.2.2.2 ≤ q := fun q h => Nat.le_trans hz.2.1 h
  have hz0 := hz
  have hK := sz_K fx.2 hz
  refine lv_iload_n hx hb dX1_house_0 rfl (lv_at hl 1 rfl) ?_
  refine q_con hx hb dX1_house_1 ?_
  refine q_con hx hb dX1_house_2 ?_
  exact e_cT (As := [.int (iI k), .int (iI 0), .int (iI 3)]) (rest := []) fx hl (nno_needWithin θ l hl0 S0 _ hz k 0 3 (by omega) (by omega) (by omega) (by omega)) dX1_house_3 k172 k173 k1 k174 hd_X1_needWithin rfl ⟨by decide, by decide⟩ (Nat.le_of_ble_eq_true rfl) ⟨by decide, by decide⟩ ⟨by decide, by decide⟩ hS (fun _ h => h) hxt hlk (fun H1 h1 h2 => ⟨rfl, h1, h2⟩)

set_option maxHeartbeats 4000000 in
set_option maxRecDepth 100000 in
theorem ok_isSound (θ : TH) (l : Launch) (hl0 : l.stackTraces = false) (S0 : State) (H : Heap) (u : Nat → Nat) (dt sy sm sd : Nat → Int) (bc rf kn : Int) (hw : CWR θ S0 u H dt sy sm sd bc rf kn) : CT l yX1_isSound cX1_isSound 4 (some .boolean) 6 139 0 0 [.ref (u 0)] S0 H (fun v H1 => v = some (.int (iI 1)) ∧ H1 = H) (fun _ _ => False) (fun _ => False) := by
  refine ct_of (by decide +kernel) (Nat.le_of_ble_eq_true rfl) ?_
  intro pg en s mi args below meth co ls fx hs hr hlk hxt hin hl
  subst hs
  obtain ⟨hx, hb, hml, hown, hts⟩ := id fx.1
  have hS : va_S (fun _ : Nat => False) s.heap s.heap [] := va_S.rf
  obtain ⟨hz, hu, ⟨ho, ha1, ha2, ha3, ha4, hsb⟩, hd, hsp⟩ := id hw
  have hAB : ∀ q : Nat, (fun _ : Nat => False) q → θ.2.2.2 ≤ q := fun _ h => h.elim
  have hz0 := hz
  have hK := sz_K fx.2 hz
  refine q_con hx hb dX1_isSound_0 ?_
  refine lv_istore_n (lv' := [(1, .int (iI 0)), (0, .ref (u 0))]) hx hb dX1_isSound_1 rfl hl (by decide) rfl (fun ls hl => ?_)
  refine w_loop (nL := 4) (σ := Int) (fun x => (6 - x).toNat) (fun x => (0 ≤ x ∧ x ≤ 6)) (fun x => [(1, .int (iI x)), (0, .ref (u 0))]) ?_ (0 : Int) (by (try dsimp only); omega) (lv_sub hl [0, 1] rfl)
  intro x hI2 ih2 ls hl
  obtain ⟨j, rfl⟩ : ∃ z, z = x := ⟨_, rfl⟩
  (try dsimp only at hI2 ih2 hl ⊢)
  refine lv_iload_n hx hb dX1_isSound_2 rfl (lv_at hl 0 rfl) ?_
  refine q_bip hx hb dX1_isSound_3 (by decide) ?_
  refine q_cge (tgt := 83) hx hb dX1_isSound_5 (by decide) (by omega) (by omega) (fun c1 => ?_) (fun c1 => ?_)
  · refine q_con hx hb dX1_isSound_83 ?_
    exact e_z hx hb hr hlk (by decide) hS dX1_isSound_84 (Nat.le_refl _) (Nat.le_refl _) ⟨ex_i (by omega), rfl⟩
  · refine lv_aload_n hx hb dX1_isSound_8 rfl (lv_at hl 1 rfl) ?_
    refine r_get (θ := θ) (C := RX1) (T := TX1) (N := 8) (ci := 7) hx hb hts gwX1 hown hK ho rfl 0 (by decide) k73 (fun _ h => h) (v := .ref (u 1)) rfl dX1_isSound_9 ?_
    refine lv_iload_n hx hb dX1_isSound_12 rfl (lv_at hl 0 rfl) ?_
    refine r_iald (θ := θ) hx hb hK ha1 (i := j) (by omega) (by decide) dX1_isSound_13 ?_
    have tr2 := hd (j.toNat) (by omega)
    refine lv_istore_n (lv' := [(2, .int (iI (dt j.toNat))), (1, .int (iI j)), (0, .ref (u 0))]) hx hb dX1_isSound_14 rfl hl (by decide) rfl (fun ls hl => ?_)
    refine lv_iload_n hx hb dX1_isSound_15 rfl (lv_at hl 0 rfl) ?_
    refine c_P (As := [.int (iI (dt j.toNat))]) (rest := []) fx hl (pm_X0_isToldAnew l (dt j.toNat) (by omega)) dX1_isSound_16 k106 k107 k13 k108 hd_X0_isToldAnew rfl ⟨by decide, by decide⟩ (Nat.le_of_ble_eq_true rfl) ⟨by omega, by omega⟩ ?_
    refine q_ieq (tgt := 36) hx hb dX1_isSound_19 (by decide) (by omega) (fun c4 => ?_) (fun c4 => ?_)
    · refine q_con hx hb dX1_isSound_36 ?_
      exact e_z hx hb hr hlk (by decide) hS dX1_isSound_37 (Nat.le_refl _) (Nat.le_refl _) ⟨ex_i (by omega), rfl⟩
    · refine lv_iload_n hx hb dX1_isSound_22 rfl (lv_at hl 0 rfl) ?_
      refine c_P (As := [.int (iI (dt j.toNat))]) (rest := []) fx hl (pm_X0_isSoundByCycles l (dt j.toNat) (by omega)) dX1_isSound_23 k137 k138 k13 k139 hd_X0_isSoundByCycles rfl ⟨by decide, by decide⟩ (Nat.le_of_ble_eq_true rfl) ⟨by omega, by omega⟩ ?_
      refine q_ieq (tgt := 36) hx hb dX1_isSound_26 (by decide) (by omega) (fun c6 => ?_) (fun c6 => ?_)
      · refine q_con hx hb dX1_isSound_36 ?_
        exact e_z hx hb hr hlk (by decide) hS dX1_isSound_37 (Nat.le_refl _) (Nat.le_refl _) ⟨ex_i (by omega), rfl⟩
      · refine lv_iload_n hx hb dX1_isSound_29 rfl (lv_at hl 0 rfl) ?_
        refine c_P (As := [.int (iI (dt j.toNat))]) (rest := []) fx hl (pm_X0_isSoundByMonths l (dt j.toNat) (by omega)) dX1_isSound_30 k144 k145 k13 k146 hd_X0_isSoundByMonths rfl ⟨by decide, by decide⟩ (Nat.le_of_ble_eq_true rfl) ⟨by omega, by omega⟩ ?_
        refine q_ine (tgt := 38) hx hb dX1_isSound_33 (by decide) (by omega) (fun c8 => ?_) (fun c8 => ?_)
        · refine q_con hx hb dX1_isSound_38 ?_
          refine lv_istore_n (lv' := [(3, .int (iI 0)), (2, .int (iI (dt j.toNat))), (1, .int (iI j)), (0, .ref (u 0))]) hx hb dX1_isSound_39 rfl hl (by decide) rfl (fun ls hl => ?_)
          refine w_loop (nL := 4) (σ := Int) (fun x => (6 - x).toNat) (fun x => (0 ≤ x ∧ x ≤ 6)) (fun x => [(3, .int (iI x)), (2, .int (iI (dt j.toNat))), (1, .int (iI j)), (0, .ref (u 0))]) ?_ (0 : Int) (by (try dsimp only); omega) (lv_sub hl [0, 1, 2, 3] rfl)
          intro x hI40 ih40 ls hl
          obtain ⟨o, rfl⟩ : ∃ z, z = x := ⟨_, rfl⟩
          (try dsimp only at hI40 ih40 hl ⊢)
          refine lv_iload_n hx hb dX1_isSound_40 rfl (lv_at hl 0 rfl) ?_
          refine q_bip hx hb dX1_isSound_41 (by decide) ?_
          refine q_cge (tgt := 77) hx hb dX1_isSound_43 (by decide) (by omega) (by omega) (fun c9 => ?_) (fun c9 => ?_)
          · refine lv_iinc (v := iI (j + 1)) (lv' := [(1, .int (iI (j + 1))), (3, .int (iI o)), (2, .int (iI (dt j.toNat))), (0, .ref (u 0))]) hx hb dX1_isSound_77 hl (k := 2) rfl (iI_add _ _) (by decide) rfl (fun ls hl => ?_)
            refine lv_goto (tgt := 2) hx hb dX1_isSound_80 (by decide) ?_
            exact ih2 (j + 1) _ (by (try dsimp only); omega) (by (try dsimp only); omega) (lv_sub hl [0, 3] rfl)
          · refine lv_iload_n hx hb dX1_isSound_46 rfl (lv_at hl 1 rfl) ?_
            refine lv_aload_n hx hb dX1_isSound_47 rfl (lv_at hl 3 rfl) ?_
            refine r_get (θ := θ) (C := RX1) (T := TX1) (N := 8) (ci := 7) hx hb hts gwX1 hown hK ho rfl 0 (by decide) k73 (fun _ h => h) (v := .ref (u 1)) rfl dX1_isSound_48 ?_
            refine lv_iload_n hx hb dX1_isSound_51 rfl (lv_at hl 0 rfl) ?_
            refine r_iald (θ := θ) hx hb hK ha1 (i := o) (by omega) (by decide) dX1_isSound_52 ?_
            have tr10 := hd (o.toNat) (by omega)
            refine q_cgt (tgt := 71) hx hb dX1_isSound_53 (by decide) (by omega) (by omega) (fun c11 => ?_) (fun c11 => ?_)
            · refine lv_iinc (v := iI (o + 1)) (lv' := [(3, .int (iI (o + 1))), (2, .int (iI (dt j.toNat))), (1, .int (iI j)), (0, .ref (u 0))]) hx hb dX1_isSound_71 hl (k := 0) rfl (iI_add _ _) (by decide) rfl (fun ls hl => ?_)
              refine lv_goto (tgt := 40) hx hb dX1_isSound_74 (by decide) ?_
              exact ih40 (o + 1) _ (by (try dsimp only); omega) (by (try dsimp only); omega) (lv_sub hl [0, 1, 2, 3] rfl)
            · refine lv_iload_n hx hb dX1_isSound_56 rfl (lv_at hl 1 rfl) ?_
              refine lv_aload_n hx hb dX1_isSound_57 rfl (lv_at hl 3 rfl) ?_
              refine r_get (θ := θ) (C := RX1) (T := TX1) (N := 8) (ci := 7) hx hb hts gwX1 hown hK ho rfl 0 (by decide) k73 (fun _ h => h) (v := .ref (u 1)) rfl dX1_isSound_58 ?_
              refine lv_iload_n hx hb dX1_isSound_61 rfl (lv_at hl 0 rfl) ?_
              refine r_iald (θ := θ) hx hb hK ha1 (i := o) (by omega) (by decide) dX1_isSound_62 ?_
              have tr12 := hd (o.toNat) (by omega)
              refine c_P (As := [.int (iI (dt j.toNat)), .int (iI (dt o.toNat))]) (rest := []) fx hl (pm_X0_isSoundPair l (dt j.toNat) (dt o.toNat) (by omega) (by omega) (by omega)) dX1_isSound_63 k153 k154 k13 k155 hd_X0_isSoundPair rfl ⟨by decide, by decide⟩ (Nat.le_of_ble_eq_true rfl) ⟨by omega, by omega⟩ ?_
              refine q_ine (tgt := 71) hx hb dX1_isSound_66 (by decide) (by omega) (fun c14 => ?_) (fun c14 => ?_)
              · refine lv_iinc (v := iI (o + 1)) (lv' := [(3, .int (iI (o + 1))), (2, .int (iI (dt j.toNat))), (1, .int (iI j)), (0, .ref (u 0))]) hx hb dX1_isSound_71 hl (k := 0) rfl (iI_add _ _) (by decide) rfl (fun ls hl => ?_)
                refine lv_goto (tgt := 40) hx hb dX1_isSound_74 (by decide) ?_
                exact ih40 (o + 1) _ (by (try dsimp only); omega) (by (try dsimp only); omega) (lv_sub hl [0, 1, 2, 3] rfl)
              · refine q_con hx hb dX1_isSound_69 ?_
                exact e_z hx hb hr hlk (by decide) hS dX1_isSound_70 (Nat.le_refl _) (Nat.le_refl _) ⟨ex_i (by omega), rfl⟩
        · refine q_con hx hb dX1_isSound_36 ?_
          exact e_z hx hb hr hlk (by decide) hS dX1_isSound_37 (Nat.le_refl _) (Nat.le_refl _) ⟨ex_i (by omega), rfl⟩
