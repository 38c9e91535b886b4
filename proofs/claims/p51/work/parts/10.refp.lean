set_option maxHeartbeats 4000000 in
set_option maxRecDepth 100000 in
theorem pm_X3_isOut (l : Launch) (v lo hi : Int) (r : Int) (hr0 : (r = 1 ∧ (v < lo ∨ hi < v)) ∨ (r = 0 ∧ ¬ (v < lo ∨ hi < v))) (h_0 : -2147483648 ≤ v ∧ v < 2147483648) (h_1 : -2147483648 ≤ lo ∧ lo < 2147483648) (h_2 : -2147483648 ≤ hi ∧ hi < 2147483648) : PM l yX3_isOut cX3_isOut 3 (some .boolean) 0 0 [.int (iI v), .int (iI lo), .int (iI hi)] (.int (iI r)) := by
  intro S0 H
  refine ct_of (by decide +kernel) (Nat.le_of_ble_eq_true rfl) ?_
  intro pg en s mi args below meth co ls fx hs hr hlk hxt hin hl
  subst hs
  obtain ⟨hx, hb, hml, hown, hts⟩ := id fx.1
  have hS : va_S (fun _ => False) s.heap s.heap [] := va_S.rf
  refine lv_iload_n hx hb dX3_isOut_0 rfl (lv_at hl 0 rfl) ?_
  refine lv_iload_n hx hb dX3_isOut_1 rfl (lv_at hl 1 rfl) ?_
  refine q_clt (tgt := 10) hx hb dX3_isOut_2 (by decide) (by omega) (by omega) (fun c1 => ?_) (fun c1 => ?_)
  · refine q_con hx hb dX3_isOut_10 ?_
    refine lv_goto (tgt := 15) hx hb dX3_isOut_11 (by decide) ?_
    exact e_z hx hb hr hlk (by decide) hS dX3_isOut_15 (Nat.le_refl _) (Nat.le_refl _) ⟨ex_i (by omega), rfl⟩
  · refine lv_iload_n hx hb dX3_isOut_5 rfl (lv_at hl 0 rfl) ?_
    refine lv_iload_n hx hb dX3_isOut_6 rfl (lv_at hl 2 rfl) ?_
    refine q_cle (tgt := 14) hx hb dX3_isOut_7 (by decide) (by omega) (by omega) (fun c2 => ?_) (fun c2 => ?_)
    · refine q_con hx hb dX3_isOut_14 ?_
      exact e_z hx hb hr hlk (by decide) hS dX3_isOut_15 (Nat.le_refl _) (Nat.le_refl _) ⟨ex_i (by omega), rfl⟩
    · refine q_con hx hb dX3_isOut_10 ?_
      refine lv_goto (tgt := 15) hx hb dX3_isOut_11 (by decide) ?_
      exact e_z hx hb hr hlk (by decide) hS dX3_isOut_15 (Nat.le_refl _) (Nat.le_refl _) ⟨ex_i (by omega), rfl⟩

set_option maxHeartbeats 4000000 in
set_option maxRecDepth 100000 in
theorem pm_X3_isNo (l : Launch) (v : Int) (r : Int) (hr0 : (r = 1 ∧ (v < 0 ∨ 5 < v)) ∨ (r = 0 ∧ ¬ (v < 0 ∨ 5 < v))) (h_0 : -2147483648 ≤ v ∧ v < 2147483648) : PM l yX3_isNo cX3_isNo 1 (some .boolean) 1 22 [.int (iI v)] (.int (iI r)) := by
  intro S0 H
  refine ct_of (by decide +kernel) (Nat.le_of_ble_eq_true rfl) ?_
  intro pg en s mi args below meth co ls fx hs hr hlk hxt hin hl
  subst hs
  obtain ⟨hx, hb, hml, hown, hts⟩ := id fx.1
  have hS : va_S (fun _ => False) s.heap s.heap [] := va_S.rf
  refine lv_iload_n hx hb dX3_isNo_0 rfl (lv_at hl 0 rfl) ?_
  refine q_con hx hb dX3_isNo_1 ?_
  refine q_con hx hb dX3_isNo_2 ?_
  obtain ⟨r1, hr1⟩ := bex (v < 0 ∨ 5 < v)
  refine c_P (As := [.int (iI v), .int (iI 0), .int (iI 5)]) (rest := []) fx hl (pm_X3_isOut l v 0 5 r1 hr1 (by omega) (by omega) (by omega)) dX3_isNo_3 k1116 k1117 k6 k1118 hd_X3_isOut rfl ⟨by decide, by decide⟩ (Nat.le_of_ble_eq_true rfl) ⟨by omega, by omega⟩ ?_
  have br1 : r1 = 0 ∨ r1 = 1 := hr1.elim (fun h => Or.inr h.1) (fun h => Or.inl h.1)
  exact e_z hx hb hr hlk (br1) hS dX3_isNo_6 (Nat.le_refl _) (Nat.le_refl _) ⟨ex_i (by omega), rfl⟩

set_option maxHeartbeats 4000000 in
set_option maxRecDepth 100000 in
theorem pm_X3_isNoSpan (l : Launch) (v : Int) (r : Int) (hr0 : (r = 1 ∧ (v < 0 ∨ 2 < v)) ∨ (r = 0 ∧ ¬ (v < 0 ∨ 2 < v))) (h_0 : -2147483648 ≤ v ∧ v < 2147483648) : PM l yX3_isNoSpan cX3_isNoSpan 1 (some .boolean) 1 22 [.int (iI v)] (.int (iI r)) := by
  intro S0 H
  refine ct_of (by decide +kernel) (Nat.le_of_ble_eq_true rfl) ?_
  intro pg en s mi args below meth co ls fx hs hr hlk hxt hin hl
  subst hs
  obtain ⟨hx, hb, hml, hown, hts⟩ := id fx.1
  have hS : va_S (fun _ => False) s.heap s.heap [] := va_S.rf
  refine lv_iload_n hx hb dX3_isNoSpan_0 rfl (lv_at hl 0 rfl) ?_
  refine q_con hx hb dX3_isNoSpan_1 ?_
  refine q_con hx hb dX3_isNoSpan_2 ?_
  obtain ⟨r1, hr1⟩ := bex (v < 0 ∨ 2 < v)
  refine c_P (As := [.int (iI v), .int (iI 0), .int (iI 2)]) (rest := []) fx hl (pm_X3_isOut l v 0 2 r1 hr1 (by omega) (by omega) (by omega)) dX3_isNoSpan_3 k1116 k1117 k6 k1118 hd_X3_isOut rfl ⟨by decide, by decide⟩ (Nat.le_of_ble_eq_true rfl) ⟨by omega, by omega⟩ ?_
  have br1 : r1 = 0 ∨ r1 = 1 := hr1.elim (fun h => Or.inr h.1) (fun h => Or.inl h.1)
  exact e_z hx hb hr hlk (br1) hS dX3_isNoSpan_6 (Nat.le_refl _) (Nat.le_refl _) ⟨ex_i (by omega), rfl⟩

set_option maxHeartbeats 4000000 in
set_option maxRecDepth 100000 in
theorem pm_X3_isNoMonth (l : Launch) (v : Int) (r : Int) (hr0 : (r = 1 ∧ (v < -119988 ∨ 119999 < v)) ∨ (r = 0 ∧ ¬ (v < -119988 ∨ 119999 < v))) (h_0 : -2147483648 ≤ v ∧ v < 2147483648) : PM l yX3_isNoMonth cX3_isNoMonth 1 (some .boolean) 1 22 [.int (iI v)] (.int (iI r)) := by
  intro S0 H
  refine ct_of (by decide +kernel) (Nat.le_of_ble_eq_true rfl) ?_
  intro pg en s mi args below meth co ls fx hs hr hlk hxt hin hl
  subst hs
  obtain ⟨hx, hb, hml, hown, hts⟩ := id fx.1
  have hS : va_S (fun _ => False) s.heap s.heap [] := va_S.rf
  refine lv_iload_n hx hb dX3_isNoMonth_0 rfl (lv_at hl 0 rfl) ?_
  refine q_ldc (n := -119988) hx hb hown (hts _ k1156) (by decide) dX3_isNoMonth_1 ?_
  refine q_ldc (n := 119999) hx hb hown (hts _ k1157) (by decide) dX3_isNoMonth_3 ?_
  obtain ⟨r1, hr1⟩ := bex (v < (-119988) ∨ 119999 < v)
  refine c_P (As := [.int (iI v), .int (iI (-119988)), .int (iI 119999)]) (rest := []) fx hl (pm_X3_isOut l v (-119988) 119999 r1 hr1 (by omega) (by omega) (by omega)) dX3_isNoMonth_5 k1116 k1117 k6 k1118 hd_X3_isOut rfl ⟨by decide, by decide⟩ (Nat.le_of_ble_eq_true rfl) ⟨by omega, by omega⟩ ?_
  have br1 : r1 = 0 ∨ r1 = 1 := hr1.elim (fun h => Or.inr h.1) (fun h => Or.inl h.1)
  exact e_z hx hb hr hlk (br1) hS dX3_isNoMonth_8 (Nat.le_refl _) (Nat.le_refl _) ⟨ex_i (by omega), rfl⟩

set_option maxHeartbeats 4000000 in
set_option maxRecDepth 100000 in
theorem pm_X3_areNo (l : Launch) (v u : Int) (r : Int) (hr0 : (r = 1 ∧ ((v < 0 ∨ 5 < v) ∨ (u < 0 ∨ 5 < u))) ∨ (r = 0 ∧ ¬ ((v < 0 ∨ 5 < v) ∨ (u < 0 ∨ 5 < u)))) (h_0 : -2147483648 ≤ v ∧ v < 2147483648) (h_1 : -2147483648 ≤ u ∧ u < 2147483648) : PM l yX3_areNo cX3_areNo 2 (some .boolean) 2 42 [.int (iI v), .int (iI u)] (.int (iI r)) := by
  intro S0 H
  refine ct_of (by decide +kernel) (Nat.le_of_ble_eq_true rfl) ?_
  intro pg en s mi args below meth co ls fx hs hr hlk hxt hin hl
  subst hs
  obtain ⟨hx, hb, hml, hown, hts⟩ := id fx.1
  have hS : va_S (fun _ => False) s.heap s.heap [] := va_S.rf
  refine lv_iload_n hx hb dX3_areNo_0 rfl (lv_at hl 0 rfl) ?_
  obtain ⟨r1, hr1⟩ := bex (v < 0 ∨ 5 < v)
  refine c_P (As := [.int (iI v)]) (rest := []) fx hl (pm_X3_isNo l v r1 hr1 (by omega)) dX3_areNo_1 k1113 k1114 k6 k1115 hd_X3_isNo rfl ⟨by decide, by decide⟩ (Nat.le_of_ble_eq_true rfl) ⟨by omega, by omega⟩ ?_
  have br1 : r1 = 0 ∨ r1 = 1 := hr1.elim (fun h => Or.inr h.1) (fun h => Or.inl h.1)
  refine q_ine (tgt := 14) hx hb dX3_areNo_4 (by decide) (by omega) (fun c2 => ?_) (fun c2 => ?_)
  · refine q_con hx hb dX3_areNo_14 ?_
    refine lv_goto (tgt := 19) hx hb dX3_areNo_15 (by decide) ?_
    exact e_z hx hb hr hlk (by decide) hS dX3_areNo_19 (Nat.le_refl _) (Nat.le_refl _) ⟨ex_i (by omega), rfl⟩
  · refine lv_iload_n hx hb dX3_areNo_7 rfl (lv_at hl 1 rfl) ?_
    obtain ⟨r3, hr3⟩ := bex (u < 0 ∨ 5 < u)
    refine c_P (As := [.int (iI u)]) (rest := []) fx hl (pm_X3_isNo l u r3 hr3 (by omega)) dX3_areNo_8 k1113 k1114 k6 k1115 hd_X3_isNo rfl ⟨by decide, by decide⟩ (Nat.le_of_ble_eq_true rfl) ⟨by omega, by omega⟩ ?_
    have br3 : r3 = 0 ∨ r3 = 1 := hr3.elim (fun h => Or.inr h.1) (fun h => Or.inl h.1)
    refine q_ieq (tgt := 18) hx hb dX3_areNo_11 (by decide) (by omega) (fun c4 => ?_) (fun c4 => ?_)
    · refine q_con hx hb dX3_areNo_18 ?_
      exact e_z hx hb hr hlk (by decide) hS dX3_areNo_19 (Nat.le_refl _) (Nat.le_refl _) ⟨ex_i (by omega), rfl⟩
    · refine q_con hx hb dX3_areNo_14 ?_
      refine lv_goto (tgt := 19) hx hb dX3_areNo_15 (by decide) ?_
      exact e_z hx hb hr hlk (by decide) hS dX3_areNo_19 (Nat.le_refl _) (Nat.le_refl _) ⟨ex_i (by omega), rfl⟩

set_option maxHeartbeats 4000000 in
set_option maxRecDepth 100000 in
theorem pm_X3_one (l : Launch) (q : Int) (h_0 : q = 0 ∨ q = 1) : PM l yX3_one cX3_one 1 (some .int) 0 0 [.int (iI q)] (.int (iI q)) := by
  intro S0 H
  refine ct_of (by decide +kernel) (Nat.le_of_ble_eq_true rfl) ?_
  intro pg en s mi args below meth co ls fx hs hr hlk hxt hin hl
  subst hs
  obtain ⟨hx, hb, hml, hown, hts⟩ := id fx.1
  have hS : va_S (fun _ => False) s.heap s.heap [] := va_S.rf
  refine lv_iload_n hx hb dX3_one_0 rfl (lv_at hl 0 rfl) ?_
  refine q_ieq (tgt := 8) hx hb dX3_one_1 (by decide) (by omega) (fun c1 => ?_) (fun c1 => ?_)
  · refine q_con hx hb dX3_one_8 ?_
    exact e_i hx hb hr hlk hS dX3_one_9 (Nat.le_refl _) (Nat.le_refl _) ⟨ex_i (by omega), rfl⟩
  · refine q_con hx hb dX3_one_4 ?_
    refine lv_goto (tgt := 9) hx hb dX3_one_5 (by decide) ?_
    exact e_i hx hb hr hlk hS dX3_one_9 (Nat.le_refl _) (Nat.le_refl _) ⟨ex_i (by omega), rfl⟩

set_option maxHeartbeats 4000000 in
set_option maxRecDepth 100000 in
theorem pm_X3_down (l : Launch) (a b : Int) (h_0 : -1000000000 ≤ a ∧ a ≤ 1000000000) (h_1 : 0 < b ∧ b ≤ 1000000) : PM l yX3_down cX3_down 2 (some .int) 0 0 [.int (iI a), .int (iI b)] (.int (iI (a / b))) := by
  intro S0 H
  refine ct_of (by decide +kernel) (Nat.le_of_ble_eq_true rfl) ?_
  intro pg en s mi args below meth co ls fx hs hr hlk hxt hin hl
  subst hs
  obtain ⟨hx, hb, hml, hown, hts⟩ := id fx.1
  have hS : va_S (fun _ => False) s.heap s.heap [] := va_S.rf
  have tt1 := dn_neg a b (by omega)
  refine lv_iload_n hx hb dX3_down_0 rfl (lv_at hl 0 rfl) ?_
  refine q_ilt (tgt := 10) hx hb dX3_down_1 (by decide) (by omega) (fun c1 => ?_) (fun c1 => ?_)
  · refine lv_iload_n hx hb dX3_down_10 rfl (lv_at hl 1 rfl) ?_
    refine q_con hx hb dX3_down_11 ?_
    refine q_sub hx hb dX3_down_12 ?_
    refine lv_iload_n hx hb dX3_down_13 rfl (lv_at hl 0 rfl) ?_
    refine q_sub hx hb dX3_down_14 ?_
    refine lv_iload_n hx hb dX3_down_15 rfl (lv_at hl 1 rfl) ?_
    refine q_div hx hb dX3_down_16 (by omega) (by omega) ?_
    refine q_nm (fun z2 ez2 => ?_)
    have hfz2 := fdivv ((b - 1) - a) b (by omega)
    rw [← ez2] at hfz2
    refine q_neg hx hb dX3_down_17 ?_
    exact e_i hx hb hr hlk hS dX3_down_18 (Nat.le_refl _) (Nat.le_refl _) ⟨ex_i (by omega), rfl⟩
  · refine lv_iload_n hx hb dX3_down_4 rfl (lv_at hl 0 rfl) ?_
    refine lv_iload_n hx hb dX3_down_5 rfl (lv_at hl 1 rfl) ?_
    refine q_div hx hb dX3_down_6 (by omega) (by omega) ?_
    refine q_nm (fun z3 ez3 => ?_)
    have hfz3 := fdivv a b (by omega)
    rw [← ez3] at hfz3
    refine lv_goto (tgt := 18) hx hb dX3_down_7 (by decide) ?_
    exact e_i hx hb hr hlk hS dX3_down_18 (Nat.le_refl _) (Nat.le_refl _) ⟨ex_i (by omega), rfl⟩

set_option maxHeartbeats 4000000 in
set_option maxRecDepth 100000 in
theorem pm_X3_left (l : Launch) (a b : Int) (h_0 : -1000000000 ≤ a ∧ a ≤ 1000000000) (h_1 : 0 < b ∧ b ≤ 1000000) : PM l yX3_left cX3_left 2 (some .int) 1 21 [.int (iI a), .int (iI b)] (.int (iI (a % b))) := by
  intro S0 H
  refine ct_of (by decide +kernel) (Nat.le_of_ble_eq_true rfl) ?_
  intro pg en s mi args below meth co ls fx hs hr hlk hxt hin hl
  subst hs
  obtain ⟨hx, hb, hml, hown, hts⟩ := id fx.1
  have hS : va_S (fun _ => False) s.heap s.heap [] := va_S.rf
  refine lv_iload_n hx hb dX3_left_0 rfl (lv_at hl 0 rfl) ?_
  refine lv_iload_n hx hb dX3_left_1 rfl (lv_at hl 1 rfl) ?_
  refine lv_iload_n hx hb dX3_left_2 rfl (lv_at hl 0 rfl) ?_
  refine lv_iload_n hx hb dX3_left_3 rfl (lv_at hl 1 rfl) ?_
  refine c_P (As := [.int (iI a), .int (iI b)]) (rest := [.int (iI b), .int (iI a)]) fx hl (pm_X3_down l a b (by omega) (by omega)) dX3_left_4 k1073 k1074 k6 k1075 hd_X3_down rfl ⟨by decide, by decide⟩ (Nat.le_of_ble_eq_true rfl) ⟨by omega, by omega⟩ ?_
  refine q_nm (fun z1 ez1 => ?_)
  refine q_mul hx hb dX3_left_7 ?_
  refine q_sub hx hb dX3_left_8 ?_
  exact e_i hx hb hr hlk hS dX3_left_9 (Nat.le_refl _) (Nat.le_refl _) ⟨ex_i (by subst_vars; exact (Int.emod_def _ _).symm), rfl⟩

set_option maxHeartbeats 4000000 in
set_option maxRecDepth 100000 in
theorem pm_X3_isLeap (l : Launch) (y : Int) (r : Int) (hr0 : (r = 1 ∧ (lpI y)) ∨ (r = 0 ∧ ¬ (lpI y))) (h_0 : -1000000000 ≤ y ∧ y ≤ 1000000000) : PM l yX3_isLeap cX3_isLeap 1 (some .boolean) 2 42 [.int (iI y)] (.int (iI r)) := by
  intro S0 H
  refine ct_of (by decide +kernel) (Nat.le_of_ble_eq_true rfl) ?_
  intro pg en s mi args below meth co ls fx hs hr hlk hxt hin hl
  subst hs
  obtain ⟨hx, hb, hml, hown, hts⟩ := id fx.1
  have hS : va_S (fun _ => False) s.heap s.heap [] := va_S.rf
  refine lv_iload_n hx hb dX3_isLeap_0 rfl (lv_at hl 0 rfl) ?_
  refine q_con hx hb dX3_isLeap_1 ?_
  refine c_P (As := [.int (iI y), .int (iI 4)]) (rest := []) fx hl (pm_X3_left l y 4 (by omega) (by omega)) dX3_isLeap_2 k1082 k1083 k6 k1084 hd_X3_left rfl ⟨by decide, by decide⟩ (Nat.le_of_ble_eq_true rfl) ⟨by omega, by omega⟩ ?_
  refine q_nm (fun z1 ez1 => ?_)
  refine q_ine (tgt := 31) hx hb dX3_isLeap_5 (by decide) (by omega) (fun c2 => ?_) (fun c2 => ?_)
  · refine q_con hx hb dX3_isLeap_31 ?_
    exact e_z hx hb hr hlk (by decide) hS dX3_isLeap_32 (Nat.le_refl _) (Nat.le_refl _) ⟨ex_i (by unfold lpI at hr0; omega), rfl⟩
  · refine lv_iload_n hx hb dX3_isLeap_8 rfl (lv_at hl 0 rfl) ?_
    refine q_bip hx hb dX3_isLeap_9 (by decide) ?_
    refine c_P (As := [.int (iI y), .int (iI 100)]) (rest := []) fx hl (pm_X3_left l y 100 (by omega) (by omega)) dX3_isLeap_11 k1082 k1083 k6 k1084 hd_X3_left rfl ⟨by decide, by decide⟩ (Nat.le_of_ble_eq_true rfl) ⟨by omega, by omega⟩ ?_
    refine q_nm (fun z3 ez3 => ?_)
    refine q_ine (tgt := 27) hx hb dX3_isLeap_14 (by decide) (by omega) (fun c4 => ?_) (fun c4 => ?_)
    · refine q_con hx hb dX3_isLeap_27 ?_
      refine lv_goto (tgt := 32) hx hb dX3_isLeap_28 (by decide) ?_
      exact e_z hx hb hr hlk (by decide) hS dX3_isLeap_32 (Nat.le_refl _) (Nat.le_refl _) ⟨ex_i (by unfold lpI at hr0; omega), rfl⟩
    · refine lv_iload_n hx hb dX3_isLeap_17 rfl (lv_at hl 0 rfl) ?_
      refine q_sip hx hb dX3_isLeap_18 (by decide) ?_
      refine c_P (As := [.int (iI y), .int (iI 400)]) (rest := []) fx hl (pm_X3_left l y 400 (by omega) (by omega)) dX3_isLeap_21 k1082 k1083 k6 k1084 hd_X3_left rfl ⟨by decide, by decide⟩ (Nat.le_of_ble_eq_true rfl) ⟨by omega, by omega⟩ ?_
      refine q_nm (fun z5 ez5 => ?_)
      refine q_ine (tgt := 31) hx hb dX3_isLeap_24 (by decide) (by omega) (fun c6 => ?_) (fun c6 => ?_)
      · refine q_con hx hb dX3_isLeap_31 ?_
        exact e_z hx hb hr hlk (by decide) hS dX3_isLeap_32 (Nat.le_refl _) (Nat.le_refl _) ⟨ex_i (by unfold lpI at hr0; omega), rfl⟩
      · refine q_con hx hb dX3_isLeap_27 ?_
        refine lv_goto (tgt := 32) hx hb dX3_isLeap_28 (by decide) ?_
        exact e_z hx hb hr hlk (by decide) hS dX3_isLeap_32 (Nat.le_refl _) (Nat.le_refl _) ⟨ex_i (by unfold lpI at hr0; omega), rfl⟩

set_option maxHeartbeats 4000000 in
set_option maxRecDepth 100000 in
theorem pm_X3_weekdayOf (l : Launch) (d : Int) (h_0 : -900000000 ≤ d ∧ d ≤ 900000000) : PM l yX3_weekdayOf cX3_weekdayOf 1 (some .int) 2 42 [.int (iI d)] (.int (iI (wI d))) := by
  intro S0 H
  refine ct_of (by decide +kernel) (Nat.le_of_ble_eq_true rfl) ?_
  intro pg en s mi args below meth co ls fx hs hr hlk hxt hin hl
  subst hs
  obtain ⟨hx, hb, hml, hown, hts⟩ := id fx.1
  have hS : va_S (fun _ => False) s.heap s.heap [] := va_S.rf
  refine q_con hx hb dX3_weekdayOf_0 ?_
  refine lv_iload_n hx hb dX3_weekdayOf_1 rfl (lv_at hl 0 rfl) ?_
  refine q_con hx hb dX3_weekdayOf_2 ?_
  refine q_add hx hb dX3_weekdayOf_3 ?_
  refine q_bip hx hb dX3_weekdayOf_4 (by decide) ?_
  refine c_P (As := [.int (iI (d + 3)), .int (iI 7)]) (rest := [.int (iI 1)]) fx hl (pm_X3_left l (d + 3) 7 (by omega) (by omega)) dX3_weekdayOf_6 k1082 k1083 k6 k1084 hd_X3_left rfl ⟨by decide, by decide⟩ (Nat.le_of_ble_eq_true rfl) ⟨by omega, by omega⟩ ?_
  refine q_nm (fun z1 ez1 => ?_)
  refine q_add hx hb dX3_weekdayOf_9 ?_
  exact e_i hx hb hr hlk hS dX3_weekdayOf_10 (Nat.le_refl _) (Nat.le_refl _) ⟨ex_i (by unfold wI; subst_vars; omega), rfl⟩

set_option maxHeartbeats 4000000 in
set_option maxRecDepth 100000 in
theorem pm_X3_length (θ : TH) (l : Launch) (S0 : State) (H : Heap) (hz : SZ θ S0 H) (m : Int) (h_0 : -20000000 ≤ m ∧ m ≤ 20000000) : CT l yX3_length cX3_length 2 (some .int) 3 62 0 0 [.int (iI m)] S0 H (fun v H1 => v = some (.int (iI (fI (m + 1) - fI m))) ∧ H1 = H) (fun _ _ => False) (fun _ => False) := by
  refine ct_of (by decide +kernel) (Nat.le_of_ble_eq_true rfl) ?_
  intro pg en s mi args below meth co ls fx hs hr hlk hxt hin hl
  subst hs
  obtain ⟨hx, hb, hml, hown, hts⟩ := id fx.1
  have hS : va_S (fun _ => False) s.heap s.heap [] := va_S.rf
  have hAB : ∀ q : Nat, (fun _ => False : Nat → Prop) q → θ.2.2.2 ≤ q := fun _ h => h.elim
  have hz0 := hz
  have hK := sz_K fx.2 hz
  have lt1 := (len_t m).1
  have lt2 := (len_t m).2.1
  have lt3 := (len_t m).2.2.1
  have lt4 := (len_t m).2.2.2
  have lv := LEN_v (m % 12) (by omega)
  refine lv_iload_n hx hb dX3_length_0 rfl (lv_at hl 0 rfl) ?_
  refine q_bip hx hb dX3_length_1 (by decide) ?_
  refine c_P (As := [.int (iI m), .int (iI 12)]) (rest := []) fx hl (pm_X3_left l m 12 (by omega) (by omega)) dX3_length_3 k1082 k1083 k6 k1084 hd_X3_left rfl ⟨by decide, by decide⟩ (Nat.le_of_ble_eq_true rfl) ⟨by omega, by omega⟩ ?_
  refine q_nm (fun z1 ez1 => ?_)
  refine lv_istore_n (lv' := [(1, .int (iI z1)), (0, .int (iI m))]) hx hb dX3_length_6 rfl hl (by decide) rfl (fun ls hl => ?_)
  refine lv_iload_n hx hb dX3_length_7 rfl (lv_at hl 0 rfl) ?_
  refine q_con hx hb dX3_length_8 ?_
  refine q_cne (tgt := 29) hx hb dX3_length_9 (by decide) (by omega) (by omega) (fun c2 => ?_) (fun c2 => ?_)
  · refine r_gets (θ := θ) hx hb fx.2 hz0.2.2.1.1 hAB hS hown (hts _ k1088) dX3_length_29 ?_
    refine lv_iload_n hx hb dX3_length_32 rfl (lv_at hl 0 rfl) ?_
    refine r_ildz hx hb fx.2 hz.2.2.1.2.1 (i := z1) (by omega) (by decide) dX3_length_33 ?_
    exact e_i hx hb hr hlk hS dX3_length_34 (Nat.le_refl _) (Nat.le_refl _) ⟨ex_i (by subst_vars; omega), rfl⟩
  · refine lv_iload_n hx hb dX3_length_12 rfl (lv_at hl 1 rfl) ?_
    refine q_bip hx hb dX3_length_13 (by decide) ?_
    refine c_P (As := [.int (iI m), .int (iI 12)]) (rest := []) fx hl (pm_X3_down l m 12 (by omega) (by omega)) dX3_length_15 k1073 k1074 k6 k1075 hd_X3_down rfl ⟨by decide, by decide⟩ (Nat.le_of_ble_eq_true rfl) ⟨by omega, by omega⟩ ?_
    refine q_nm (fun z3 ez3 => ?_)
    obtain ⟨r4, hr4⟩ := bex (lpI z3)
    refine c_P (As := [.int (iI z3)]) (rest := []) fx hl (pm_X3_isLeap l z3 r4 hr4 (by omega)) dX3_length_18 k1079 k1080 k6 k1081 hd_X3_isLeap rfl ⟨by decide, by decide⟩ (Nat.le_of_ble_eq_true rfl) ⟨by omega, by omega⟩ ?_
    have br4 : r4 = 0 ∨ r4 = 1 := hr4.elim (fun h => Or.inr h.1) (fun h => Or.inl h.1)
    refine q_ieq (tgt := 29) hx hb dX3_length_21 (by decide) (by omega) (fun c5 => ?_) (fun c5 => ?_)
    · refine r_gets (θ := θ) hx hb fx.2 hz0.2.2.1.1 hAB hS hown (hts _ k1088) dX3_length_29 ?_
      refine lv_iload_n hx hb dX3_length_32 rfl (lv_at hl 0 rfl) ?_
      refine r_ildz hx hb fx.2 hz.2.2.1.2.1 (i := z1) (by omega) (by decide) dX3_length_33 ?_
      exact e_i hx hb hr hlk hS dX3_length_34 (Nat.le_refl _) (Nat.le_refl _) ⟨ex_i (by subst_vars; rcases hr4 with ⟨q1, q2⟩ | ⟨q1, q2⟩ <;> first | omega | (have lt5 := fun z => lt3 z q2; omega) | (have lt5 := fun z => lt4 z q2; omega)), rfl⟩
    · refine q_bip hx hb dX3_length_24 (by decide) ?_
      refine lv_goto (tgt := 34) hx hb dX3_length_26 (by decide) ?_
      exact e_i hx hb hr hlk hS dX3_length_34 (Nat.le_refl _) (Nat.le_refl _) ⟨ex_i (by subst_vars; rcases hr4 with ⟨q1, q2⟩ | ⟨q1, q2⟩ <;> first | omega | (have lt5 := fun z => lt3 z q2; omega) | (have lt5 := fun z => lt4 z q2; omega)), rfl⟩

set_option maxHeartbeats 4000000 in
set_option maxRecDepth 100000 in
theorem pm_X3_daysOf (l : Launch) (y : Int) (h_0 : -2000000 ≤ y ∧ y ≤ 2000000) : PM l yX3_daysOf cX3_daysOf 1 (some .int) 3 62 [.int (iI y)] (.int (iI (fI (12 * y + 12) - fI (12 * y)))) := by
  intro S0 H
  refine ct_of (by decide +kernel) (Nat.le_of_ble_eq_true rfl) ?_
  intro pg en s mi args below meth co ls fx hs hr hlk hxt hin hl
  subst hs
  obtain ⟨hx, hb, hml, hown, hts⟩ := id fx.1
  have hS : va_S (fun _ => False) s.heap s.heap [] := va_S.rf
  have lt1 := (yr_len y).1
  have lt2 := (yr_len y).2
  refine lv_iload_n hx hb dX3_daysOf_0 rfl (lv_at hl 0 rfl) ?_
  obtain ⟨r1, hr1⟩ := bex (lpI y)
  refine c_P (As := [.int (iI y)]) (rest := []) fx hl (pm_X3_isLeap l y r1 hr1 (by omega)) dX3_daysOf_1 k1079 k1080 k6 k1081 hd_X3_isLeap rfl ⟨by decide, by decide⟩ (Nat.le_of_ble_eq_true rfl) ⟨by omega, by omega⟩ ?_
  have br1 : r1 = 0 ∨ r1 = 1 := hr1.elim (fun h => Or.inr h.1) (fun h => Or.inl h.1)
  refine q_ieq (tgt := 13) hx hb dX3_daysOf_4 (by decide) (by omega) (fun c2 => ?_) (fun c2 => ?_)
  · refine q_sip hx hb dX3_daysOf_13 (by decide) ?_
    exact e_i hx hb hr hlk hS dX3_daysOf_16 (Nat.le_refl _) (Nat.le_refl _) ⟨ex_i (by rcases hr1 with ⟨q1, q2⟩ | ⟨q1, q2⟩ <;> first | omega | (have lt5 := lt1 q2; omega) | (have lt5 := lt2 q2; omega)), rfl⟩
  · refine q_sip hx hb dX3_daysOf_7 (by decide) ?_
    refine lv_goto (tgt := 16) hx hb dX3_daysOf_10 (by decide) ?_
    exact e_i hx hb hr hlk hS dX3_daysOf_16 (Nat.le_refl _) (Nat.le_refl _) ⟨ex_i (by rcases hr1 with ⟨q1, q2⟩ | ⟨q1, q2⟩ <;> first | omega | (have lt5 := lt1 q2; omega) | (have lt5 := lt2 q2; omega)), rfl⟩

set_option maxHeartbeats 4000000 in
set_option maxRecDepth 100000 in
theorem pm_X3_begin (θ : TH) (l : Launch) (S0 : State) (H : Heap) (hz : SZ θ S0 H) (m : Int) (h_0 : -14000000 ≤ m ∧ m ≤ 14000000) : CT l yX3_begin cX3_begin 5 (some .int) 4 83 0 0 [.int (iI m)] S0 H (fun v H1 => v = some (.int (iI (fI m))) ∧ H1 = H) (fun _ _ => False) (fun _ => False) := by
  refine ct_of (by decide +kernel) (Nat.le_of_ble_eq_true rfl) ?_
  intro pg en s mi args below meth co ls fx hs hr hlk hxt hin hl
  subst hs
  obtain ⟨hx, hb, hml, hown, hts⟩ := id fx.1
  have hS : va_S (fun _ => False) s.heap s.heap [] := va_S.rf
  have hAB : ∀ q : Nat, (fun _ => False : Nat → Prop) q → θ.2.2.2 ≤ q := fun _ h => h.elim
  have hz0 := hz
  have hK := sz_K fx.2 hz
  have tt1 := fI_bd m
  refine lv_iload_n hx hb dX3_begin_0 rfl (lv_at hl 0 rfl) ?_
  refine q_bip hx hb dX3_begin_1 (by decide) ?_
  refine c_P (As := [.int (iI m), .int (iI 12)]) (rest := []) fx hl (pm_X3_down l m 12 (by omega) (by omega)) dX3_begin_3 k1073 k1074 k6 k1075 hd_X3_down rfl ⟨by decide, by decide⟩ (Nat.le_of_ble_eq_true rfl) ⟨by omega, by omega⟩ ?_
  refine q_nm (fun z1 ez1 => ?_)
  refine lv_istore_n (lv' := [(1, .int (iI z1)), (0, .int (iI m))]) hx hb dX3_begin_6 rfl hl (by decide) rfl (fun ls hl => ?_)
  refine lv_iload_n hx hb dX3_begin_7 rfl (lv_at hl 0 rfl) ?_
  refine q_sip hx hb dX3_begin_8 (by decide) ?_
  refine c_P (As := [.int (iI z1), .int (iI 400)]) (rest := []) fx hl (pm_X3_down l z1 400 (by omega) (by omega)) dX3_begin_11 k1073 k1074 k6 k1075 hd_X3_down rfl ⟨by decide, by decide⟩ (Nat.le_of_ble_eq_true rfl) ⟨by omega, by omega⟩ ?_
  refine q_nm (fun z2 ez2 => ?_)
  refine lv_istore_n (lv' := [(2, .int (iI z2)), (1, .int (iI z1)), (0, .int (iI m))]) hx hb dX3_begin_14 rfl hl (by decide) rfl (fun ls hl => ?_)
  refine lv_iload_n hx hb dX3_begin_15 rfl (lv_at hl 0 rfl) ?_
  refine q_ldc (n := 146097) hx hb hown (hts _ k1072) (by decide) dX3_begin_16 ?_
  refine q_mul hx hb dX3_begin_18 ?_
  refine q_ldc (n := 719528) hx hb hown (hts _ k1071) (by decide) dX3_begin_19 ?_
  refine q_sub hx hb dX3_begin_21 ?_
  refine q_nm (fun z3 ez3 => ?_)
  refine lv_istore_n (lv' := [(3, .int (iI z3)), (2, .int (iI z2)), (1, .int (iI z1)), (0, .int (iI m))]) hx hb dX3_begin_22 rfl hl (by decide) rfl (fun ls hl => ?_)
  refine q_sip hx hb dX3_begin_23 (by decide) ?_
  refine lv_iload_n hx hb dX3_begin_26 rfl (lv_at hl 1 rfl) ?_
  refine q_mul hx hb dX3_begin_27 ?_
  refine q_nm (fun z4 ez4 => ?_)
  refine lv_istore (lv' := [(4, .int (iI z4)), (3, .int (iI z3)), (2, .int (iI z2)), (1, .int (iI z1)), (0, .int (iI m))]) hx hb dX3_begin_28 hl (by decide) rfl (fun ls hl => ?_)
  refine w_loop (nL := 5) (σ := Int × Int) (fun x => (m / 12 - x.2).toNat) (fun x => (x.1 = fI (12 * x.2)) ∧ (x.2 ≤ m / 12) ∧ (-1300000 ≤ x.2)) (fun x => [(3, .int (iI x.1)), (4, .int (iI x.2)), (2, .int (iI z2)), (1, .int (iI z1)), (0, .int (iI m))]) ?_ ((z3 : Int), (z4 : Int)) ⟨by (try dsimp only); (first | omega | (have q7 := fI_400 (m / 12 / 400); subst_vars; omega)), by (try dsimp only); (first | omega | (have q7 := fI_400 (m / 12 / 400); subst_vars; omega)), by (try dsimp only); (first | omega | (have q7 := fI_400 (m / 12 / 400); subst_vars; omega))⟩ (lv_sub hl [1, 0, 2, 3, 4] rfl)
  intro x hI30 ih30 ls hl
  obtain ⟨dd, k⟩ := x
  (try dsimp only at hI30 ih30 hl ⊢)
  refine lv_iload hx hb dX3_begin_30 (lv_at hl 1 rfl) ?_
  refine lv_iload_n hx hb dX3_begin_32 rfl (lv_at hl 3 rfl) ?_
  refine q_cge (tgt := 50) hx hb dX3_begin_33 (by decide) (by omega) (by omega) (fun c5 => ?_) (fun c5 => ?_)
  · refine q_bip hx hb dX3_begin_50 (by decide) ?_
    refine lv_iload_n hx hb dX3_begin_52 rfl (lv_at hl 3 rfl) ?_
    refine q_mul hx hb dX3_begin_53 ?_
    refine q_nm (fun z6 ez6 => ?_)
    refine lv_istore (lv' := [(4, .int (iI z6)), (3, .int (iI dd)), (2, .int (iI z2)), (1, .int (iI z1)), (0, .int (iI m))]) hx hb dX3_begin_54 hl (by decide) rfl (fun ls hl => ?_)
    have q8 : fI (12 * k) = fI (z6) := congrArg fI (by omega)
    refine w_loop (nL := 5) (σ := Int × Int) (fun x => (m - x.2).toNat) (fun x => (x.1 = fI x.2) ∧ (x.2 ≤ m) ∧ (-20000000 ≤ x.2)) (fun x => [(3, .int (iI x.1)), (4, .int (iI x.2)), (2, .int (iI z2)), (1, .int (iI z1)), (0, .int (iI m))]) ?_ ((dd : Int), (z6 : Int)) ⟨by (try dsimp only); omega, by (try dsimp only); omega, by (try dsimp only); omega⟩ (lv_sub hl [1, 0, 2, 3, 4] rfl)
    intro x hI56 ih56 ls hl
    obtain ⟨dd2, k2⟩ := x
    (try dsimp only at hI56 ih56 hl ⊢)
    refine lv_iload hx hb dX3_begin_56 (lv_at hl 1 rfl) ?_
    refine lv_iload_n hx hb dX3_begin_58 rfl (lv_at hl 4 rfl) ?_
    refine q_cge (tgt := 76) hx hb dX3_begin_59 (by decide) (by omega) (by omega) (fun c7 => ?_) (fun c7 => ?_)
    · refine lv_iload_n hx hb dX3_begin_76 rfl (lv_at hl 0 rfl) ?_
      exact e_i hx hb hr hlk hS dX3_begin_77 (Nat.le_refl _) (Nat.le_refl _) ⟨ex_i (by rw [show m = k2 by omega]; omega), rfl⟩
    · refine lv_iload_n hx hb dX3_begin_62 rfl (lv_at hl 0 rfl) ?_
      refine lv_iload hx hb dX3_begin_63 (lv_at hl 1 rfl) ?_
      refine c_H (As := [.int (iI k2)]) (rest := [.int (iI dd2)]) fx hl (pm_X3_length θ l S0 _ hz k2 (by omega)) dX3_begin_65 k1085 k1086 k6 k1087 hd_X3_length rfl ⟨by decide, by decide⟩ (Nat.le_of_ble_eq_true rfl) ⟨by dsimp only; omega, by dsimp only; omega⟩ ?_
      refine q_nm (fun z8 ez8 => ?_)
      have t0z8 := len_b k2
      refine q_add hx hb dX3_begin_68 ?_
      refine q_nm (fun z9 ez9 => ?_)
      refine lv_istore_n (lv' := [(3, .int (iI z9)), (4, .int (iI k2)), (2, .int (iI z2)), (1, .int (iI z1)), (0, .int (iI m))]) hx hb dX3_begin_69 rfl hl (by decide) rfl (fun ls hl => ?_)
      refine lv_iinc (v := iI (k2 + 1)) (lv' := [(4, .int (iI (k2 + 1))), (3, .int (iI z9)), (2, .int (iI z2)), (1, .int (iI z1)), (0, .int (iI m))]) hx hb dX3_begin_70 hl (k := 1) rfl (iI_add _ _) (by decide) rfl (fun ls hl => ?_)
      refine lv_goto (tgt := 56) hx hb dX3_begin_73 (by decide) ?_
      exact ih56 (z9, k2 + 1) _ ⟨by (try dsimp only); omega, by (try dsimp only); omega, by (try dsimp only); omega⟩ (by (try dsimp only); omega) (lv_sub hl [1, 0, 2, 3, 4] rfl)
  · refine lv_iload_n hx hb dX3_begin_36 rfl (lv_at hl 0 rfl) ?_
    refine lv_iload hx hb dX3_begin_37 (lv_at hl 1 rfl) ?_
    refine c_P (As := [.int (iI k)]) (rest := [.int (iI dd)]) fx hl (pm_X3_daysOf l k (by omega)) dX3_begin_39 k1076 k1077 k6 k1078 hd_X3_daysOf rfl ⟨by decide, by decide⟩ (Nat.le_of_ble_eq_true rfl) ⟨by omega, by omega⟩ ?_
    refine q_nm (fun z10 ez10 => ?_)
    have t0z10 := yr_b k
    refine q_add hx hb dX3_begin_42 ?_
    refine q_nm (fun z11 ez11 => ?_)
    refine lv_istore_n (lv' := [(3, .int (iI z11)), (4, .int (iI k)), (2, .int (iI z2)), (1, .int (iI z1)), (0, .int (iI m))]) hx hb dX3_begin_43 rfl hl (by decide) rfl (fun ls hl => ?_)
    refine lv_iinc (v := iI (k + 1)) (lv' := [(4, .int (iI (k + 1))), (3, .int (iI z11)), (2, .int (iI z2)), (1, .int (iI z1)), (0, .int (iI m))]) hx hb dX3_begin_44 hl (k := 1) rfl (iI_add _ _) (by decide) rfl (fun ls hl => ?_)
    refine lv_goto (tgt := 30) hx hb dX3_begin_47 (by decide) ?_
    exact ih30 (z11, k + 1) _ ⟨by (try dsimp only); (try rw [fI_k1]); omega, by (try dsimp only); (try rw [fI_k1]); omega, by (try dsimp only); (try rw [fI_k1]); omega⟩ (by (try dsimp only); omega) (lv_sub hl [1, 0, 2, 3, 4] rfl)

set_option maxHeartbeats 4000000 in
set_option maxRecDepth 100000 in
theorem pm_X3_numberOf (θ : TH) (l : Launch) (S0 : State) (H : Heap) (hz : SZ θ S0 H) (a : Nat) (d : Int) (h_d : DR θ H a d) (h_0 : -420000000 ≤ d ∧ d ≤ 420000000) : CT l yX3_numberOf cX3_numberOf 1 (some .int) 5 107 0 0 [.ref a] S0 H (fun v H1 => v = some (.int (iI d)) ∧ H1 = H) (fun _ _ => False) (fun _ => False) := by
  refine ct_of (by decide +kernel) (Nat.le_of_ble_eq_true rfl) ?_
  intro pg en s mi args below meth co ls fx hs hr hlk hxt hin hl
  subst hs
  obtain ⟨hx, hb, hml, hown, hts⟩ := id fx.1
  have hS : va_S (fun _ : Nat => False) s.heap s.heap [] := va_S.rf
  have hAB : ∀ q : Nat, (fun _ => False : Nat → Prop) q → θ.2.2.2 ≤ q := fun _ h => h.elim
  have hz0 := hz
  have hK := sz_K fx.2 hz
  have tt1 := mI_bd d
  have tt2 := dI_b d
  have lt_d := h_d.lt
  refine lv_aload_n hx hb dX3_numberOf_0 rfl (lv_at hl 0 rfl) ?_
  refine q_con hx hb dX3_numberOf_1 ?_
  refine r_iald (θ := θ) hx hb hK h_d (i := 0) (by omega) (by decide) dX3_numberOf_2 ?_
  refine q_as (mI d) rfl ?_
  refine c_H (As := [.int (iI (mI d))]) (rest := []) fx hl (pm_X3_begin θ l S0 _ hz (mI d) (by omega)) dX3_numberOf_3 k1136 k1137 k6 k1138 hd_X3_begin rfl ⟨by decide, by decide⟩ (Nat.le_of_ble_eq_true rfl) ⟨by dsimp only; omega, by dsimp only; omega⟩ ?_
  have t0z1 := fI_bd (mI d)
  refine lv_aload_n hx hb dX3_numberOf_6 rfl (lv_at hl 0 rfl) ?_
  refine q_con hx hb dX3_numberOf_7 ?_
  refine r_iald (θ := θ) hx hb hK h_d (i := 1) (by omega) (by decide) dX3_numberOf_8 ?_
  refine q_as (dI d) rfl ?_
  refine q_add hx hb dX3_numberOf_9 ?_
  refine q_con hx hb dX3_numberOf_10 ?_
  refine q_sub hx hb dX3_numberOf_11 ?_
  exact e_i hx hb hr hlk hS dX3_numberOf_12 (Nat.le_refl _) (Nat.le_refl _) ⟨ex_i (by subst_vars; omega), rfl⟩

set_option maxHeartbeats 4000000 in
set_option maxRecDepth 100000 in
theorem pm_X3_dateOf (θ : TH) (l : Launch) (S0 : State) (H : Heap) (hz : SZ θ S0 H) (n : Int) (h_0 : -420000000 ≤ n ∧ n ≤ 420000000) : NR θ l yX3_dateOf cX3_dateOf 5 4 83 [.int (iI n)] S0 H n := by
  refine ct_of (by decide +kernel) (Nat.le_of_ble_eq_true rfl) ?_
  intro pg en s mi args below meth co ls fx hs hr hlk hxt hin hl
  subst hs
  obtain ⟨hx, hb, hml, hown, hts⟩ := id fx.1
  have hS : va_S (fun q : Nat => s.heap.size ≤ q) s.heap s.heap [] := va_S.rf
  have hAB : ∀ q : Nat, (fun q : Nat => s.heap.size ≤ q) q → θ.2.2.2 ≤ q := fun q h => Nat.le_trans hz.2.1 h
  have hAn : ∀ q : Nat, s.heap.size ≤ q → (fun q : Nat => s.heap.size ≤ q) q := fun _ h => h
  have hz0 := hz
  have hK := sz_K fx.2 hz
  refine lv_iload_n hx hb dX3_dateOf_0 rfl (lv_at hl 0 rfl) ?_
  refine q_ldc (n := 719528) hx hb hown (hts _ k1071) (by decide) dX3_dateOf_1 ?_
  refine q_add hx hb dX3_dateOf_3 ?_
  refine q_ldc (n := 146097) hx hb hown (hts _ k1072) (by decide) dX3_dateOf_4 ?_
  refine c_P (As := [.int (iI (n + 719528)), .int (iI 146097)]) (rest := []) fx hl (pm_X3_down l (n + 719528) 146097 (by omega) (by omega)) dX3_dateOf_6 k1073 k1074 k6 k1075 hd_X3_down rfl ⟨by decide, by decide⟩ (Nat.le_of_ble_eq_true rfl) ⟨by omega, by omega⟩ ?_
  refine q_nm (fun z1 ez1 => ?_)
  refine lv_istore_n (lv' := [(1, .int (iI z1)), (0, .int (iI n))]) hx hb dX3_dateOf_9 rfl hl (by decide) rfl (fun ls hl => ?_)
  refine lv_iload_n hx hb dX3_dateOf_10 rfl (lv_at hl 1 rfl) ?_
  refine q_ldc (n := 719528) hx hb hown (hts _ k1071) (by decide) dX3_dateOf_11 ?_
  refine q_add hx hb dX3_dateOf_13 ?_
  refine lv_iload_n hx hb dX3_dateOf_14 rfl (lv_at hl 0 rfl) ?_
  refine q_ldc (n := 146097) hx hb hown (hts _ k1072) (by decide) dX3_dateOf_15 ?_
  refine q_mul hx hb dX3_dateOf_17 ?_
  refine q_sub hx hb dX3_dateOf_18 ?_
  refine q_nm (fun z2 ez2 => ?_)
  refine lv_istore_n (lv' := [(2, .int (iI z2)), (1, .int (iI z1)), (0, .int (iI n))]) hx hb dX3_dateOf_19 rfl hl (by decide) rfl (fun ls hl => ?_)
  refine q_sip hx hb dX3_dateOf_20 (by decide) ?_
  refine lv_iload_n hx hb dX3_dateOf_23 rfl (lv_at hl 1 rfl) ?_
  refine q_mul hx hb dX3_dateOf_24 ?_
  refine q_nm (fun z3 ez3 => ?_)
  refine lv_istore_n (lv' := [(3, .int (iI z3)), (2, .int (iI z2)), (1, .int (iI z1)), (0, .int (iI n))]) hx hb dX3_dateOf_25 rfl hl (by decide) rfl (fun ls hl => ?_)
  refine w_loop (nL := 5) (σ := Int × Int) (fun x => (x.1).toNat) (fun x => (x.1 = n - fI (12 * x.2)) ∧ (0 ≤ x.1) ∧ (-1300000 ≤ x.2)) (fun x => [(2, .int (iI x.1)), (3, .int (iI x.2)), (1, .int (iI z1)), (0, .int (iI n))]) ?_ ((z2 : Int), (z3 : Int)) ⟨by (try dsimp only); (first | omega | (have q7 := fI_400 ((n + 719528) / 146097); subst_vars; omega)), by (try dsimp only); (first | omega | (have q7 := fI_400 ((n + 719528) / 146097); subst_vars; omega)), by (try dsimp only); (first | omega | (have q7 := fI_400 ((n + 719528) / 146097); subst_vars; omega))⟩ (lv_sub hl [1, 0, 2, 3] rfl)
  intro x hI26 ih26 ls hl
  obtain ⟨dd, k⟩ := x
  (try dsimp only at hI26 ih26 hl ⊢)
  have tt3 := fI_bd (12 * k)
  have tt4 := yr_b k
  refine lv_iload_n hx hb dX3_dateOf_26 rfl (lv_at hl 0 rfl) ?_
  refine lv_iload_n hx hb dX3_dateOf_27 rfl (lv_at hl 1 rfl) ?_
  refine c_P (As := [.int (iI k)]) (rest := [.int (iI dd)]) fx hl (pm_X3_daysOf l k (by omega)) dX3_dateOf_28 k1076 k1077 k6 k1078 hd_X3_daysOf rfl ⟨by decide, by decide⟩ (Nat.le_of_ble_eq_true rfl) ⟨by omega, by omega⟩ ?_
  refine q_nm (fun z4 ez4 => ?_)
  have t0z4 := yr_b k
  refine q_clt (tgt := 47) hx hb dX3_dateOf_31 (by decide) (by omega) (by omega) (fun c5 => ?_) (fun c5 => ?_)
  · refine q_bip hx hb dX3_dateOf_47 (by decide) ?_
    refine lv_iload_n hx hb dX3_dateOf_49 rfl (lv_at hl 1 rfl) ?_
    refine q_mul hx hb dX3_dateOf_50 ?_
    refine q_nm (fun z6 ez6 => ?_)
    refine lv_istore (lv' := [(4, .int (iI z6)), (2, .int (iI dd)), (3, .int (iI k)), (1, .int (iI z1)), (0, .int (iI n))]) hx hb dX3_dateOf_51 hl (by decide) rfl (fun ls hl => ?_)
    have q8 : fI (12 * k) = fI (z6) := congrArg fI (by omega)
    refine w_loop (nL := 5) (σ := Int × Int) (fun x => (x.1).toNat) (fun x => (x.1 = n - fI x.2) ∧ (0 ≤ x.1) ∧ (-16000000 ≤ x.2)) (fun x => [(2, .int (iI x.1)), (4, .int (iI x.2)), (3, .int (iI k)), (1, .int (iI z1)), (0, .int (iI n))]) ?_ ((dd : Int), (z6 : Int)) ⟨by (try dsimp only); omega, by (try dsimp only); omega, by (try dsimp only); omega⟩ (lv_sub hl [1, 0, 2, 3, 4] rfl)
    intro x hI53 ih53 ls hl
    obtain ⟨dd2, k2⟩ := x
    (try dsimp only at hI53 ih53 hl ⊢)
    have tt5 := fI_bd k2
    have tt6 := len_b k2
    refine lv_iload_n hx hb dX3_dateOf_53 rfl (lv_at hl 0 rfl) ?_
    refine lv_iload hx hb dX3_dateOf_54 (lv_at hl 1 rfl) ?_
    refine c_H (As := [.int (iI k2)]) (rest := [.int (iI dd2)]) fx hl (pm_X3_length θ l S0 _ hz k2 (by omega)) dX3_dateOf_56 k1085 k1086 k6 k1087 hd_X3_length rfl ⟨by decide, by decide⟩ (Nat.le_of_ble_eq_true rfl) ⟨by dsimp only; omega, by dsimp only; omega⟩ ?_
    refine q_nm (fun z7 ez7 => ?_)
    have t0z7 := len_b k2
    refine q_clt (tgt := 76) hx hb dX3_dateOf_59 (by decide) (by omega) (by omega) (fun c8 => ?_) (fun c8 => ?_)
    · refine q_con hx hb dX3_dateOf_76 ?_
      refine r_newI (θ := θ) hx hb hts hK k71 hS (by omega) (by dsimp only; omega) (by dsimp only; omega) dX3_dateOf_77 (fun H9 haH9 hszH9 hkH9 hS => ?_)
      have hzH9 := hz0.at hAB hS
      refine lv_dup hx hb dX3_dateOf_79 rfl ?_
      refine q_con hx hb dX3_dateOf_80 ?_
      refine lv_iload hx hb dX3_dateOf_81 (lv_at hl 1 rfl) ?_
      refine r_iast (θ := θ) (a := s.heap.size) hx hb hK haH9 (hAn _ (by omega)) hS (i := 0) (x := k2) (by omega) (by decide) dX3_dateOf_83 (fun H10 locs haH10 hszH10 hkH10 hS => ?_)
      have hzH10 := hz0.at hAB hS
      refine lv_dup hx hb dX3_dateOf_84 rfl ?_
      refine q_con hx hb dX3_dateOf_85 ?_
      refine lv_iload_n hx hb dX3_dateOf_86 rfl (lv_at hl 0 rfl) ?_
      refine q_con hx hb dX3_dateOf_87 ?_
      refine q_add hx hb dX3_dateOf_88 ?_
      refine r_iast (θ := θ) (a := s.heap.size) hx hb hK haH10 (hAn _ (by omega)) hS (i := 1) (x := dd2 + 1) (by omega) (by decide) dX3_dateOf_89 (fun H11 locs haH11 hszH11 hkH11 hS => ?_)
      have hzH11 := hz0.at hAB hS
      exact e_a hx hb hr (Or.inr ⟨_, rfl⟩) hlk hS dX3_dateOf_90 (by decide) (by decide) ⟨_, rfl, by omega, mk_row haH11 (by have q9 := dI_of (d := n) (m := k2) (by omega); omega) (by have q9 := dI_of (d := n) (m := k2) (by omega); omega)⟩
    · refine lv_iload_n hx hb dX3_dateOf_62 rfl (lv_at hl 0 rfl) ?_
      refine lv_iload hx hb dX3_dateOf_63 (lv_at hl 1 rfl) ?_
      refine c_H (As := [.int (iI k2)]) (rest := [.int (iI dd2)]) fx hl (pm_X3_length θ l S0 _ hz k2 (by omega)) dX3_dateOf_65 k1085 k1086 k6 k1087 hd_X3_length rfl ⟨by decide, by decide⟩ (Nat.le_of_ble_eq_true rfl) ⟨by dsimp only; omega, by dsimp only; omega⟩ ?_
      refine q_nm (fun z12 ez12 => ?_)
      have t0z12 := len_b k2
      refine q_sub hx hb dX3_dateOf_68 ?_
      refine q_nm (fun z13 ez13 => ?_)
      refine lv_istore_n (lv' := [(2, .int (iI z13)), (4, .int (iI k2)), (3, .int (iI k)), (1, .int (iI z1)), (0, .int (iI n))]) hx hb dX3_dateOf_69 rfl hl (by decide) rfl (fun ls hl => ?_)
      refine lv_iinc (v := iI (k2 + 1)) (lv' := [(4, .int (iI (k2 + 1))), (2, .int (iI z13)), (3, .int (iI k)), (1, .int (iI z1)), (0, .int (iI n))]) hx hb dX3_dateOf_70 hl (k := 1) rfl (iI_add _ _) (by decide) rfl (fun ls hl => ?_)
      refine lv_goto (tgt := 53) hx hb dX3_dateOf_73 (by decide) ?_
      exact ih53 (z13, k2 + 1) _ ⟨by (try dsimp only); omega, by (try dsimp only); omega, by (try dsimp only); omega⟩ (by (try dsimp only); omega) (lv_sub hl [1, 0, 2, 3, 4] rfl)
  · refine lv_iload_n hx hb dX3_dateOf_34 rfl (lv_at hl 0 rfl) ?_
    refine lv_iload_n hx hb dX3_dateOf_35 rfl (lv_at hl 1 rfl) ?_
    refine c_P (As := [.int (iI k)]) (rest := [.int (iI dd)]) fx hl (pm_X3_daysOf l k (by omega)) dX3_dateOf_36 k1076 k1077 k6 k1078 hd_X3_daysOf rfl ⟨by decide, by decide⟩ (Nat.le_of_ble_eq_true rfl) ⟨by omega, by omega⟩ ?_
    refine q_nm (fun z14 ez14 => ?_)
    have t0z14 := yr_b k
    refine q_sub hx hb dX3_dateOf_39 ?_
    refine q_nm (fun z15 ez15 => ?_)
    refine lv_istore_n (lv' := [(2, .int (iI z15)), (3, .int (iI k)), (1, .int (iI z1)), (0, .int (iI n))]) hx hb dX3_dateOf_40 rfl hl (by decide) rfl (fun ls hl => ?_)
    refine lv_iinc (v := iI (k + 1)) (lv' := [(3, .int (iI (k + 1))), (2, .int (iI z15)), (1, .int (iI z1)), (0, .int (iI n))]) hx hb dX3_dateOf_41 hl (k := 1) rfl (iI_add _ _) (by decide) rfl (fun ls hl => ?_)
    refine lv_goto (tgt := 26) hx hb dX3_dateOf_44 (by decide) ?_
    exact ih26 (z15, k + 1) _ ⟨by (try dsimp only); (try rw [fI_k1]); omega, by (try dsimp only); (try rw [fI_k1]); omega, by (try dsimp only); (try rw [fI_k1]); omega⟩ (by (try dsimp only); omega) (lv_sub hl [1, 0, 2, 3] rfl)

set_option maxHeartbeats 4000000 in
set_option maxRecDepth 100000 in
theorem pm_X3_within (θ : TH) (l : Launch) (S0 : State) (H : Heap) (hz : SZ θ S0 H) (m : Int) (k : Int) (h_0 : -15000000 ≤ m ∧ m ≤ 15000000) (h_1 : 1 ≤ k ∧ k ≤ 31) : NR θ l yX3_within cX3_within 2 4 83 [.int (iI m), .int (iI k)] S0 H (inI m k) := by
  refine ct_of (by decide +kernel) (Nat.le_of_ble_eq_true rfl) ?_
  intro pg en s mi args below meth co ls fx hs hr hlk hxt hin hl
  subst hs
  obtain ⟨hx, hb, hml, hown, hts⟩ := id fx.1
  have hS : va_S (fun q : Nat => s.heap.size ≤ q) s.heap s.heap [] := va_S.rf
  have hAB : ∀ q : Nat, (fun q : Nat => s.heap.size ≤ q) q → θ.2.2.2 ≤ q := fun q h => Nat.le_trans hz.2.1 h
  have hAn : ∀ q : Nat, s.heap.size ≤ q → (fun q : Nat => s.heap.size ≤ q) q := fun _ h => h
  have hz0 := hz
  have hK := sz_K fx.2 hz
  refine q_con hx hb dX3_within_0 ?_
  refine r_newI (θ := θ) hx hb hts hK k71 hS (by omega) (by dsimp only; omega) (by dsimp only; omega) dX3_within_1 (fun H1 haH1 hszH1 hkH1 hS => ?_)
  have hzH1 := hz0.at hAB hS
  refine lv_dup hx hb dX3_within_3 rfl ?_
  refine q_con hx hb dX3_within_4 ?_
  refine lv_iload_n hx hb dX3_within_5 rfl (lv_at hl 0 rfl) ?_
  refine r_iast (θ := θ) (a := s.heap.size) hx hb hK haH1 (hAn _ (by omega)) hS (i := 0) (x := m) (by omega) (by decide) dX3_within_6 (fun H2 locs haH2 hszH2 hkH2 hS => ?_)
  have hzH2 := hz0.at hAB hS
  refine lv_dup hx hb dX3_within_7 rfl ?_
  refine q_con hx hb dX3_within_8 ?_
  refine lv_iload_n hx hb dX3_within_9 rfl (lv_at hl 1 rfl) ?_
  refine lv_iload_n hx hb dX3_within_10 rfl (lv_at hl 0 rfl) ?_
  refine c_H (As := [.int (iI m)]) (rest := [.int (iI k), .int (iI 1), .ref s.heap.size, .ref s.heap.size]) fx hl (pm_X3_length θ l S0 _ hzH2 m (by omega)) dX3_within_11 k1085 k1086 k6 k1087 hd_X3_length rfl ⟨by decide, by decide⟩ (Nat.le_of_ble_eq_true rfl) ⟨by dsimp only; omega, by dsimp only; omega⟩ ?_
  refine q_nm (fun z3 ez3 => ?_)
  have t0z3 := len_b m
  refine q_cge (tgt := 21) hx hb dX3_within_14 (by decide) (by omega) (by omega) (fun c4 => ?_) (fun c4 => ?_)
  · refine lv_iload_n hx hb dX3_within_21 rfl (lv_at hl 0 rfl) ?_
    refine c_H (As := [.int (iI m)]) (rest := [.int (iI 1), .ref s.heap.size, .ref s.heap.size]) fx hl (pm_X3_length θ l S0 _ hzH2 m (by omega)) dX3_within_22 k1085 k1086 k6 k1087 hd_X3_length rfl ⟨by decide, by decide⟩ (Nat.le_of_ble_eq_true rfl) ⟨by dsimp only; omega, by dsimp only; omega⟩ ?_
    refine q_nm (fun z5 ez5 => ?_)
    have t0z5 := len_b m
    refine r_iast (θ := θ) (a := s.heap.size) hx hb hK haH2 (hAn _ (by omega)) hS (i := 1) (x := z5) (by omega) (by decide) dX3_within_25 (fun H6 locs haH6 hszH6 hkH6 hS => ?_)
    have hzH6 := hz0.at hAB hS
    exact e_a hx hb hr (Or.inr ⟨_, rfl⟩) hlk hS dX3_within_26 (by decide) (by decide) ⟨_, rfl, by omega, mk_row haH6 (by have q9 := inI_s (m := m) (k := k) (by omega); subst_vars; (split at q9 <;> omega)) (by have q9 := inI_s (m := m) (k := k) (by omega); subst_vars; (split at q9 <;> omega))⟩
  · refine lv_iload_n hx hb dX3_within_17 rfl (lv_at hl 1 rfl) ?_
    refine lv_goto (tgt := 25) hx hb dX3_within_18 (by decide) ?_
    refine r_iast (θ := θ) (a := s.heap.size) hx hb hK haH2 (hAn _ (by omega)) hS (i := 1) (x := k) (by omega) (by decide) dX3_within_25 (fun H7 locs haH7 hszH7 hkH7 hS => ?_)
    have hzH7 := hz0.at hAB hS
    exact e_a hx hb hr (Or.inr ⟨_, rfl⟩) hlk hS dX3_within_26 (by decide) (by decide) ⟨_, rfl, by omega, mk_row haH7 (by have q9 := inI_s (m := m) (k := k) (by omega); subst_vars; (split at q9 <;> omega)) (by have q9 := inI_s (m := m) (k := k) (by omega); subst_vars; (split at q9 <;> omega))⟩

set_option maxHeartbeats 4000000 in
set_option maxRecDepth 100000 in
theorem pm_X3_shifted (θ : TH) (l : Launch) (S0 : State) (H : Heap) (hz : SZ θ S0 H) (a : Nat) (n : Int) (d : Int) (h_d : DR θ H a d) (h_0 : -420000000 ≤ d ∧ d ≤ 420000000) (h_1 : -700000 ≤ n ∧ n ≤ 700000) : NR θ l yX3_shifted cX3_shifted 2 5 104 [.ref a, .int (iI n)] S0 H (shI d n) := by
  refine ct_of (by decide +kernel) (Nat.le_of_ble_eq_true rfl) ?_
  intro pg en s mi args below meth co ls fx hs hr hlk hxt hin hl
  subst hs
  obtain ⟨hx, hb, hml, hown, hts⟩ := id fx.1
  have hS : va_S (fun q : Nat => s.heap.size ≤ q) s.heap s.heap [] := va_S.rf
  have hAB : ∀ q : Nat, (fun q : Nat => s.heap.size ≤ q) q → θ.2.2.2 ≤ q := fun q h => Nat.le_trans hz.2.1 h
  have hAn : ∀ q : Nat, s.heap.size ≤ q → (fun q : Nat => s.heap.size ≤ q) q := fun _ h => h
  have hz0 := hz
  have hK := sz_K fx.2 hz
  have tt1 := mI_bd d
  have tt2 := dI_b d
  have lt_d := h_d.lt
  refine lv_aload_n hx hb dX3_shifted_0 rfl (lv_at hl 0 rfl) ?_
  refine q_con hx hb dX3_shifted_1 ?_
  refine r_iald (θ := θ) hx hb hK h_d (i := 0) (by omega) (by decide) dX3_shifted_2 ?_
  refine q_as (mI d) rfl ?_
  refine lv_iload_n hx hb dX3_shifted_3 rfl (lv_at hl 1 rfl) ?_
  refine q_add hx hb dX3_shifted_4 ?_
  refine lv_aload_n hx hb dX3_shifted_5 rfl (lv_at hl 0 rfl) ?_
  refine q_con hx hb dX3_shifted_6 ?_
  refine r_iald (θ := θ) hx hb hK h_d (i := 1) (by omega) (by decide) dX3_shifted_7 ?_
  refine q_as (dI d) rfl ?_
  refine c_NR (θ := θ) (As := [.int (iI ((mI d) + n)), .int (iI (dI d))]) (rest := []) fx hl (pm_X3_within θ l S0 _ hz ((mI d) + n) (dI d) (by omega) (by omega)) dX3_shifted_8 k1123 k1124 k6 k1125 hd_X3_within rfl ⟨by decide, by decide⟩ (Nat.le_of_ble_eq_true rfl) ⟨by dsimp only; omega, by dsimp only; omega⟩ hS (fun x hx => hAn x (Nat.le_trans hS.1 hx)) (fun q2 H1 locs hqH1 haH1 hszH1 hkH1 hS => ?_)
  have h_d_H1 := h_d.kept (hkH1 _ h_d.lt)
  have hzH1 := hz0.at hAB hS
  have hltH1 := haH1.lt
  have t0q2 := inI_s (m := ((mI d) + n)) (k := (dI d)) (by omega)
  exact e_a hx hb hr (Or.inr ⟨_, rfl⟩) hlk hS dX3_shifted_11 (by decide) (by decide) ⟨_, rfl, by omega, by first | exact haH1 | (exact haH1)⟩

set_option maxHeartbeats 4000000 in
set_option maxRecDepth 100000 in
theorem pm_X3_on (θ : TH) (l : Launch) (S0 : State) (H : Heap) (hz : SZ θ S0 H) (a : Nat) (n : Int) (d : Int) (h_d : DR θ H a d) (h_0 : -410000000 ≤ d ∧ d ≤ 410000000) (h_1 : -9000000 ≤ n ∧ n ≤ 9000000) : NR θ l yX3_on cX3_on 2 6 127 [.ref a, .int (iI n)] S0 H (d + n) := by
  refine ct_of (by decide +kernel) (Nat.le_of_ble_eq_true rfl) ?_
  intro pg en s mi args below meth co ls fx hs hr hlk hxt hin hl
  subst hs
  obtain ⟨hx, hb, hml, hown, hts⟩ := id fx.1
  have hS : va_S (fun q : Nat => s.heap.size ≤ q) s.heap s.heap [] := va_S.rf
  have hAB : ∀ q : Nat, (fun q : Nat => s.heap.size ≤ q) q → θ.2.2.2 ≤ q := fun q h => Nat.le_trans hz.2.1 h
  have hAn : ∀ q : Nat, s.heap.size ≤ q → (fun q : Nat => s.heap.size ≤ q) q := fun _ h => h
  have hz0 := hz
  have hK := sz_K fx.2 hz
  have lt_d := h_d.lt
  refine lv_aload_n hx hb dX3_on_0 rfl (lv_at hl 0 rfl) ?_
  refine c_H (As := [.ref a]) (rest := []) fx hl (pm_X3_numberOf θ l S0 _ hz a d h_d (by omega)) dX3_on_1 k1133 k1134 k6 k1135 hd_X3_numberOf rfl ⟨by decide, by decide⟩ (Nat.le_of_ble_eq_true rfl) ⟨by dsimp only; omega, by dsimp only; omega⟩ ?_
  refine lv_iload_n hx hb dX3_on_4 rfl (lv_at hl 1 rfl) ?_
  refine q_add hx hb dX3_on_5 ?_
  refine c_NR (θ := θ) (As := [.int (iI (d + n))]) (rest := []) fx hl (pm_X3_dateOf θ l S0 _ hz (d + n) (by omega)) dX3_on_6 k1068 k1069 k6 k1070 hd_X3_dateOf rfl ⟨by decide, by decide⟩ (Nat.le_of_ble_eq_true rfl) ⟨by dsimp only; omega, by dsimp only; omega⟩ hS (fun x hx => hAn x (Nat.le_trans hS.1 hx)) (fun q3 H2 locs hqH2 haH2 hszH2 hkH2 hS => ?_)
  have h_d_H2 := h_d.kept (hkH2 _ h_d.lt)
  have hzH2 := hz0.at hAB hS
  have hltH2 := haH2.lt
  exact e_a hx hb hr (Or.inr ⟨_, rfl⟩) hlk hS dX3_on_9 (by decide) (by decide) ⟨_, rfl, by omega, by first | exact haH2 | ((rename_i hrow; subst_vars; assumption))⟩

set_option maxHeartbeats 4000000 in
set_option maxRecDepth 100000 in
theorem pm_X3_isDate (θ : TH) (l : Launch) (S0 : State) (H : Heap) (hz : SZ θ S0 H) (a : Nat) (d : Int) (h_d : DR θ H a d) (r : Int) (hr0 : (r = 1 ∧ (-4371587 ≤ d ∧ d ≤ 2932896)) ∨ (r = 0 ∧ ¬ (-4371587 ≤ d ∧ d ≤ 2932896))) (h_0 : -420000000 ≤ d ∧ d ≤ 420000000) : CT l yX3_isDate cX3_isDate 1 (some .boolean) 6 127 0 0 [.ref a] S0 H (fun v H1 => v = some (.int (iI r)) ∧ H1 = H) (fun _ _ => False) (fun _ => False) := by
  refine ct_of (by decide +kernel) (Nat.le_of_ble_eq_true rfl) ?_
  intro pg en s mi args below meth co ls fx hs hr hlk hxt hin hl
  subst hs
  obtain ⟨hx, hb, hml, hown, hts⟩ := id fx.1
  have hS : va_S (fun _ : Nat => False) s.heap s.heap [] := va_S.rf
  have hAB : ∀ q : Nat, (fun _ => False : Nat → Prop) q → θ.2.2.2 ≤ q := fun _ h => h.elim
  have hz0 := hz
  have hK := sz_K fx.2 hz
  have lt_d := h_d.lt
  refine lv_aload_n hx hb dX3_isDate_0 rfl (lv_at hl 0 rfl) ?_
  refine c_H (As := [.ref a]) (rest := []) fx hl (pm_X3_numberOf θ l S0 _ hz a d h_d (by omega)) dX3_isDate_1 k1133 k1134 k6 k1135 hd_X3_numberOf rfl ⟨by decide, by decide⟩ (Nat.le_of_ble_eq_true rfl) ⟨by dsimp only; omega, by dsimp only; omega⟩ ?_
  refine q_ldc (n := -4371587) hx hb hown (hts _ k1139) (by decide) dX3_isDate_4 ?_
  refine q_ldc (n := 2932896) hx hb hown (hts _ k1140) (by decide) dX3_isDate_6 ?_
  obtain ⟨r2, hr2⟩ := bex (d < (-4371587) ∨ 2932896 < d)
  refine c_P (As := [.int (iI d), .int (iI (-4371587)), .int (iI 2932896)]) (rest := []) fx hl (pm_X3_isOut l d (-4371587) 2932896 r2 hr2 (by omega) (by omega) (by omega)) dX3_isDate_8 k1116 k1117 k6 k1118 hd_X3_isOut rfl ⟨by decide, by decide⟩ (Nat.le_of_ble_eq_true rfl) ⟨by omega, by omega⟩ ?_
  have br2 : r2 = 0 ∨ r2 = 1 := hr2.elim (fun h => Or.inr h.1) (fun h => Or.inl h.1)
  refine q_ine (tgt := 18) hx hb dX3_isDate_11 (by decide) (by omega) (fun c3 => ?_) (fun c3 => ?_)
  · refine q_con hx hb dX3_isDate_18 ?_
    exact e_z hx hb hr hlk (by decide) hS dX3_isDate_19 (Nat.le_refl _) (Nat.le_refl _) ⟨ex_i (by omega), rfl⟩
  · refine q_con hx hb dX3_isDate_14 ?_
    refine lv_goto (tgt := 19) hx hb dX3_isDate_15 (by decide) ?_
    exact e_z hx hb hr hlk (by decide) hS dX3_isDate_19 (Nat.le_refl _) (Nat.le_refl _) ⟨ex_i (by omega), rfl⟩

set_option maxHeartbeats 4000000 in
set_option maxRecDepth 100000 in
theorem pm_X3_wholeOf (θ : TH) (l : Launch) (S0 : State) (H : Heap) (hz : SZ θ S0 H) (a : Nat) (b : Nat) (d : Int) (h_d : DR θ H a d) (o : Int) (h_o : DR θ H b o) (h_0 : -420000000 ≤ d ∧ d ≤ 420000000) (h_1 : -420000000 ≤ o ∧ o ≤ 420000000) : CT l yX3_wholeOf cX3_wholeOf 2 (some .int) 1 20 0 0 [.ref a, .ref b] S0 H (fun v H1 => v = some (.int (iI (if dI o < dI d then mI o - mI d - 1 else mI o - mI d))) ∧ H1 = H) (fun _ _ => False) (fun _ => False) := by
  refine ct_of (by decide +kernel) (Nat.le_of_ble_eq_true rfl) ?_
  intro pg en s mi args below meth co ls fx hs hr hlk hxt hin hl
  subst hs
  obtain ⟨hx, hb, hml, hown, hts⟩ := id fx.1
  have hS : va_S (fun _ : Nat => False) s.heap s.heap [] := va_S.rf
  have hAB : ∀ q : Nat, (fun _ => False : Nat → Prop) q → θ.2.2.2 ≤ q := fun _ h => h.elim
  have hz0 := hz
  have hK := sz_K fx.2 hz
  have tt1 := mI_bd d
  have tt2 := dI_b d
  have tt3 := mI_bd o
  have tt4 := dI_b o
  have lt_d := h_d.lt
  have lt_o := h_o.lt
  refine lv_aload_n hx hb dX3_wholeOf_0 rfl (lv_at hl 1 rfl) ?_
  refine q_con hx hb dX3_wholeOf_1 ?_
  refine r_iald (θ := θ) hx hb hK h_o (i := 0) (by omega) (by decide) dX3_wholeOf_2 ?_
  refine q_as (mI o) rfl ?_
  refine lv_aload_n hx hb dX3_wholeOf_3 rfl (lv_at hl 0 rfl) ?_
  refine q_con hx hb dX3_wholeOf_4 ?_
  refine r_iald (θ := θ) hx hb hK h_d (i := 0) (by omega) (by decide) dX3_wholeOf_5 ?_
  refine q_as (mI d) rfl ?_
  refine q_sub hx hb dX3_wholeOf_6 ?_
  refine lv_aload_n hx hb dX3_wholeOf_7 rfl (lv_at hl 1 rfl) ?_
  refine q_con hx hb dX3_wholeOf_8 ?_
  refine r_iald (θ := θ) hx hb hK h_o (i := 1) (by omega) (by decide) dX3_wholeOf_9 ?_
  refine q_as (dI o) rfl ?_
  refine lv_aload_n hx hb dX3_wholeOf_10 rfl (lv_at hl 0 rfl) ?_
  refine q_con hx hb dX3_wholeOf_11 ?_
  refine r_iald (θ := θ) hx hb hK h_d (i := 1) (by omega) (by decide) dX3_wholeOf_12 ?_
  refine q_as (dI d) rfl ?_
  refine q_cge (tgt := 20) hx hb dX3_wholeOf_13 (by decide) (by omega) (by omega) (fun c1 => ?_) (fun c1 => ?_)
  · refine q_con hx hb dX3_wholeOf_20 ?_
    refine c_P (As := [.int (iI 0)]) (rest := [.int (iI ((mI o) - (mI d)))]) fx hl (pm_X3_one l 0 (by omega)) dX3_wholeOf_21 k1239 k1240 k6 k1241 hd_X3_one rfl ⟨by decide, by decide⟩ (Nat.le_of_ble_eq_true rfl) ⟨by omega, by omega⟩ ?_
    refine q_sub hx hb dX3_wholeOf_24 ?_
    exact e_i hx hb hr hlk hS dX3_wholeOf_25 (Nat.le_refl _) (Nat.le_refl _) ⟨ex_i (by subst_vars; split <;> omega), rfl⟩
  · refine q_con hx hb dX3_wholeOf_16 ?_
    refine lv_goto (tgt := 21) hx hb dX3_wholeOf_17 (by decide) ?_
    refine c_P (As := [.int (iI 1)]) (rest := [.int (iI ((mI o) - (mI d)))]) fx hl (pm_X3_one l 1 (by omega)) dX3_wholeOf_21 k1239 k1240 k6 k1241 hd_X3_one rfl ⟨by decide, by decide⟩ (Nat.le_of_ble_eq_true rfl) ⟨by omega, by omega⟩ ?_
    refine q_sub hx hb dX3_wholeOf_24 ?_
    exact e_i hx hb hr hlk hS dX3_wholeOf_25 (Nat.le_refl _) (Nat.le_refl _) ⟨ex_i (by subst_vars; split <;> omega), rfl⟩
