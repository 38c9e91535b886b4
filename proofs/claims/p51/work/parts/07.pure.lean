set_option maxHeartbeats 4000000 in
set_option maxRecDepth 100000 in
theorem pm_floorDiv (l : Launch) (a b : Int) (h_0 : -2147483648 ≤ a ∧ a < 2147483648) (h_1 : 0 < b ∧ b < 2147483648) : PM l yJ9_floorDiv_7cf53 cJ9_floorDiv_7cf53 3 (some .int) 0 0 [.int (iI a), .int (iI b)] (.int (iI (a / b))) := by
  intro S0 H
  refine ct_of (by decide +kernel) (Nat.le_of_ble_eq_true rfl) ?_
  intro pg en s mi args below meth co ls fx hs hr hlk hxt hin hl
  subst hs
  obtain ⟨hx, hb, hml, hown, hts⟩ := id fx.1
  have hS : va_S (fun _ => False) s.heap s.heap [] := va_S.rf
  refine lv_iload_n hx hb dJ9_floorDiv_7cf53_0 rfl (lv_at hl 0 rfl) ?_
  refine lv_iload_n hx hb dJ9_floorDiv_7cf53_1 rfl (lv_at hl 1 rfl) ?_
  refine q_div hx hb dJ9_floorDiv_7cf53_2 (by omega) (by omega) ?_
  refine q_nm (fun z1 ez1 => ?_)
  have hfz1 := fdivv a b (by omega)
  rw [← ez1] at hfz1
  refine lv_istore_n (lv' := [(2, .int (iI z1)), (0, .int (iI a)), (1, .int (iI b))]) hx hb dJ9_floorDiv_7cf53_3 rfl hl (by decide) rfl (fun ls hl => ?_)
  refine lv_iload_n hx hb dJ9_floorDiv_7cf53_4 rfl (lv_at hl 1 rfl) ?_
  refine lv_iload_n hx hb dJ9_floorDiv_7cf53_5 rfl (lv_at hl 2 rfl) ?_
  refine q_xge (tgt := 21) hx hb dJ9_floorDiv_7cf53_6 dJ9_floorDiv_7cf53_7 (by decide) (by omega) (by omega) (fun c2 => ?_) (fun c2 => ?_)
  · refine lv_iload_n hx hb dJ9_floorDiv_7cf53_21 rfl (lv_at hl 0 rfl) ?_
    exact e_i hx hb hr hlk hS dJ9_floorDiv_7cf53_22 (Nat.le_refl _) (Nat.le_refl _) ⟨ex_i (by omega), rfl⟩
  · refine lv_iload_n hx hb dJ9_floorDiv_7cf53_10 rfl (lv_at hl 0 rfl) ?_
    refine lv_iload_n hx hb dJ9_floorDiv_7cf53_11 rfl (lv_at hl 2 rfl) ?_
    refine q_mul hx hb dJ9_floorDiv_7cf53_12 ?_
    refine lv_iload_n hx hb dJ9_floorDiv_7cf53_13 rfl (lv_at hl 1 rfl) ?_
    refine q_ceq (tgt := 21) hx hb dJ9_floorDiv_7cf53_14 (by decide) (by omega) (by omega) (fun c3 => ?_) (fun c3 => ?_)
    · refine lv_iload_n hx hb dJ9_floorDiv_7cf53_21 rfl (lv_at hl 0 rfl) ?_
      exact e_i hx hb hr hlk hS dJ9_floorDiv_7cf53_22 (Nat.le_refl _) (Nat.le_refl _) ⟨ex_i (by omega), rfl⟩
    · refine lv_iload_n hx hb dJ9_floorDiv_7cf53_17 rfl (lv_at hl 0 rfl) ?_
      refine q_con hx hb dJ9_floorDiv_7cf53_18 ?_
      refine q_sub hx hb dJ9_floorDiv_7cf53_19 ?_
      exact e_i hx hb hr hlk hS dJ9_floorDiv_7cf53_20 (Nat.le_refl _) (Nat.le_refl _) ⟨ex_i (by omega), rfl⟩

set_option maxHeartbeats 4000000 in
set_option maxRecDepth 100000 in
theorem pm_floorMod (l : Launch) (a b : Int) (h_0 : -2147483648 ≤ a ∧ a < 2147483648) (h_1 : 0 < b ∧ b < 2147483648) : PM l yJ9_floorMod_7cf53 cJ9_floorMod_7cf53 3 (some .int) 0 0 [.int (iI a), .int (iI b)] (.int (iI (a % b))) := by
  intro S0 H
  refine ct_of (by decide +kernel) (Nat.le_of_ble_eq_true rfl) ?_
  intro pg en s mi args below meth co ls fx hs hr hlk hxt hin hl
  subst hs
  obtain ⟨hx, hb, hml, hown, hts⟩ := id fx.1
  have hS : va_S (fun _ => False) s.heap s.heap [] := va_S.rf
  refine lv_iload_n hx hb dJ9_floorMod_7cf53_0 rfl (lv_at hl 0 rfl) ?_
  refine lv_iload_n hx hb dJ9_floorMod_7cf53_1 rfl (lv_at hl 1 rfl) ?_
  refine q_rem hx hb dJ9_floorMod_7cf53_2 (by omega) (by omega) ?_
  refine q_nm (fun z1 ez1 => ?_)
  have hfz1 := fmodv a b (by omega)
  rw [← ez1] at hfz1
  refine lv_istore_n (lv' := [(2, .int (iI z1)), (0, .int (iI a)), (1, .int (iI b))]) hx hb dJ9_floorMod_7cf53_3 rfl hl (by decide) rfl (fun ls hl => ?_)
  refine lv_iload_n hx hb dJ9_floorMod_7cf53_4 rfl (lv_at hl 1 rfl) ?_
  refine lv_iload_n hx hb dJ9_floorMod_7cf53_5 rfl (lv_at hl 2 rfl) ?_
  refine q_xge (tgt := 18) hx hb dJ9_floorMod_7cf53_6 dJ9_floorMod_7cf53_7 (by decide) (by omega) (by omega) (fun c2 => ?_) (fun c2 => ?_)
  · refine lv_iload_n hx hb dJ9_floorMod_7cf53_18 rfl (lv_at hl 0 rfl) ?_
    exact e_i hx hb hr hlk hS dJ9_floorMod_7cf53_19 (Nat.le_refl _) (Nat.le_refl _) ⟨ex_i (by omega), rfl⟩
  · refine lv_iload_n hx hb dJ9_floorMod_7cf53_10 rfl (lv_at hl 0 rfl) ?_
    refine q_ieq (tgt := 18) hx hb dJ9_floorMod_7cf53_11 (by decide) (by omega) (fun c3 => ?_) (fun c3 => ?_)
    · refine lv_iload_n hx hb dJ9_floorMod_7cf53_18 rfl (lv_at hl 0 rfl) ?_
      exact e_i hx hb hr hlk hS dJ9_floorMod_7cf53_19 (Nat.le_refl _) (Nat.le_refl _) ⟨ex_i (by omega), rfl⟩
    · refine lv_iload_n hx hb dJ9_floorMod_7cf53_14 rfl (lv_at hl 0 rfl) ?_
      refine lv_iload_n hx hb dJ9_floorMod_7cf53_15 rfl (lv_at hl 2 rfl) ?_
      refine q_add hx hb dJ9_floorMod_7cf53_16 ?_
      exact e_i hx hb hr hlk hS dJ9_floorMod_7cf53_17 (Nat.le_refl _) (Nat.le_refl _) ⟨ex_i (by omega), rfl⟩

set_option maxHeartbeats 4000000 in
set_option maxRecDepth 100000 in
theorem pm_floorDivL (l : Launch) (a b : Int) (h_0 : -9223372036854775808 ≤ a ∧ a < 9223372036854775808) (h_1 : 0 < b ∧ b < 9223372036854775808) : PM l yJ9_floorDiv_f86c9 cJ9_floorDiv_f86c9 6 (some .long) 0 0 [.long (lL a), .long (lL b)] (.long (lL (a / b))) := by
  intro S0 H
  refine ct_of (by decide +kernel) (Nat.le_of_ble_eq_true rfl) ?_
  intro pg en s mi args below meth co ls fx hs hr hlk hxt hin hl
  subst hs
  obtain ⟨hx, hb, hml, hown, hts⟩ := id fx.1
  have hS : va_S (fun _ => False) s.heap s.heap [] := va_S.rf
  refine lv_lload_n hx hb dJ9_floorDiv_f86c9_0 rfl (lv_at hl 0 rfl) ?_
  refine lv_lload_n hx hb dJ9_floorDiv_f86c9_1 rfl (lv_at hl 1 rfl) ?_
  refine q_ldiv hx hb dJ9_floorDiv_f86c9_2 (by omega) (by omega) ?_
  refine q_nml (fun z1 ez1 => ?_)
  have hfz1 := fdivv a b (by omega)
  rw [← ez1] at hfz1
  refine lv_lstore (lv' := [(4, .long (lL z1)), (0, .long (lL a)), (2, .long (lL b))]) hx hb dJ9_floorDiv_f86c9_3 hl (by decide) rfl (fun ls hl => ?_)
  refine lv_lload_n hx hb dJ9_floorDiv_f86c9_5 rfl (lv_at hl 1 rfl) ?_
  refine lv_lload_n hx hb dJ9_floorDiv_f86c9_6 rfl (lv_at hl 2 rfl) ?_
  refine q_lxge (tgt := 27) hx hb dJ9_floorDiv_f86c9_7 dJ9_floorDiv_f86c9_8 dJ9_floorDiv_f86c9_9 dJ9_floorDiv_f86c9_10 (by decide) (by omega) (by omega) (fun c2 => ?_) (fun c2 => ?_)
  · refine lv_lload hx hb dJ9_floorDiv_f86c9_27 (lv_at hl 0 rfl) ?_
    exact e_l hx hb hr hlk hS dJ9_floorDiv_f86c9_29 (Nat.le_refl _) (Nat.le_refl _) ⟨ex_l (by omega), rfl⟩
  · refine lv_lload hx hb dJ9_floorDiv_f86c9_13 (lv_at hl 0 rfl) ?_
    refine lv_lload_n hx hb dJ9_floorDiv_f86c9_15 rfl (lv_at hl 2 rfl) ?_
    refine q_lmul hx hb dJ9_floorDiv_f86c9_16 ?_
    refine lv_lload_n hx hb dJ9_floorDiv_f86c9_17 rfl (lv_at hl 1 rfl) ?_
    refine q_lceq (tgt := 27) hx hb dJ9_floorDiv_f86c9_18 dJ9_floorDiv_f86c9_19 (by decide) (by omega) (by omega) (fun c3 => ?_) (fun c3 => ?_)
    · refine lv_lload hx hb dJ9_floorDiv_f86c9_27 (lv_at hl 0 rfl) ?_
      exact e_l hx hb hr hlk hS dJ9_floorDiv_f86c9_29 (Nat.le_refl _) (Nat.le_refl _) ⟨ex_l (by omega), rfl⟩
    · refine lv_lload hx hb dJ9_floorDiv_f86c9_22 (lv_at hl 0 rfl) ?_
      refine q_lcon (z := 1) hx hb (by decide) dJ9_floorDiv_f86c9_24 ?_
      refine q_lsub hx hb dJ9_floorDiv_f86c9_25 ?_
      exact e_l hx hb hr hlk hS dJ9_floorDiv_f86c9_26 (Nat.le_refl _) (Nat.le_refl _) ⟨ex_l (by omega), rfl⟩

set_option maxHeartbeats 4000000 in
set_option maxRecDepth 100000 in
theorem pm_min (l : Launch) (a b : Int) (h_0 : -2147483648 ≤ a ∧ a < 2147483648) (h_1 : -2147483648 ≤ b ∧ b < 2147483648) : PM l yJ9_min_7cf53 cJ9_min_7cf53 2 (some .int) 0 0 [.int (iI a), .int (iI b)] (.int (iI (if a ≤ b then a else b))) := by
  intro S0 H
  refine ct_of (by decide +kernel) (Nat.le_of_ble_eq_true rfl) ?_
  intro pg en s mi args below meth co ls fx hs hr hlk hxt hin hl
  subst hs
  obtain ⟨hx, hb, hml, hown, hts⟩ := id fx.1
  have hS : va_S (fun _ => False) s.heap s.heap [] := va_S.rf
  refine lv_iload_n hx hb dJ9_min_7cf53_0 rfl (lv_at hl 0 rfl) ?_
  refine lv_iload_n hx hb dJ9_min_7cf53_1 rfl (lv_at hl 1 rfl) ?_
  refine q_cgt (tgt := 9) hx hb dJ9_min_7cf53_2 (by decide) (by omega) (by omega) (fun c1 => ?_) (fun c1 => ?_)
  · refine lv_iload_n hx hb dJ9_min_7cf53_9 rfl (lv_at hl 1 rfl) ?_
    exact e_i hx hb hr hlk hS dJ9_min_7cf53_10 (Nat.le_refl _) (Nat.le_refl _) ⟨ex_i (by first | omega | (split <;> omega)), rfl⟩
  · refine lv_iload_n hx hb dJ9_min_7cf53_5 rfl (lv_at hl 0 rfl) ?_
    refine lv_goto (tgt := 10) hx hb dJ9_min_7cf53_6 (by decide) ?_
    exact e_i hx hb hr hlk hS dJ9_min_7cf53_10 (Nat.le_refl _) (Nat.le_refl _) ⟨ex_i (by first | omega | (split <;> omega)), rfl⟩

set_option maxHeartbeats 4000000 in
set_option maxRecDepth 100000 in
theorem pm_abs (l : Launch) (a : Int) (h_0 : -2147483647 ≤ a ∧ a < 2147483648) : PM l yJ9_abs_0f7a4 cJ9_abs_0f7a4 1 (some .int) 0 0 [.int (iI a)] (.int (iI (if 0 ≤ a then a else -a))) := by
  intro S0 H
  refine ct_of (by decide +kernel) (Nat.le_of_ble_eq_true rfl) ?_
  intro pg en s mi args below meth co ls fx hs hr hlk hxt hin hl
  subst hs
  obtain ⟨hx, hb, hml, hown, hts⟩ := id fx.1
  have hS : va_S (fun _ => False) s.heap s.heap [] := va_S.rf
  refine lv_iload_n hx hb dJ9_abs_0f7a4_0 rfl (lv_at hl 0 rfl) ?_
  refine q_ige (tgt := 9) hx hb dJ9_abs_0f7a4_1 (by decide) (by omega) (fun c1 => ?_) (fun c1 => ?_)
  · refine lv_iload_n hx hb dJ9_abs_0f7a4_9 rfl (lv_at hl 0 rfl) ?_
    exact e_i hx hb hr hlk hS dJ9_abs_0f7a4_10 (Nat.le_refl _) (Nat.le_refl _) ⟨ex_i (by first | omega | (split <;> omega)), rfl⟩
  · refine lv_iload_n hx hb dJ9_abs_0f7a4_4 rfl (lv_at hl 0 rfl) ?_
    refine q_neg hx hb dJ9_abs_0f7a4_5 ?_
    refine lv_goto (tgt := 10) hx hb dJ9_abs_0f7a4_6 (by decide) ?_
    exact e_i hx hb hr hlk hS dJ9_abs_0f7a4_10 (Nat.le_refl _) (Nat.le_refl _) ⟨ex_i (by first | omega | (split <;> omega)), rfl⟩

set_option maxHeartbeats 4000000 in
set_option maxRecDepth 100000 in
theorem pm_X0_isLeap (l : Launch) (y : Int) (r : Int) (hr0 : (r = 1 ∧ (lpI y)) ∨ (r = 0 ∧ ¬ (lpI y))) (h_0 : -2147483648 ≤ y ∧ y < 2147483648) : PM l yX0_isLeap cX0_isLeap 1 (some .boolean) 0 0 [.int (iI y)] (.int (iI r)) := by
  intro S0 H
  refine ct_of (by decide +kernel) (Nat.le_of_ble_eq_true rfl) ?_
  intro pg en s mi args below meth co ls fx hs hr hlk hxt hin hl
  subst hs
  obtain ⟨hx, hb, hml, hown, hts⟩ := id fx.1
  have hS : va_S (fun _ => False) s.heap s.heap [] := va_S.rf
  refine lv_iload_n hx hb dX0_isLeap_0 rfl (lv_at hl 0 rfl) ?_
  refine q_con hx hb dX0_isLeap_1 ?_
  refine q_rem hx hb dX0_isLeap_2 (by omega) (by omega) ?_
  refine q_nm (fun z1 ez1 => ?_)
  have fz1 : 0 ≤ y → z1 = y % 4 := fun h => by rw [ez1, tdiv_pos h (by omega)]; omega
  have gz1 : y < 0 → z1 = -((-y) % 4) := fun h => by rw [ez1, tdiv_neg' h]; omega
  clear ez1
  refine q_ine (tgt := 25) hx hb dX0_isLeap_3 (by decide) (by omega) (fun c2 => ?_) (fun c2 => ?_)
  · refine q_con hx hb dX0_isLeap_25 ?_
    exact e_z hx hb hr hlk (by decide) hS dX0_isLeap_26 (Nat.le_refl _) (Nat.le_refl _) ⟨ex_i (by unfold lpI at hr0; omega), rfl⟩
  · refine lv_iload_n hx hb dX0_isLeap_6 rfl (lv_at hl 0 rfl) ?_
    refine q_bip hx hb dX0_isLeap_7 (by decide) ?_
    refine q_rem hx hb dX0_isLeap_9 (by omega) (by omega) ?_
    refine q_nm (fun z3 ez3 => ?_)
    have fz3 : 0 ≤ y → z3 = y % 100 := fun h => by rw [ez3, tdiv_pos h (by omega)]; omega
    have gz3 : y < 0 → z3 = -((-y) % 100) := fun h => by rw [ez3, tdiv_neg' h]; omega
    clear ez3
    refine q_ine (tgt := 21) hx hb dX0_isLeap_10 (by decide) (by omega) (fun c4 => ?_) (fun c4 => ?_)
    · refine q_con hx hb dX0_isLeap_21 ?_
      refine lv_goto (tgt := 26) hx hb dX0_isLeap_22 (by decide) ?_
      exact e_z hx hb hr hlk (by decide) hS dX0_isLeap_26 (Nat.le_refl _) (Nat.le_refl _) ⟨ex_i (by unfold lpI at hr0; omega), rfl⟩
    · refine lv_iload_n hx hb dX0_isLeap_13 rfl (lv_at hl 0 rfl) ?_
      refine q_sip hx hb dX0_isLeap_14 (by decide) ?_
      refine q_rem hx hb dX0_isLeap_17 (by omega) (by omega) ?_
      refine q_nm (fun z5 ez5 => ?_)
      have fz5 : 0 ≤ y → z5 = y % 400 := fun h => by rw [ez5, tdiv_pos h (by omega)]; omega
      have gz5 : y < 0 → z5 = -((-y) % 400) := fun h => by rw [ez5, tdiv_neg' h]; omega
      clear ez5
      refine q_ine (tgt := 25) hx hb dX0_isLeap_18 (by decide) (by omega) (fun c6 => ?_) (fun c6 => ?_)
      · refine q_con hx hb dX0_isLeap_25 ?_
        exact e_z hx hb hr hlk (by decide) hS dX0_isLeap_26 (Nat.le_refl _) (Nat.le_refl _) ⟨ex_i (by unfold lpI at hr0; omega), rfl⟩
      · refine q_con hx hb dX0_isLeap_21 ?_
        refine lv_goto (tgt := 26) hx hb dX0_isLeap_22 (by decide) ?_
        exact e_z hx hb hr hlk (by decide) hS dX0_isLeap_26 (Nat.le_refl _) (Nat.le_refl _) ⟨ex_i (by unfold lpI at hr0; omega), rfl⟩

set_option maxHeartbeats 4000000 in
set_option maxRecDepth 100000 in
theorem pm_X0_yearOfMonth (l : Launch) (m : Int) (h_0 : -20000000 ≤ m ∧ m ≤ 20000000) : PM l yX0_yearOfMonth cX0_yearOfMonth 1 (some .int) 1 22 [.int (iI m)] (.int (iI (m / 12))) := by
  intro S0 H
  refine ct_of (by decide +kernel) (Nat.le_of_ble_eq_true rfl) ?_
  intro pg en s mi args below meth co ls fx hs hr hlk hxt hin hl
  subst hs
  obtain ⟨hx, hb, hml, hown, hts⟩ := id fx.1
  have hS : va_S (fun _ => False) s.heap s.heap [] := va_S.rf
  refine lv_iload_n hx hb dX0_yearOfMonth_0 rfl (lv_at hl 0 rfl) ?_
  refine q_bip hx hb dX0_yearOfMonth_1 (by decide) ?_
  refine c_P (As := [.int (iI m), .int (iI 12)]) (rest := []) fx hl (pm_floorDiv l m 12 (by omega) (by omega)) dX0_yearOfMonth_3 k121 k122 k14 k123 hd_J9_floorDiv_7cf53 rfl ⟨by decide, by decide⟩ (Nat.le_of_ble_eq_true rfl) ⟨by omega, by omega⟩ ?_
  refine q_nm (fun z1 ez1 => ?_)
  exact e_i hx hb hr hlk hS dX0_yearOfMonth_6 (Nat.le_refl _) (Nat.le_refl _) ⟨ex_i (by omega), rfl⟩

set_option maxHeartbeats 4000000 in
set_option maxRecDepth 100000 in
theorem pm_X0_monthInYear (l : Launch) (m : Int) (h_0 : -20000000 ≤ m ∧ m ≤ 20000000) : PM l yX0_monthInYear cX0_monthInYear 1 (some .int) 1 22 [.int (iI m)] (.int (iI (m % 12 + 1))) := by
  intro S0 H
  refine ct_of (by decide +kernel) (Nat.le_of_ble_eq_true rfl) ?_
  intro pg en s mi args below meth co ls fx hs hr hlk hxt hin hl
  subst hs
  obtain ⟨hx, hb, hml, hown, hts⟩ := id fx.1
  have hS : va_S (fun _ => False) s.heap s.heap [] := va_S.rf
  refine lv_iload_n hx hb dX0_monthInYear_0 rfl (lv_at hl 0 rfl) ?_
  refine q_bip hx hb dX0_monthInYear_1 (by decide) ?_
  refine c_P (As := [.int (iI m), .int (iI 12)]) (rest := []) fx hl (pm_floorMod l m 12 (by omega) (by omega)) dX0_monthInYear_3 k124 k125 k14 k126 hd_J9_floorMod_7cf53 rfl ⟨by decide, by decide⟩ (Nat.le_of_ble_eq_true rfl) ⟨by omega, by omega⟩ ?_
  refine q_nm (fun z1 ez1 => ?_)
  refine q_con hx hb dX0_monthInYear_6 ?_
  refine q_add hx hb dX0_monthInYear_7 ?_
  exact e_i hx hb hr hlk hS dX0_monthInYear_8 (Nat.le_refl _) (Nat.le_refl _) ⟨ex_i (by omega), rfl⟩

set_option maxHeartbeats 4000000 in
set_option maxRecDepth 100000 in
theorem pm_X0_firstOf (l : Launch) (m : Int) (h_0 : -20000000 ≤ m ∧ m ≤ 20000000) : PM l yX0_firstOf cX0_firstOf 6 (some .int) 1 22 [.int (iI m)] (.int (iI (fI m))) := by
  intro S0 H
  refine ct_of (by decide +kernel) (Nat.le_of_ble_eq_true rfl) ?_
  intro pg en s mi args below meth co ls fx hs hr hlk hxt hin hl
  subst hs
  obtain ⟨hx, hb, hml, hown, hts⟩ := id fx.1
  have hS : va_S (fun _ => False) s.heap s.heap [] := va_S.rf
  refine lv_iload_n hx hb dX0_firstOf_0 rfl (lv_at hl 0 rfl) ?_
  refine q_con hx hb dX0_firstOf_1 ?_
  refine q_sub hx hb dX0_firstOf_2 ?_
  refine q_nm (fun z1 ez1 => ?_)
  refine lv_istore_n (lv' := [(1, .int (iI z1)), (0, .int (iI m))]) hx hb dX0_firstOf_3 rfl hl (by decide) rfl (fun ls hl => ?_)
  refine lv_iload_n hx hb dX0_firstOf_4 rfl (lv_at hl 0 rfl) ?_
  refine q_bip hx hb dX0_firstOf_5 (by decide) ?_
  refine c_P (As := [.int (iI z1), .int (iI 12)]) (rest := []) fx hl (pm_floorDiv l z1 12 (by omega) (by omega)) dX0_firstOf_7 k121 k122 k14 k123 hd_J9_floorDiv_7cf53 rfl ⟨by decide, by decide⟩ (Nat.le_of_ble_eq_true rfl) ⟨by omega, by omega⟩ ?_
  refine q_nm (fun z2 ez2 => ?_)
  refine lv_istore_n (lv' := [(2, .int (iI z2)), (1, .int (iI z1)), (0, .int (iI m))]) hx hb dX0_firstOf_10 rfl hl (by decide) rfl (fun ls hl => ?_)
  refine lv_iload_n hx hb dX0_firstOf_11 rfl (lv_at hl 1 rfl) ?_
  refine q_bip hx hb dX0_firstOf_12 (by decide) ?_
  refine c_P (As := [.int (iI z1), .int (iI 12)]) (rest := []) fx hl (pm_floorMod l z1 12 (by omega) (by omega)) dX0_firstOf_14 k124 k125 k14 k126 hd_J9_floorMod_7cf53 rfl ⟨by decide, by decide⟩ (Nat.le_of_ble_eq_true rfl) ⟨by omega, by omega⟩ ?_
  refine q_nm (fun z3 ez3 => ?_)
  refine lv_istore_n (lv' := [(3, .int (iI z3)), (2, .int (iI z2)), (1, .int (iI z1)), (0, .int (iI m))]) hx hb dX0_firstOf_17 rfl hl (by decide) rfl (fun ls hl => ?_)
  refine lv_iload_n hx hb dX0_firstOf_18 rfl (lv_at hl 1 rfl) ?_
  refine q_con hx hb dX0_firstOf_19 ?_
  refine c_P (As := [.int (iI z2), .int (iI 4)]) (rest := []) fx hl (pm_floorDiv l z2 4 (by omega) (by omega)) dX0_firstOf_20 k121 k122 k14 k123 hd_J9_floorDiv_7cf53 rfl ⟨by decide, by decide⟩ (Nat.le_of_ble_eq_true rfl) ⟨by omega, by omega⟩ ?_
  refine q_nm (fun z4 ez4 => ?_)
  refine lv_iload_n hx hb dX0_firstOf_23 rfl (lv_at hl 1 rfl) ?_
  refine q_bip hx hb dX0_firstOf_24 (by decide) ?_
  refine c_P (As := [.int (iI z2), .int (iI 100)]) (rest := [.int (iI z4)]) fx hl (pm_floorDiv l z2 100 (by omega) (by omega)) dX0_firstOf_26 k121 k122 k14 k123 hd_J9_floorDiv_7cf53 rfl ⟨by decide, by decide⟩ (Nat.le_of_ble_eq_true rfl) ⟨by omega, by omega⟩ ?_
  refine q_nm (fun z5 ez5 => ?_)
  refine q_sub hx hb dX0_firstOf_29 ?_
  refine lv_iload_n hx hb dX0_firstOf_30 rfl (lv_at hl 1 rfl) ?_
  refine q_sip hx hb dX0_firstOf_31 (by decide) ?_
  refine c_P (As := [.int (iI z2), .int (iI 400)]) (rest := [.int (iI (z4 - z5))]) fx hl (pm_floorDiv l z2 400 (by omega) (by omega)) dX0_firstOf_34 k121 k122 k14 k123 hd_J9_floorDiv_7cf53 rfl ⟨by decide, by decide⟩ (Nat.le_of_ble_eq_true rfl) ⟨by omega, by omega⟩ ?_
  refine q_nm (fun z6 ez6 => ?_)
  refine q_add hx hb dX0_firstOf_37 ?_
  refine q_nm (fun z7 ez7 => ?_)
  refine lv_istore (lv' := [(4, .int (iI z7)), (3, .int (iI z3)), (2, .int (iI z2)), (1, .int (iI z1)), (0, .int (iI m))]) hx hb dX0_firstOf_38 hl (by decide) rfl (fun ls hl => ?_)
  refine q_sip hx hb dX0_firstOf_40 (by decide) ?_
  refine lv_iload_n hx hb dX0_firstOf_43 rfl (lv_at hl 1 rfl) ?_
  refine q_mul hx hb dX0_firstOf_44 ?_
  refine q_con hx hb dX0_firstOf_45 ?_
  refine q_add hx hb dX0_firstOf_46 ?_
  refine q_con hx hb dX0_firstOf_47 ?_
  refine q_div hx hb dX0_firstOf_48 (by omega) (by omega) ?_
  refine q_nm (fun z8 ez8 => ?_)
  have fz8 : 0 ≤ ((153 * z3) + 2) → z8 = ((153 * z3) + 2) / 5 := fun h => by rw [ez8, tdiv_pos h (by omega)]
  have gz8 : ((153 * z3) + 2) < 0 → z8 = -((-((153 * z3) + 2)) / 5) := fun h => by rw [ez8, tdiv_neg' h]
  clear ez8
  refine lv_istore (lv' := [(5, .int (iI z8)), (4, .int (iI z7)), (3, .int (iI z3)), (2, .int (iI z2)), (1, .int (iI z1)), (0, .int (iI m))]) hx hb dX0_firstOf_49 hl (by decide) rfl (fun ls hl => ?_)
  refine q_sip hx hb dX0_firstOf_51 (by decide) ?_
  refine lv_iload_n hx hb dX0_firstOf_54 rfl (lv_at hl 3 rfl) ?_
  refine q_mul hx hb dX0_firstOf_55 ?_
  refine lv_iload hx hb dX0_firstOf_56 (lv_at hl 1 rfl) ?_
  refine q_add hx hb dX0_firstOf_58 ?_
  refine lv_iload hx hb dX0_firstOf_59 (lv_at hl 0 rfl) ?_
  refine q_add hx hb dX0_firstOf_61 ?_
  refine q_bip hx hb dX0_firstOf_62 (by decide) ?_
  refine q_add hx hb dX0_firstOf_64 ?_
  refine q_ldc (n := 719528) hx hb hown (hts _ k127) (by decide) dX0_firstOf_65 ?_
  refine q_sub hx hb dX0_firstOf_67 ?_
  exact e_i hx hb hr hlk hS dX0_firstOf_68 (Nat.le_refl _) (Nat.le_refl _) ⟨ex_i (by subst_vars; unfold fI; omega), rfl⟩

set_option maxHeartbeats 4000000 in
set_option maxRecDepth 100000 in
theorem pm_X0_lengthOf (l : Launch) (m : Int) (h_0 : -19999990 ≤ m ∧ m ≤ 19999990) : PM l yX0_lengthOf cX0_lengthOf 1 (some .int) 2 47 [.int (iI m)] (.int (iI (fI (m + 1) - fI m))) := by
  intro S0 H
  refine ct_of (by decide +kernel) (Nat.le_of_ble_eq_true rfl) ?_
  intro pg en s mi args below meth co ls fx hs hr hlk hxt hin hl
  subst hs
  obtain ⟨hx, hb, hml, hown, hts⟩ := id fx.1
  have hS : va_S (fun _ => False) s.heap s.heap [] := va_S.rf
  refine lv_iload_n hx hb dX0_lengthOf_0 rfl (lv_at hl 0 rfl) ?_
  refine q_con hx hb dX0_lengthOf_1 ?_
  refine q_add hx hb dX0_lengthOf_2 ?_
  refine c_P (As := [.int (iI (m + 1))]) (rest := []) fx hl (pm_X0_firstOf l (m + 1) (by omega)) dX0_lengthOf_3 k118 k119 k13 k120 hd_X0_firstOf rfl ⟨by decide, by decide⟩ (Nat.le_of_ble_eq_true rfl) ⟨by omega, by omega⟩ ?_
  have t0z1 := fI_bd (m + 1)
  refine lv_iload_n hx hb dX0_lengthOf_6 rfl (lv_at hl 0 rfl) ?_
  refine c_P (As := [.int (iI m)]) (rest := [.int (iI (fI (m + 1)))]) fx hl (pm_X0_firstOf l m (by omega)) dX0_lengthOf_7 k118 k119 k13 k120 hd_X0_firstOf rfl ⟨by decide, by decide⟩ (Nat.le_of_ble_eq_true rfl) ⟨by omega, by omega⟩ ?_
  have t0z2 := fI_bd m
  refine q_sub hx hb dX0_lengthOf_10 ?_
  exact e_i hx hb hr hlk hS dX0_lengthOf_11 (Nat.le_refl _) (Nat.le_refl _) ⟨ex_i (by omega), rfl⟩

set_option maxHeartbeats 4000000 in
set_option maxRecDepth 100000 in
theorem pm_X0_monthOf (l : Launch) (d : Int) (h_0 : -600000000 ≤ d ∧ d ≤ 600000000) : PM l yX0_monthOf cX0_monthOf 4 (some .int) 2 47 [.int (iI d)] (.int (iI (mI d))) := by
  intro S0 H
  refine ct_of (by decide +kernel) (Nat.le_of_ble_eq_true rfl) ?_
  intro pg en s mi args below meth co ls fx hs hr hlk hxt hin hl
  subst hs
  obtain ⟨hx, hb, hml, hown, hts⟩ := id fx.1
  have hS : va_S (fun _ => False) s.heap s.heap [] := va_S.rf
  refine lv_iload_n hx hb dX0_monthOf_0 rfl (lv_at hl 0 rfl) ?_
  refine q_i2l hx hb dX0_monthOf_1 (by omega) ?_
  refine q_ldc2 (n := 719528) hx hb hown (hts _ k112) (by decide) dX0_monthOf_2 ?_
  refine q_ladd hx hb dX0_monthOf_5 ?_
  refine q_nml (fun z1 ez1 => ?_)
  refine lv_lstore_n (lv' := [(1, .long (lL z1)), (0, .int (iI d))]) hx hb dX0_monthOf_6 rfl hl (by decide) rfl (fun ls hl => ?_)
  refine lv_lload_n hx hb dX0_monthOf_7 rfl (lv_at hl 0 rfl) ?_
  refine q_ldc2 (n := 4800) hx hb hown (hts _ k113) (by decide) dX0_monthOf_8 ?_
  refine q_lmul hx hb dX0_monthOf_11 ?_
  refine q_ldc2 (n := 146097) hx hb hown (hts _ k114) (by decide) dX0_monthOf_12 ?_
  refine c_P (As := [.long (lL (z1 * 4800)), .long (lL 146097)]) (rest := []) fx hl (pm_floorDivL l (z1 * 4800) 146097 (by omega) (by omega)) dX0_monthOf_15 k115 k116 k14 k117 hd_J9_floorDiv_f86c9 rfl ⟨by decide, by decide⟩ (Nat.le_of_ble_eq_true rfl) ⟨by omega, by omega⟩ ?_
  refine q_nml (fun z2 ez2 => ?_)
  refine q_l2i hx hb dX0_monthOf_18 (by omega) ?_
  refine lv_istore_n (lv' := [(3, .int (iI z2)), (1, .long (lL z1)), (0, .int (iI d))]) hx hb dX0_monthOf_19 rfl hl (by decide) rfl (fun ls hl => ?_)
  refine lv_iload_n hx hb dX0_monthOf_20 rfl (lv_at hl 2 rfl) ?_
  refine lv_iload_n hx hb dX0_monthOf_21 rfl (lv_at hl 0 rfl) ?_
  refine c_P (As := [.int (iI z2)]) (rest := [.int (iI d)]) fx hl (pm_X0_firstOf l z2 (by omega)) dX0_monthOf_22 k118 k119 k13 k120 hd_X0_firstOf rfl ⟨by decide, by decide⟩ (Nat.le_of_ble_eq_true rfl) ⟨by omega, by omega⟩ ?_
  have t0z3 := fI_bd z2
  refine q_cge (tgt := 32) hx hb dX0_monthOf_25 (by decide) (by omega) (by omega) (fun c4 => ?_) (fun c4 => ?_)
  · refine lv_iload_n hx hb dX0_monthOf_32 rfl (lv_at hl 2 rfl) ?_
    refine lv_iload_n hx hb dX0_monthOf_33 rfl (lv_at hl 0 rfl) ?_
    refine q_con hx hb dX0_monthOf_34 ?_
    refine q_add hx hb dX0_monthOf_35 ?_
    refine c_P (As := [.int (iI (z2 + 1))]) (rest := [.int (iI d)]) fx hl (pm_X0_firstOf l (z2 + 1) (by omega)) dX0_monthOf_36 k118 k119 k13 k120 hd_X0_firstOf rfl ⟨by decide, by decide⟩ (Nat.le_of_ble_eq_true rfl) ⟨by omega, by omega⟩ ?_
    have t0z5 := fI_bd (z2 + 1)
    refine q_cge (tgt := 46) hx hb dX0_monthOf_39 (by decide) (by omega) (by omega) (fun c6 => ?_) (fun c6 => ?_)
    · refine lv_iload_n hx hb dX0_monthOf_46 rfl (lv_at hl 0 rfl) ?_
      refine q_con hx hb dX0_monthOf_47 ?_
      refine q_add hx hb dX0_monthOf_48 ?_
      exact e_i hx hb hr hlk hS dX0_monthOf_49 (Nat.le_refl _) (Nat.le_refl _) ⟨ex_i (by subst_vars; unfold mI; (split <;> (try split) <;> omega)), rfl⟩
    · refine lv_iload_n hx hb dX0_monthOf_42 rfl (lv_at hl 0 rfl) ?_
      refine lv_goto (tgt := 49) hx hb dX0_monthOf_43 (by decide) ?_
      exact e_i hx hb hr hlk hS dX0_monthOf_49 (Nat.le_refl _) (Nat.le_refl _) ⟨ex_i (by subst_vars; unfold mI; (split <;> (try split) <;> omega)), rfl⟩
  · refine lv_iload_n hx hb dX0_monthOf_28 rfl (lv_at hl 0 rfl) ?_
    refine q_con hx hb dX0_monthOf_29 ?_
    refine q_sub hx hb dX0_monthOf_30 ?_
    exact e_i hx hb hr hlk hS dX0_monthOf_31 (Nat.le_refl _) (Nat.le_refl _) ⟨ex_i (by subst_vars; unfold mI; (split <;> (try split) <;> omega)), rfl⟩

set_option maxHeartbeats 4000000 in
set_option maxRecDepth 100000 in
theorem pm_X0_yearOf (l : Launch) (d : Int) (h_0 : -600000000 ≤ d ∧ d ≤ 600000000) : PM l yX0_yearOf cX0_yearOf 1 (some .int) 3 70 [.int (iI d)] (.int (iI (mI d / 12))) := by
  intro S0 H
  refine ct_of (by decide +kernel) (Nat.le_of_ble_eq_true rfl) ?_
  intro pg en s mi args below meth co ls fx hs hr hlk hxt hin hl
  subst hs
  obtain ⟨hx, hb, hml, hown, hts⟩ := id fx.1
  have hS : va_S (fun _ => False) s.heap s.heap [] := va_S.rf
  refine lv_iload_n hx hb dX0_yearOf_0 rfl (lv_at hl 0 rfl) ?_
  refine c_P (As := [.int (iI d)]) (rest := []) fx hl (pm_X0_monthOf l d (by omega)) dX0_yearOf_1 k109 k110 k13 k111 hd_X0_monthOf rfl ⟨by decide, by decide⟩ (Nat.le_of_ble_eq_true rfl) ⟨by omega, by omega⟩ ?_
  have t0z1 := mI_s d
  have t1z1 := mI_bd d
  have t2z1 := len_b (mI d)
  refine c_P (As := [.int (iI (mI d))]) (rest := []) fx hl (pm_X0_yearOfMonth l (mI d) (by omega)) dX0_yearOf_4 k303 k304 k13 k305 hd_X0_yearOfMonth rfl ⟨by decide, by decide⟩ (Nat.le_of_ble_eq_true rfl) ⟨by omega, by omega⟩ ?_
  refine q_nm (fun z2 ez2 => ?_)
  exact e_i hx hb hr hlk hS dX0_yearOf_7 (Nat.le_refl _) (Nat.le_refl _) ⟨ex_i (by omega), rfl⟩

set_option maxHeartbeats 4000000 in
set_option maxRecDepth 100000 in
theorem pm_X0_dayOf (l : Launch) (d : Int) (h_0 : -600000000 ≤ d ∧ d ≤ 600000000) : PM l yX0_dayOf cX0_dayOf 1 (some .int) 3 70 [.int (iI d)] (.int (iI (dI d))) := by
  intro S0 H
  refine ct_of (by decide +kernel) (Nat.le_of_ble_eq_true rfl) ?_
  intro pg en s mi args below meth co ls fx hs hr hlk hxt hin hl
  subst hs
  obtain ⟨hx, hb, hml, hown, hts⟩ := id fx.1
  have hS : va_S (fun _ => False) s.heap s.heap [] := va_S.rf
  refine lv_iload_n hx hb dX0_dayOf_0 rfl (lv_at hl 0 rfl) ?_
  refine lv_iload_n hx hb dX0_dayOf_1 rfl (lv_at hl 0 rfl) ?_
  refine c_P (As := [.int (iI d)]) (rest := [.int (iI d)]) fx hl (pm_X0_monthOf l d (by omega)) dX0_dayOf_2 k109 k110 k13 k111 hd_X0_monthOf rfl ⟨by decide, by decide⟩ (Nat.le_of_ble_eq_true rfl) ⟨by omega, by omega⟩ ?_
  have t0z1 := mI_s d
  have t1z1 := mI_bd d
  have t2z1 := len_b (mI d)
  refine c_P (As := [.int (iI (mI d))]) (rest := [.int (iI d)]) fx hl (pm_X0_firstOf l (mI d) (by omega)) dX0_dayOf_5 k118 k119 k13 k120 hd_X0_firstOf rfl ⟨by decide, by decide⟩ (Nat.le_of_ble_eq_true rfl) ⟨by omega, by omega⟩ ?_
  have t0z2 := fI_bd (mI d)
  refine q_sub hx hb dX0_dayOf_8 ?_
  refine q_con hx hb dX0_dayOf_9 ?_
  refine q_add hx hb dX0_dayOf_10 ?_
  exact e_i hx hb hr hlk hS dX0_dayOf_11 (Nat.le_refl _) (Nat.le_refl _) ⟨ex_i (by unfold dI; subst_vars; omega), rfl⟩

set_option maxHeartbeats 4000000 in
set_option maxRecDepth 100000 in
theorem pm_X0_weekdayOf (l : Launch) (d : Int) (h_0 : -1000000000 ≤ d ∧ d ≤ 1000000000) : PM l yX0_weekdayOf cX0_weekdayOf 1 (some .int) 1 22 [.int (iI d)] (.int (iI (wI d))) := by
  intro S0 H
  refine ct_of (by decide +kernel) (Nat.le_of_ble_eq_true rfl) ?_
  intro pg en s mi args below meth co ls fx hs hr hlk hxt hin hl
  subst hs
  obtain ⟨hx, hb, hml, hown, hts⟩ := id fx.1
  have hS : va_S (fun _ => False) s.heap s.heap [] := va_S.rf
  refine lv_iload_n hx hb dX0_weekdayOf_0 rfl (lv_at hl 0 rfl) ?_
  refine q_con hx hb dX0_weekdayOf_1 ?_
  refine q_add hx hb dX0_weekdayOf_2 ?_
  refine q_bip hx hb dX0_weekdayOf_3 (by decide) ?_
  refine c_P (As := [.int (iI (d + 3)), .int (iI 7)]) (rest := []) fx hl (pm_floorMod l (d + 3) 7 (by omega) (by omega)) dX0_weekdayOf_5 k124 k125 k14 k126 hd_J9_floorMod_7cf53 rfl ⟨by decide, by decide⟩ (Nat.le_of_ble_eq_true rfl) ⟨by omega, by omega⟩ ?_
  refine q_nm (fun z1 ez1 => ?_)
  refine q_con hx hb dX0_weekdayOf_8 ?_
  refine q_add hx hb dX0_weekdayOf_9 ?_
  exact e_i hx hb hr hlk hS dX0_weekdayOf_10 (Nat.le_refl _) (Nat.le_refl _) ⟨ex_i (by unfold wI; subst_vars; omega), rfl⟩

set_option maxHeartbeats 4000000 in
set_option maxRecDepth 100000 in
theorem pm_X0_dateIn (l : Launch) (m k : Int) (h_0 : -19999000 ≤ m ∧ m ≤ 19999000) (h_1 : 1 ≤ k ∧ k ≤ 31) : PM l yX0_dateIn cX0_dateIn 2 (some .int) 2 47 [.int (iI m), .int (iI k)] (.int (iI (inI m k))) := by
  intro S0 H
  refine ct_of (by decide +kernel) (Nat.le_of_ble_eq_true rfl) ?_
  intro pg en s mi args below meth co ls fx hs hr hlk hxt hin hl
  subst hs
  obtain ⟨hx, hb, hml, hown, hts⟩ := id fx.1
  have hS : va_S (fun _ => False) s.heap s.heap [] := va_S.rf
  refine lv_iload_n hx hb dX0_dateIn_0 rfl (lv_at hl 0 rfl) ?_
  refine c_P (As := [.int (iI m)]) (rest := []) fx hl (pm_X0_firstOf l m (by omega)) dX0_dateIn_1 k118 k119 k13 k120 hd_X0_firstOf rfl ⟨by decide, by decide⟩ (Nat.le_of_ble_eq_true rfl) ⟨by omega, by omega⟩ ?_
  have t0z1 := fI_bd m
  refine lv_iload_n hx hb dX0_dateIn_4 rfl (lv_at hl 1 rfl) ?_
  refine q_add hx hb dX0_dateIn_5 ?_
  refine lv_iload_n hx hb dX0_dateIn_6 rfl (lv_at hl 0 rfl) ?_
  refine q_con hx hb dX0_dateIn_7 ?_
  refine q_add hx hb dX0_dateIn_8 ?_
  refine c_P (As := [.int (iI (m + 1))]) (rest := [.int (iI ((fI m) + k))]) fx hl (pm_X0_firstOf l (m + 1) (by omega)) dX0_dateIn_9 k118 k119 k13 k120 hd_X0_firstOf rfl ⟨by decide, by decide⟩ (Nat.le_of_ble_eq_true rfl) ⟨by omega, by omega⟩ ?_
  have t0z2 := fI_bd (m + 1)
  refine c_P (As := [.int (iI ((fI m) + k)), .int (iI (fI (m + 1)))]) (rest := []) fx hl (pm_min l ((fI m) + k) (fI (m + 1)) (by omega) (by omega)) dX0_dateIn_12 k134 k135 k14 k136 hd_J9_min_7cf53 rfl ⟨by decide, by decide⟩ (Nat.le_of_ble_eq_true rfl) ⟨by omega, by omega⟩ ?_
  refine q_nm (fun z3 ez3 => ?_)
  refine q_con hx hb dX0_dateIn_15 ?_
  refine q_sub hx hb dX0_dateIn_16 ?_
  exact e_i hx hb hr hlk hS dX0_dateIn_17 (Nat.le_refl _) (Nat.le_refl _) ⟨ex_i (by unfold inI; subst_vars; rfl), rfl⟩

set_option maxHeartbeats 4000000 in
set_option maxRecDepth 100000 in
theorem pm_X0_shifted (l : Launch) (d n : Int) (h_0 : -500000000 ≤ d ∧ d ≤ 500000000) (h_1 : -2500000 ≤ n ∧ n ≤ 2500000) : PM l yX0_shifted cX0_shifted 3 (some .int) 3 70 [.int (iI d), .int (iI n)] (.int (iI (shI d n))) := by
  intro S0 H
  refine ct_of (by decide +kernel) (Nat.le_of_ble_eq_true rfl) ?_
  intro pg en s mi args below meth co ls fx hs hr hlk hxt hin hl
  subst hs
  obtain ⟨hx, hb, hml, hown, hts⟩ := id fx.1
  have hS : va_S (fun _ => False) s.heap s.heap [] := va_S.rf
  refine lv_iload_n hx hb dX0_shifted_0 rfl (lv_at hl 0 rfl) ?_
  refine c_P (As := [.int (iI d)]) (rest := []) fx hl (pm_X0_monthOf l d (by omega)) dX0_shifted_1 k109 k110 k13 k111 hd_X0_monthOf rfl ⟨by decide, by decide⟩ (Nat.le_of_ble_eq_true rfl) ⟨by omega, by omega⟩ ?_
  have t0z1 := mI_s d
  have t1z1 := mI_bd d
  have t2z1 := len_b (mI d)
  refine lv_istore_n (lv' := [(2, .int (iI (mI d))), (0, .int (iI d)), (1, .int (iI n))]) hx hb dX0_shifted_4 rfl hl (by decide) rfl (fun ls hl => ?_)
  refine lv_iload_n hx hb dX0_shifted_5 rfl (lv_at hl 0 rfl) ?_
  refine lv_iload_n hx hb dX0_shifted_6 rfl (lv_at hl 2 rfl) ?_
  refine q_add hx hb dX0_shifted_7 ?_
  refine lv_iload_n hx hb dX0_shifted_8 rfl (lv_at hl 1 rfl) ?_
  refine lv_iload_n hx hb dX0_shifted_9 rfl (lv_at hl 0 rfl) ?_
  refine c_P (As := [.int (iI (mI d))]) (rest := [.int (iI d), .int (iI ((mI d) + n))]) fx hl (pm_X0_firstOf l (mI d) (by omega)) dX0_shifted_10 k118 k119 k13 k120 hd_X0_firstOf rfl ⟨by decide, by decide⟩ (Nat.le_of_ble_eq_true rfl) ⟨by omega, by omega⟩ ?_
  have t0z2 := fI_bd (mI d)
  refine q_sub hx hb dX0_shifted_13 ?_
  refine q_con hx hb dX0_shifted_14 ?_
  refine q_add hx hb dX0_shifted_15 ?_
  refine c_P (As := [.int (iI ((mI d) + n)), .int (iI ((d - (fI (mI d))) + 1))]) (rest := []) fx hl (pm_X0_dateIn l ((mI d) + n) ((d - (fI (mI d))) + 1) (by omega) (by omega)) dX0_shifted_16 k131 k132 k13 k133 hd_X0_dateIn rfl ⟨by decide, by decide⟩ (Nat.le_of_ble_eq_true rfl) ⟨by omega, by omega⟩ ?_
  have t0z3 := inI_s (m := ((mI d) + n)) (k := ((d - (fI (mI d))) + 1)) (by omega)
  have t1z3 := fI_bd ((mI d) + n)
  have t2z3 := fI_bd (((mI d) + n) + 1)
  exact e_i hx hb hr hlk hS dX0_shifted_19 (Nat.le_refl _) (Nat.le_refl _) ⟨ex_i (by unfold shI dI; subst_vars; rfl), rfl⟩

set_option maxHeartbeats 4000000 in
set_option maxRecDepth 100000 in
theorem pm_X0_lossOf (l : Launch) (d n : Int) (h_0 : -400000000 ≤ d ∧ d ≤ 400000000) (h_1 : -2500000 ≤ n ∧ n ≤ 2500000) : PM l yX0_lossOf cX0_lossOf 2 (some .int) 4 92 [.int (iI d), .int (iI n)] (.int (iI (dI d - dI (shI d n)))) := by
  intro S0 H
  refine ct_of (by decide +kernel) (Nat.le_of_ble_eq_true rfl) ?_
  intro pg en s mi args below meth co ls fx hs hr hlk hxt hin hl
  subst hs
  obtain ⟨hx, hb, hml, hown, hts⟩ := id fx.1
  have hS : va_S (fun _ => False) s.heap s.heap [] := va_S.rf
  refine lv_iload_n hx hb dX0_lossOf_0 rfl (lv_at hl 0 rfl) ?_
  refine c_P (As := [.int (iI d)]) (rest := []) fx hl (pm_X0_dayOf l d (by omega)) dX0_lossOf_1 k128 k129 k13 k130 hd_X0_dayOf rfl ⟨by decide, by decide⟩ (Nat.le_of_ble_eq_true rfl) ⟨by omega, by omega⟩ ?_
  have t0z1 := dI_b d
  refine lv_iload_n hx hb dX0_lossOf_4 rfl (lv_at hl 0 rfl) ?_
  refine lv_iload_n hx hb dX0_lossOf_5 rfl (lv_at hl 1 rfl) ?_
  refine c_P (As := [.int (iI d), .int (iI n)]) (rest := [.int (iI (dI d))]) fx hl (pm_X0_shifted l d n (by omega) (by omega)) dX0_lossOf_6 k140 k141 k13 k142 hd_X0_shifted rfl ⟨by decide, by decide⟩ (Nat.le_of_ble_eq_true rfl) ⟨by omega, by omega⟩ ?_
  have t0z2 := shI_s d n
  have t1z2 := shI_bd d n
  refine c_P (As := [.int (iI (shI d n))]) (rest := [.int (iI (dI d))]) fx hl (pm_X0_dayOf l (shI d n) (by omega)) dX0_lossOf_9 k128 k129 k13 k130 hd_X0_dayOf rfl ⟨by decide, by decide⟩ (Nat.le_of_ble_eq_true rfl) ⟨by omega, by omega⟩ ?_
  have t0z3 := dI_b (shI d n)
  refine q_sub hx hb dX0_lossOf_12 ?_
  exact e_i hx hb hr hlk hS dX0_lossOf_13 (Nat.le_refl _) (Nat.le_refl _) ⟨ex_i (by subst_vars; rfl), rfl⟩

set_option maxHeartbeats 4000000 in
set_option maxRecDepth 100000 in
theorem pm_X0_comesBack (l : Launch) (d n : Int) (r : Int) (hr0 : (r = 1 ∧ (shI (shI d n) (-n) = d)) ∨ (r = 0 ∧ ¬ (shI (shI d n) (-n) = d))) (h_0 : -400000000 ≤ d ∧ d ≤ 400000000) (h_1 : -2500000 ≤ n ∧ n ≤ 2500000) : PM l yX0_comesBack cX0_comesBack 2 (some .boolean) 4 92 [.int (iI d), .int (iI n)] (.int (iI r)) := by
  intro S0 H
  refine ct_of (by decide +kernel) (Nat.le_of_ble_eq_true rfl) ?_
  intro pg en s mi args below meth co ls fx hs hr hlk hxt hin hl
  subst hs
  obtain ⟨hx, hb, hml, hown, hts⟩ := id fx.1
  have hS : va_S (fun _ => False) s.heap s.heap [] := va_S.rf
  refine lv_iload_n hx hb dX0_comesBack_0 rfl (lv_at hl 0 rfl) ?_
  refine lv_iload_n hx hb dX0_comesBack_1 rfl (lv_at hl 1 rfl) ?_
  refine c_P (As := [.int (iI d), .int (iI n)]) (rest := []) fx hl (pm_X0_shifted l d n (by omega) (by omega)) dX0_comesBack_2 k140 k141 k13 k142 hd_X0_shifted rfl ⟨by decide, by decide⟩ (Nat.le_of_ble_eq_true rfl) ⟨by omega, by omega⟩ ?_
  have t0z1 := shI_s d n
  have t1z1 := shI_bd d n
  refine lv_iload_n hx hb dX0_comesBack_5 rfl (lv_at hl 1 rfl) ?_
  refine q_neg hx hb dX0_comesBack_6 ?_
  refine c_P (As := [.int (iI (shI d n)), .int (iI (-n))]) (rest := []) fx hl (pm_X0_shifted l (shI d n) (-n) (by omega) (by omega)) dX0_comesBack_7 k140 k141 k13 k142 hd_X0_shifted rfl ⟨by decide, by decide⟩ (Nat.le_of_ble_eq_true rfl) ⟨by omega, by omega⟩ ?_
  have t0z2 := shI_s (shI d n) (-n)
  have t1z2 := shI_bd (shI d n) (-n)
  refine lv_iload_n hx hb dX0_comesBack_10 rfl (lv_at hl 0 rfl) ?_
  refine q_cne (tgt := 18) hx hb dX0_comesBack_11 (by decide) (by omega) (by omega) (fun c3 => ?_) (fun c3 => ?_)
  · refine q_con hx hb dX0_comesBack_18 ?_
    exact e_z hx hb hr hlk (by decide) hS dX0_comesBack_19 (Nat.le_refl _) (Nat.le_refl _) ⟨ex_i (by subst_vars; omega), rfl⟩
  · refine q_con hx hb dX0_comesBack_14 ?_
    refine lv_goto (tgt := 19) hx hb dX0_comesBack_15 (by decide) ?_
    exact e_z hx hb hr hlk (by decide) hS dX0_comesBack_19 (Nat.le_refl _) (Nat.le_refl _) ⟨ex_i (by subst_vars; omega), rfl⟩

set_option maxHeartbeats 4000000 in
set_option maxRecDepth 100000 in
theorem pm_X0_monthsFirst (l : Launch) (d n k : Int) (h_0 : -500000000 ≤ d ∧ d ≤ 500000000) (h_1 : -2500000 ≤ n ∧ n ≤ 2500000) : PM l yX0_monthsFirst cX0_monthsFirst 3 (some .int) 4 92 [.int (iI d), .int (iI n), .int (iI k)] (.int (iI (shI d n + k))) := by
  intro S0 H
  refine ct_of (by decide +kernel) (Nat.le_of_ble_eq_true rfl) ?_
  intro pg en s mi args below meth co ls fx hs hr hlk hxt hin hl
  subst hs
  obtain ⟨hx, hb, hml, hown, hts⟩ := id fx.1
  have hS : va_S (fun _ => False) s.heap s.heap [] := va_S.rf
  refine lv_iload_n hx hb dX0_monthsFirst_0 rfl (lv_at hl 0 rfl) ?_
  refine lv_iload_n hx hb dX0_monthsFirst_1 rfl (lv_at hl 1 rfl) ?_
  refine c_P (As := [.int (iI d), .int (iI n)]) (rest := []) fx hl (pm_X0_shifted l d n (by omega) (by omega)) dX0_monthsFirst_2 k140 k141 k13 k142 hd_X0_shifted rfl ⟨by decide, by decide⟩ (Nat.le_of_ble_eq_true rfl) ⟨by omega, by omega⟩ ?_
  have t0z1 := shI_s d n
  have t1z1 := shI_bd d n
  refine lv_iload_n hx hb dX0_monthsFirst_5 rfl (lv_at hl 2 rfl) ?_
  refine q_add hx hb dX0_monthsFirst_6 ?_
  exact e_i hx hb hr hlk hS dX0_monthsFirst_7 (Nat.le_refl _) (Nat.le_refl _) ⟨ex_i (by subst_vars; rfl), rfl⟩

set_option maxHeartbeats 4000000 in
set_option maxRecDepth 100000 in
theorem pm_X0_daysFirst (l : Launch) (d n k : Int) (h_0 : -400000000 ≤ d ∧ d ≤ 400000000) (h_1 : -2500000 ≤ n ∧ n ≤ 2500000) (h_2 : -8000000 ≤ k ∧ k ≤ 8000000) : PM l yX0_daysFirst cX0_daysFirst 3 (some .int) 4 92 [.int (iI d), .int (iI n), .int (iI k)] (.int (iI (shI (d + k) n))) := by
  intro S0 H
  refine ct_of (by decide +kernel) (Nat.le_of_ble_eq_true rfl) ?_
  intro pg en s mi args below meth co ls fx hs hr hlk hxt hin hl
  subst hs
  obtain ⟨hx, hb, hml, hown, hts⟩ := id fx.1
  have hS : va_S (fun _ => False) s.heap s.heap [] := va_S.rf
  refine lv_iload_n hx hb dX0_daysFirst_0 rfl (lv_at hl 0 rfl) ?_
  refine lv_iload_n hx hb dX0_daysFirst_1 rfl (lv_at hl 2 rfl) ?_
  refine q_add hx hb dX0_daysFirst_2 ?_
  refine lv_iload_n hx hb dX0_daysFirst_3 rfl (lv_at hl 1 rfl) ?_
  refine c_P (As := [.int (iI (d + k)), .int (iI n)]) (rest := []) fx hl (pm_X0_shifted l (d + k) n (by omega) (by omega)) dX0_daysFirst_4 k140 k141 k13 k142 hd_X0_shifted rfl ⟨by decide, by decide⟩ (Nat.le_of_ble_eq_true rfl) ⟨by omega, by omega⟩ ?_
  have t0z1 := shI_s (d + k) n
  have t1z1 := shI_bd (d + k) n
  exact e_i hx hb hr hlk hS dX0_daysFirst_7 (Nat.le_refl _) (Nat.le_refl _) ⟨ex_i (by subst_vars; rfl), rfl⟩

set_option maxHeartbeats 4000000 in
set_option maxRecDepth 100000 in
theorem pm_X0_monthsUntil (l : Launch) (a b : Int) (h_0 : -400000000 ≤ a ∧ a ≤ 400000000) (h_1 : -400000000 ≤ b ∧ b ≤ 400000000) : PM l yX0_monthsUntil cX0_monthsUntil 3 (some .int) 4 90 [.int (iI a), .int (iI b)] (.int (iI (muI a b))) := by
  intro S0 H
  refine ct_of (by decide +kernel) (Nat.le_of_ble_eq_true rfl) ?_
  intro pg en s mi args below meth co ls fx hs hr hlk hxt hin hl
  subst hs
  obtain ⟨hx, hb, hml, hown, hts⟩ := id fx.1
  have hS : va_S (fun _ => False) s.heap s.heap [] := va_S.rf
  refine lv_iload_n hx hb dX0_monthsUntil_0 rfl (lv_at hl 1 rfl) ?_
  refine c_P (As := [.int (iI b)]) (rest := []) fx hl (pm_X0_monthOf l b (by omega)) dX0_monthsUntil_1 k109 k110 k13 k111 hd_X0_monthOf rfl ⟨by decide, by decide⟩ (Nat.le_of_ble_eq_true rfl) ⟨by omega, by omega⟩ ?_
  have t0z1 := mI_s b
  have t1z1 := mI_bd b
  have t2z1 := len_b (mI b)
  refine lv_iload_n hx hb dX0_monthsUntil_4 rfl (lv_at hl 0 rfl) ?_
  refine c_P (As := [.int (iI a)]) (rest := [.int (iI (mI b))]) fx hl (pm_X0_monthOf l a (by omega)) dX0_monthsUntil_5 k109 k110 k13 k111 hd_X0_monthOf rfl ⟨by decide, by decide⟩ (Nat.le_of_ble_eq_true rfl) ⟨by omega, by omega⟩ ?_
  have t0z2 := mI_s a
  have t1z2 := mI_bd a
  have t2z2 := len_b (mI a)
  refine q_sub hx hb dX0_monthsUntil_8 ?_
  refine q_nm (fun z3 ez3 => ?_)
  refine lv_istore_n (lv' := [(2, .int (iI z3)), (0, .int (iI a)), (1, .int (iI b))]) hx hb dX0_monthsUntil_9 rfl hl (by decide) rfl (fun ls hl => ?_)
  refine lv_iload_n hx hb dX0_monthsUntil_10 rfl (lv_at hl 2 rfl) ?_
  refine c_P (As := [.int (iI b)]) (rest := []) fx hl (pm_X0_dayOf l b (by omega)) dX0_monthsUntil_11 k128 k129 k13 k130 hd_X0_dayOf rfl ⟨by decide, by decide⟩ (Nat.le_of_ble_eq_true rfl) ⟨by omega, by omega⟩ ?_
  have t0z4 := dI_b b
  refine lv_iload_n hx hb dX0_monthsUntil_14 rfl (lv_at hl 1 rfl) ?_
  refine c_P (As := [.int (iI a)]) (rest := [.int (iI (dI b))]) fx hl (pm_X0_dayOf l a (by omega)) dX0_monthsUntil_15 k128 k129 k13 k130 hd_X0_dayOf rfl ⟨by decide, by decide⟩ (Nat.le_of_ble_eq_true rfl) ⟨by omega, by omega⟩ ?_
  have t0z5 := dI_b a
  refine q_cge (tgt := 27) hx hb dX0_monthsUntil_18 (by decide) (by omega) (by omega) (fun c6 => ?_) (fun c6 => ?_)
  · refine lv_iload_n hx hb dX0_monthsUntil_27 rfl (lv_at hl 0 rfl) ?_
    exact e_i hx hb hr hlk hS dX0_monthsUntil_28 (Nat.le_refl _) (Nat.le_refl _) ⟨ex_i (by unfold muI; subst_vars; split <;> omega), rfl⟩
  · refine lv_iload_n hx hb dX0_monthsUntil_21 rfl (lv_at hl 0 rfl) ?_
    refine q_con hx hb dX0_monthsUntil_22 ?_
    refine q_sub hx hb dX0_monthsUntil_23 ?_
    refine lv_goto (tgt := 28) hx hb dX0_monthsUntil_24 (by decide) ?_
    exact e_i hx hb hr hlk hS dX0_monthsUntil_28 (Nat.le_refl _) (Nat.le_refl _) ⟨ex_i (by unfold muI; subst_vars; split <;> omega), rfl⟩

set_option maxHeartbeats 4000000 in
set_option maxRecDepth 100000 in
theorem pm_X0_anniversary (l : Launch) (d w q : Int) (h_0 : -300000000 ≤ d ∧ d ≤ 300000000) (h_1 : -100000 ≤ w ∧ w ≤ 100000) (h_2 : q = 0 ∨ q = 1) : PM l yX0_anniversary cX0_anniversary 5 (some .int) 5 113 [.int (iI d), .int (iI w), .int (iI q)] (.int (iI (anI d w q))) := by
  intro S0 H
  refine ct_of (by decide +kernel) (Nat.le_of_ble_eq_true rfl) ?_
  intro pg en s mi args below meth co ls fx hs hr hlk hxt hin hl
  subst hs
  obtain ⟨hx, hb, hml, hown, hts⟩ := id fx.1
  have hS : va_S (fun _ => False) s.heap s.heap [] := va_S.rf
  refine q_bip hx hb dX0_anniversary_0 (by decide) ?_
  refine lv_iload_n hx hb dX0_anniversary_2 rfl (lv_at hl 1 rfl) ?_
  refine q_mul hx hb dX0_anniversary_3 ?_
  refine q_nm (fun z1 ez1 => ?_)
  refine lv_istore_n (lv' := [(3, .int (iI z1)), (0, .int (iI d)), (1, .int (iI w)), (2, .int (iI q))]) hx hb dX0_anniversary_4 rfl hl (by decide) rfl (fun ls hl => ?_)
  refine lv_iload_n hx hb dX0_anniversary_5 rfl (lv_at hl 3 rfl) ?_
  refine q_ieq (tgt := 21) hx hb dX0_anniversary_6 (by decide) (by omega) (fun c2 => ?_) (fun c2 => ?_)
  · refine q_con hx hb dX0_anniversary_21 ?_
    refine lv_istore (lv' := [(4, .int (iI 0)), (3, .int (iI z1)), (0, .int (iI d)), (1, .int (iI w)), (2, .int (iI q))]) hx hb dX0_anniversary_22 hl (by decide) rfl (fun ls hl => ?_)
    refine lv_iload_n hx hb dX0_anniversary_24 rfl (lv_at hl 2 rfl) ?_
    refine lv_iload_n hx hb dX0_anniversary_25 rfl (lv_at hl 1 rfl) ?_
    refine c_P (As := [.int (iI d), .int (iI z1)]) (rest := []) fx hl (pm_X0_shifted l d z1 (by omega) (by omega)) dX0_anniversary_26 k140 k141 k13 k142 hd_X0_shifted rfl ⟨by decide, by decide⟩ (Nat.le_of_ble_eq_true rfl) ⟨by omega, by omega⟩ ?_
    have t0z3 := shI_s d z1
    have t1z3 := shI_bd d z1
    refine lv_iload hx hb dX0_anniversary_29 (lv_at hl 0 rfl) ?_
    refine q_ieq (tgt := 38) hx hb dX0_anniversary_31 (by decide) (by omega) (fun c4 => ?_) (fun c4 => ?_)
    · refine q_con hx hb dX0_anniversary_38 ?_
      refine q_add hx hb dX0_anniversary_39 ?_
      exact e_i hx hb hr hlk hS dX0_anniversary_40 (Nat.le_refl _) (Nat.le_refl _) ⟨ex_i (by unfold anI; subst_vars; split <;> omega), rfl⟩
    · refine q_con hx hb dX0_anniversary_34 ?_
      refine lv_goto (tgt := 39) hx hb dX0_anniversary_35 (by decide) ?_
      refine q_add hx hb dX0_anniversary_39 ?_
      exact e_i hx hb hr hlk hS dX0_anniversary_40 (Nat.le_refl _) (Nat.le_refl _) ⟨ex_i (by unfold anI; subst_vars; split <;> omega), rfl⟩
  · refine lv_iload_n hx hb dX0_anniversary_9 rfl (lv_at hl 1 rfl) ?_
    refine lv_iload_n hx hb dX0_anniversary_10 rfl (lv_at hl 0 rfl) ?_
    refine c_P (As := [.int (iI d), .int (iI z1)]) (rest := []) fx hl (pm_X0_lossOf l d z1 (by omega) (by omega)) dX0_anniversary_11 k993 k646 k13 k647 hd_X0_lossOf rfl ⟨by decide, by decide⟩ (Nat.le_of_ble_eq_true rfl) ⟨by omega, by omega⟩ ?_
    refine q_nm (fun z5 ez5 => ?_)
    have t0z5 := dI_b d
    have t1z5 := dI_b (shI d z1)
    refine q_ile (tgt := 21) hx hb dX0_anniversary_14 (by decide) (by omega) (fun c6 => ?_) (fun c6 => ?_)
    · refine q_con hx hb dX0_anniversary_21 ?_
      refine lv_istore (lv' := [(4, .int (iI 0)), (3, .int (iI z1)), (0, .int (iI d)), (1, .int (iI w)), (2, .int (iI q))]) hx hb dX0_anniversary_22 hl (by decide) rfl (fun ls hl => ?_)
      refine lv_iload_n hx hb dX0_anniversary_24 rfl (lv_at hl 2 rfl) ?_
      refine lv_iload_n hx hb dX0_anniversary_25 rfl (lv_at hl 1 rfl) ?_
      refine c_P (As := [.int (iI d), .int (iI z1)]) (rest := []) fx hl (pm_X0_shifted l d z1 (by omega) (by omega)) dX0_anniversary_26 k140 k141 k13 k142 hd_X0_shifted rfl ⟨by decide, by decide⟩ (Nat.le_of_ble_eq_true rfl) ⟨by omega, by omega⟩ ?_
      have t0z7 := shI_s d z1
      have t1z7 := shI_bd d z1
      refine lv_iload hx hb dX0_anniversary_29 (lv_at hl 0 rfl) ?_
      refine q_ieq (tgt := 38) hx hb dX0_anniversary_31 (by decide) (by omega) (fun c8 => ?_) (fun c8 => ?_)
      · refine q_con hx hb dX0_anniversary_38 ?_
        refine q_add hx hb dX0_anniversary_39 ?_
        exact e_i hx hb hr hlk hS dX0_anniversary_40 (Nat.le_refl _) (Nat.le_refl _) ⟨ex_i (by unfold anI; subst_vars; split <;> omega), rfl⟩
      · refine q_con hx hb dX0_anniversary_34 ?_
        refine lv_goto (tgt := 39) hx hb dX0_anniversary_35 (by decide) ?_
        refine q_add hx hb dX0_anniversary_39 ?_
        exact e_i hx hb hr hlk hS dX0_anniversary_40 (Nat.le_refl _) (Nat.le_refl _) ⟨ex_i (by unfold anI; subst_vars; split <;> omega), rfl⟩
    · refine q_con hx hb dX0_anniversary_17 ?_
      refine lv_goto (tgt := 22) hx hb dX0_anniversary_18 (by decide) ?_
      refine lv_istore (lv' := [(4, .int (iI 1)), (3, .int (iI z1)), (0, .int (iI d)), (1, .int (iI w)), (2, .int (iI q))]) hx hb dX0_anniversary_22 hl (by decide) rfl (fun ls hl => ?_)
      refine lv_iload_n hx hb dX0_anniversary_24 rfl (lv_at hl 2 rfl) ?_
      refine lv_iload_n hx hb dX0_anniversary_25 rfl (lv_at hl 1 rfl) ?_
      refine c_P (As := [.int (iI d), .int (iI z1)]) (rest := []) fx hl (pm_X0_shifted l d z1 (by omega) (by omega)) dX0_anniversary_26 k140 k141 k13 k142 hd_X0_shifted rfl ⟨by decide, by decide⟩ (Nat.le_of_ble_eq_true rfl) ⟨by omega, by omega⟩ ?_
      have t0z9 := shI_s d z1
      have t1z9 := shI_bd d z1
      refine lv_iload hx hb dX0_anniversary_29 (lv_at hl 0 rfl) ?_
      refine q_ieq (tgt := 38) hx hb dX0_anniversary_31 (by decide) (by omega) (fun c10 => ?_) (fun c10 => ?_)
      · refine q_con hx hb dX0_anniversary_38 ?_
        refine q_add hx hb dX0_anniversary_39 ?_
        exact e_i hx hb hr hlk hS dX0_anniversary_40 (Nat.le_refl _) (Nat.le_refl _) ⟨ex_i (by unfold anI; subst_vars; split <;> omega), rfl⟩
      · refine q_con hx hb dX0_anniversary_34 ?_
        refine lv_goto (tgt := 39) hx hb dX0_anniversary_35 (by decide) ?_
        refine q_add hx hb dX0_anniversary_39 ?_
        exact e_i hx hb hr hlk hS dX0_anniversary_40 (Nat.le_refl _) (Nat.le_refl _) ⟨ex_i (by unfold anI; subst_vars; split <;> omega), rfl⟩

set_option maxHeartbeats 4000000 in
set_option maxRecDepth 100000 in
theorem pm_X0_anniversariesUntil (l : Launch) (d o q : Int) (h_0 : -5000000 ≤ d ∧ d ≤ 5000000) (h_1 : -5000000 ≤ o ∧ o ≤ 5000000) (h_2 : q = 0 ∨ q = 1) : PM l yX0_anniversariesUntil cX0_anniversariesUntil 4 (some .int) 6 137 [.int (iI d), .int (iI o), .int (iI q)] (.int (iI (unI d o q))) := by
  intro S0 H
  refine ct_of (by decide +kernel) (Nat.le_of_ble_eq_true rfl) ?_
  intro pg en s mi args below meth co ls fx hs hr hlk hxt hin hl
  subst hs
  obtain ⟨hx, hb, hml, hown, hts⟩ := id fx.1
  have hS : va_S (fun _ => False) s.heap s.heap [] := va_S.rf
  have tt1 := mI_bd d
  have tt2 := mI_bd o
  refine lv_iload_n hx hb dX0_anniversariesUntil_0 rfl (lv_at hl 1 rfl) ?_
  refine c_P (As := [.int (iI o)]) (rest := []) fx hl (pm_X0_yearOf l o (by omega)) dX0_anniversariesUntil_1 k989 k301 k13 k302 hd_X0_yearOf rfl ⟨by decide, by decide⟩ (Nat.le_of_ble_eq_true rfl) ⟨by omega, by omega⟩ ?_
  refine q_nm (fun z1 ez1 => ?_)
  have t0z1 := mI_bd o
  refine lv_iload_n hx hb dX0_anniversariesUntil_4 rfl (lv_at hl 0 rfl) ?_
  refine c_P (As := [.int (iI d)]) (rest := [.int (iI z1)]) fx hl (pm_X0_yearOf l d (by omega)) dX0_anniversariesUntil_5 k989 k301 k13 k302 hd_X0_yearOf rfl ⟨by decide, by decide⟩ (Nat.le_of_ble_eq_true rfl) ⟨by omega, by omega⟩ ?_
  refine q_nm (fun z2 ez2 => ?_)
  have t0z2 := mI_bd d
  refine q_sub hx hb dX0_anniversariesUntil_8 ?_
  refine q_nm (fun z3 ez3 => ?_)
  refine lv_istore_n (lv' := [(3, .int (iI z3)), (0, .int (iI d)), (1, .int (iI o)), (2, .int (iI q))]) hx hb dX0_anniversariesUntil_9 rfl hl (by decide) rfl (fun ls hl => ?_)
  refine lv_iload_n hx hb dX0_anniversariesUntil_10 rfl (lv_at hl 0 rfl) ?_
  refine q_ile (tgt := 28) hx hb dX0_anniversariesUntil_11 (by decide) (by omega) (fun c4 => ?_) (fun c4 => ?_)
  · refine lv_iload_n hx hb dX0_anniversariesUntil_28 rfl (lv_at hl 0 rfl) ?_
    exact e_i hx hb hr hlk hS dX0_anniversariesUntil_29 (Nat.le_refl _) (Nat.le_refl _) ⟨ex_i (by unfold unI; subst_vars; split <;> omega), rfl⟩
  · refine lv_iload_n hx hb dX0_anniversariesUntil_14 rfl (lv_at hl 1 rfl) ?_
    refine lv_iload_n hx hb dX0_anniversariesUntil_15 rfl (lv_at hl 0 rfl) ?_
    refine lv_iload_n hx hb dX0_anniversariesUntil_16 rfl (lv_at hl 3 rfl) ?_
    refine c_P (As := [.int (iI d), .int (iI z3), .int (iI q)]) (rest := []) fx hl (pm_X0_anniversary l d z3 q (by omega) (by omega) (by omega)) dX0_anniversariesUntil_17 k990 k991 k13 k992 hd_X0_anniversary rfl ⟨by decide, by decide⟩ (Nat.le_of_ble_eq_true rfl) ⟨by omega, by omega⟩ ?_
    have t0z5 := anI_b d z3 q
    have t1z5 := shI_bd d (12 * z3)
    refine lv_iload_n hx hb dX0_anniversariesUntil_20 rfl (lv_at hl 2 rfl) ?_
    refine q_cle (tgt := 28) hx hb dX0_anniversariesUntil_21 (by decide) (by omega) (by omega) (fun c6 => ?_) (fun c6 => ?_)
    · refine lv_iload_n hx hb dX0_anniversariesUntil_28 rfl (lv_at hl 0 rfl) ?_
      exact e_i hx hb hr hlk hS dX0_anniversariesUntil_29 (Nat.le_refl _) (Nat.le_refl _) ⟨ex_i (by unfold unI; subst_vars; split <;> omega), rfl⟩
    · refine lv_iload_n hx hb dX0_anniversariesUntil_24 rfl (lv_at hl 0 rfl) ?_
      refine q_con hx hb dX0_anniversariesUntil_25 ?_
      refine q_sub hx hb dX0_anniversariesUntil_26 ?_
      exact e_i hx hb hr hlk hS dX0_anniversariesUntil_27 (Nat.le_refl _) (Nat.le_refl _) ⟨ex_i (by unfold unI; subst_vars; split <;> omega), rfl⟩

set_option maxHeartbeats 4000000 in
set_option maxRecDepth 100000 in
theorem pm_X0_isToldAnew (l : Launch) (d : Int) (h_0 : -100000000 ≤ d ∧ d ≤ 100000000) : PM l yX0_isToldAnew cX0_isToldAnew 4 (some .boolean) 4 90 [.int (iI d)] (.int (iI 1)) := by
  intro S0 H
  refine ct_of (by decide +kernel) (Nat.le_of_ble_eq_true rfl) ?_
  intro pg en s mi args below meth co ls fx hs hr hlk hxt hin hl
  subst hs
  obtain ⟨hx, hb, hml, hown, hts⟩ := id fx.1
  have hS : va_S (fun _ => False) s.heap s.heap [] := va_S.rf
  have tt1 := mI_bd d
  have tt2 := inI_self d
  refine lv_iload_n hx hb dX0_isToldAnew_0 rfl (lv_at hl 0 rfl) ?_
  refine c_P (As := [.int (iI d)]) (rest := []) fx hl (pm_X0_monthOf l d (by omega)) dX0_isToldAnew_1 k109 k110 k13 k111 hd_X0_monthOf rfl ⟨by decide, by decide⟩ (Nat.le_of_ble_eq_true rfl) ⟨by omega, by omega⟩ ?_
  have t0z1 := mI_s d
  have t1z1 := mI_bd d
  have t2z1 := len_b (mI d)
  refine lv_istore_n (lv' := [(1, .int (iI (mI d))), (0, .int (iI d))]) hx hb dX0_isToldAnew_4 rfl hl (by decide) rfl (fun ls hl => ?_)
  refine lv_iload_n hx hb dX0_isToldAnew_5 rfl (lv_at hl 1 rfl) ?_
  refine c_P (As := [.int (iI d)]) (rest := []) fx hl (pm_X0_dayOf l d (by omega)) dX0_isToldAnew_6 k128 k129 k13 k130 hd_X0_dayOf rfl ⟨by decide, by decide⟩ (Nat.le_of_ble_eq_true rfl) ⟨by omega, by omega⟩ ?_
  have t0z2 := dI_b d
  refine lv_istore_n (lv' := [(2, .int (iI (dI d))), (1, .int (iI (mI d))), (0, .int (iI d))]) hx hb dX0_isToldAnew_9 rfl hl (by decide) rfl (fun ls hl => ?_)
  refine lv_iload_n hx hb dX0_isToldAnew_10 rfl (lv_at hl 1 rfl) ?_
  refine lv_iload_n hx hb dX0_isToldAnew_11 rfl (lv_at hl 0 rfl) ?_
  refine c_P (As := [.int (iI (mI d)), .int (iI (dI d))]) (rest := []) fx hl (pm_X0_dateIn l (mI d) (dI d) (by omega) (by omega)) dX0_isToldAnew_12 k131 k132 k13 k133 hd_X0_dateIn rfl ⟨by decide, by decide⟩ (Nat.le_of_ble_eq_true rfl) ⟨by omega, by omega⟩ ?_
  have t0z3 := inI_s (m := (mI d)) (k := (dI d)) (by omega)
  have t1z3 := fI_bd (mI d)
  have t2z3 := fI_bd ((mI d) + 1)
  refine lv_istore_n (lv' := [(3, .int (iI (inI (mI d) (dI d)))), (2, .int (iI (dI d))), (1, .int (iI (mI d))), (0, .int (iI d))]) hx hb dX0_isToldAnew_15 rfl hl (by decide) rfl (fun ls hl => ?_)
  refine lv_iload_n hx hb dX0_isToldAnew_16 rfl (lv_at hl 0 rfl) ?_
  refine lv_iload_n hx hb dX0_isToldAnew_17 rfl (lv_at hl 3 rfl) ?_
  refine q_cne (tgt := 41) hx hb dX0_isToldAnew_18 (by decide) (by omega) (by omega) (fun c4 => ?_) (fun c4 => ?_)
  · refine q_con hx hb dX0_isToldAnew_41 ?_
    exact e_z hx hb hr hlk (by decide) hS dX0_isToldAnew_42 (Nat.le_refl _) (Nat.le_refl _) ⟨ex_i (by omega), rfl⟩
  · refine lv_iload_n hx hb dX0_isToldAnew_21 rfl (lv_at hl 0 rfl) ?_
    refine c_P (As := [.int (iI (inI (mI d) (dI d)))]) (rest := []) fx hl (pm_X0_monthOf l (inI (mI d) (dI d)) (by omega)) dX0_isToldAnew_22 k109 k110 k13 k111 hd_X0_monthOf rfl ⟨by decide, by decide⟩ (Nat.le_of_ble_eq_true rfl) ⟨by omega, by omega⟩ ?_
    have t0z5 := mI_s (inI (mI d) (dI d))
    have t1z5 := mI_bd (inI (mI d) (dI d))
    have t2z5 := len_b (mI (inI (mI d) (dI d)))
    refine lv_iload_n hx hb dX0_isToldAnew_25 rfl (lv_at hl 2 rfl) ?_
    refine q_cne (tgt := 41) hx hb dX0_isToldAnew_26 (by decide) (by omega) (by omega) (fun c6 => ?_) (fun c6 => ?_)
    · refine q_con hx hb dX0_isToldAnew_41 ?_
      exact e_z hx hb hr hlk (by decide) hS dX0_isToldAnew_42 (Nat.le_refl _) (Nat.le_refl _) ⟨ex_i (by omega), rfl⟩
    · refine lv_iload_n hx hb dX0_isToldAnew_29 rfl (lv_at hl 0 rfl) ?_
      refine c_P (As := [.int (iI (inI (mI d) (dI d)))]) (rest := []) fx hl (pm_X0_dayOf l (inI (mI d) (dI d)) (by omega)) dX0_isToldAnew_30 k128 k129 k13 k130 hd_X0_dayOf rfl ⟨by decide, by decide⟩ (Nat.le_of_ble_eq_true rfl) ⟨by omega, by omega⟩ ?_
      have t0z7 := dI_b (inI (mI d) (dI d))
      refine lv_iload_n hx hb dX0_isToldAnew_33 rfl (lv_at hl 1 rfl) ?_
      refine q_cne (tgt := 41) hx hb dX0_isToldAnew_34 (by decide) (by omega) (by omega) (fun c8 => ?_) (fun c8 => ?_)
      · refine q_con hx hb dX0_isToldAnew_41 ?_
        exact e_z hx hb hr hlk (by decide) hS dX0_isToldAnew_42 (Nat.le_refl _) (Nat.le_refl _) ⟨ex_i (by omega), rfl⟩
      · refine q_con hx hb dX0_isToldAnew_37 ?_
        refine lv_goto (tgt := 42) hx hb dX0_isToldAnew_38 (by decide) ?_
        exact e_z hx hb hr hlk (by decide) hS dX0_isToldAnew_42 (Nat.le_refl _) (Nat.le_refl _) ⟨ex_i (by omega), rfl⟩

set_option maxHeartbeats 4000000 in
set_option maxRecDepth 100000 in
theorem pm_X0_isSoundByCycles (l : Launch) (d : Int) (h_0 : -100000000 ≤ d ∧ d ≤ 100000000) : PM l yX0_isSoundByCycles cX0_isSoundByCycles 1 (some .boolean) 4 92 [.int (iI d)] (.int (iI 1)) := by
  intro S0 H
  refine ct_of (by decide +kernel) (Nat.le_of_ble_eq_true rfl) ?_
  intro pg en s mi args below meth co ls fx hs hr hlk hxt hin hl
  subst hs
  obtain ⟨hx, hb, hml, hown, hts⟩ := id fx.1
  have hS : va_S (fun _ => False) s.heap s.heap [] := va_S.rf
  have tt1 := sh_cyc d
  refine lv_iload_n hx hb dX0_isSoundByCycles_0 rfl (lv_at hl 0 rfl) ?_
  refine q_sip hx hb dX0_isSoundByCycles_1 (by decide) ?_
  refine c_P (As := [.int (iI d), .int (iI 4800)]) (rest := []) fx hl (pm_X0_shifted l d 4800 (by omega) (by omega)) dX0_isSoundByCycles_4 k140 k141 k13 k142 hd_X0_shifted rfl ⟨by decide, by decide⟩ (Nat.le_of_ble_eq_true rfl) ⟨by omega, by omega⟩ ?_
  have t0z1 := shI_s d 4800
  have t1z1 := shI_bd d 4800
  refine lv_iload_n hx hb dX0_isSoundByCycles_7 rfl (lv_at hl 0 rfl) ?_
  refine q_sub hx hb dX0_isSoundByCycles_8 ?_
  refine q_ldc (n := 146097) hx hb hown (hts _ k143) (by decide) dX0_isSoundByCycles_9 ?_
  refine q_cne (tgt := 32) hx hb dX0_isSoundByCycles_11 (by decide) (by omega) (by omega) (fun c2 => ?_) (fun c2 => ?_)
  · refine q_con hx hb dX0_isSoundByCycles_32 ?_
    exact e_z hx hb hr hlk (by decide) hS dX0_isSoundByCycles_33 (Nat.le_refl _) (Nat.le_refl _) ⟨ex_i (by omega), rfl⟩
  · refine lv_iload_n hx hb dX0_isSoundByCycles_14 rfl (lv_at hl 0 rfl) ?_
    refine lv_iload_n hx hb dX0_isSoundByCycles_15 rfl (lv_at hl 0 rfl) ?_
    refine q_sip hx hb dX0_isSoundByCycles_16 (by decide) ?_
    refine c_P (As := [.int (iI d), .int (iI (-4800))]) (rest := [.int (iI d)]) fx hl (pm_X0_shifted l d (-4800) (by omega) (by omega)) dX0_isSoundByCycles_19 k140 k141 k13 k142 hd_X0_shifted rfl ⟨by decide, by decide⟩ (Nat.le_of_ble_eq_true rfl) ⟨by omega, by omega⟩ ?_
    have t0z3 := shI_s d (-4800)
    have t1z3 := shI_bd d (-4800)
    refine q_sub hx hb dX0_isSoundByCycles_22 ?_
    refine q_ldc (n := 146097) hx hb hown (hts _ k143) (by decide) dX0_isSoundByCycles_23 ?_
    refine q_cne (tgt := 32) hx hb dX0_isSoundByCycles_25 (by decide) (by omega) (by omega) (fun c4 => ?_) (fun c4 => ?_)
    · refine q_con hx hb dX0_isSoundByCycles_32 ?_
      exact e_z hx hb hr hlk (by decide) hS dX0_isSoundByCycles_33 (Nat.le_refl _) (Nat.le_refl _) ⟨ex_i (by omega), rfl⟩
    · refine q_con hx hb dX0_isSoundByCycles_28 ?_
      refine lv_goto (tgt := 33) hx hb dX0_isSoundByCycles_29 (by decide) ?_
      exact e_z hx hb hr hlk (by decide) hS dX0_isSoundByCycles_33 (Nat.le_refl _) (Nat.le_refl _) ⟨ex_i (by omega), rfl⟩

set_option maxHeartbeats 4000000 in
set_option maxRecDepth 100000 in
theorem pm_X0_isSoundByMonths (l : Launch) (d : Int) (h_0 : -5000000 ≤ d ∧ d ≤ 5000000) : PM l yX0_isSoundByMonths cX0_isSoundByMonths 7 (some .boolean) 5 113 [.int (iI d)] (.int (iI 1)) := by
  intro S0 H
  refine ct_of (by decide +kernel) (Nat.le_of_ble_eq_true rfl) ?_
  intro pg en s mi args below meth co ls fx hs hr hlk hxt hin hl
  subst hs
  obtain ⟨hx, hb, hml, hown, hts⟩ := id fx.1
  have hS : va_S (fun _ => False) s.heap s.heap [] := va_S.rf
  have tt1 := mI_bd d
  have tt2 := dI_b d
  refine lv_iload_n hx hb dX0_isSoundByMonths_0 rfl (lv_at hl 0 rfl) ?_
  refine c_P (As := [.int (iI d)]) (rest := []) fx hl (pm_X0_monthOf l d (by omega)) dX0_isSoundByMonths_1 k109 k110 k13 k111 hd_X0_monthOf rfl ⟨by decide, by decide⟩ (Nat.le_of_ble_eq_true rfl) ⟨by omega, by omega⟩ ?_
  have t0z1 := mI_s d
  have t1z1 := mI_bd d
  have t2z1 := len_b (mI d)
  refine lv_istore_n (lv' := [(1, .int (iI (mI d))), (0, .int (iI d))]) hx hb dX0_isSoundByMonths_4 rfl hl (by decide) rfl (fun ls hl => ?_)
  refine lv_iload_n hx hb dX0_isSoundByMonths_5 rfl (lv_at hl 1 rfl) ?_
  refine c_P (As := [.int (iI d)]) (rest := []) fx hl (pm_X0_dayOf l d (by omega)) dX0_isSoundByMonths_6 k128 k129 k13 k130 hd_X0_dayOf rfl ⟨by decide, by decide⟩ (Nat.le_of_ble_eq_true rfl) ⟨by omega, by omega⟩ ?_
  have t0z2 := dI_b d
  refine lv_istore_n (lv' := [(2, .int (iI (dI d))), (1, .int (iI (mI d))), (0, .int (iI d))]) hx hb dX0_isSoundByMonths_9 rfl hl (by decide) rfl (fun ls hl => ?_)
  refine q_bip hx hb dX0_isSoundByMonths_10 (by decide) ?_
  refine lv_istore_n (lv' := [(3, .int (iI (-13))), (2, .int (iI (dI d))), (1, .int (iI (mI d))), (0, .int (iI d))]) hx hb dX0_isSoundByMonths_12 rfl hl (by decide) rfl (fun ls hl => ?_)
  refine w_loop (nL := 7) (σ := Int) (fun x => (14 - x).toNat) (fun x => (-13 ≤ x) ∧ (x ≤ 14)) (fun x => [(3, .int (iI x)), (2, .int (iI (dI d))), (1, .int (iI (mI d))), (0, .int (iI d))]) ?_ ((-13) : Int) ⟨by (try dsimp only); omega, by (try dsimp only); omega⟩ (lv_sub hl [0, 1, 2, 3] rfl)
  intro x hI13 ih13 ls hl
  obtain ⟨n, rfl⟩ : ∃ z, z = x := ⟨_, rfl⟩
  (try dsimp only at hI13 ih13 hl ⊢)
  have tt3 := sh_back d n
  have tt4 := shI_s d n
  have tt5 := mI_bd (shI d n)
  have tt6 := dI_b (shI d n)
  refine lv_iload_n hx hb dX0_isSoundByMonths_13 rfl (lv_at hl 0 rfl) ?_
  refine q_bip hx hb dX0_isSoundByMonths_14 (by decide) ?_
  refine q_cgt (tgt := 98) hx hb dX0_isSoundByMonths_16 (by decide) (by omega) (by omega) (fun c3 => ?_) (fun c3 => ?_)
  · refine q_con hx hb dX0_isSoundByMonths_98 ?_
    exact e_z hx hb hr hlk (by decide) hS dX0_isSoundByMonths_99 (Nat.le_refl _) (Nat.le_refl _) ⟨ex_i (by omega), rfl⟩
  · refine lv_iload_n hx hb dX0_isSoundByMonths_19 rfl (lv_at hl 3 rfl) ?_
    refine lv_iload_n hx hb dX0_isSoundByMonths_20 rfl (lv_at hl 0 rfl) ?_
    refine c_P (As := [.int (iI d), .int (iI n)]) (rest := []) fx hl (pm_X0_shifted l d n (by omega) (by omega)) dX0_isSoundByMonths_21 k140 k141 k13 k142 hd_X0_shifted rfl ⟨by decide, by decide⟩ (Nat.le_of_ble_eq_true rfl) ⟨by omega, by omega⟩ ?_
    have t0z4 := shI_s d n
    have t1z4 := shI_bd d n
    refine lv_istore (lv' := [(4, .int (iI (shI d n))), (3, .int (iI n)), (2, .int (iI (dI d))), (1, .int (iI (mI d))), (0, .int (iI d))]) hx hb dX0_isSoundByMonths_24 hl (by decide) rfl (fun ls hl => ?_)
    refine lv_iload_n hx hb dX0_isSoundByMonths_26 rfl (lv_at hl 2 rfl) ?_
    refine lv_iload_n hx hb dX0_isSoundByMonths_27 rfl (lv_at hl 3 rfl) ?_
    refine lv_iload_n hx hb dX0_isSoundByMonths_28 rfl (lv_at hl 1 rfl) ?_
    refine q_add hx hb dX0_isSoundByMonths_29 ?_
    refine c_P (As := [.int (iI ((mI d) + n))]) (rest := [.int (iI (dI d))]) fx hl (pm_X0_lengthOf l ((mI d) + n) (by omega)) dX0_isSoundByMonths_30 k147 k148 k13 k149 hd_X0_lengthOf rfl ⟨by decide, by decide⟩ (Nat.le_of_ble_eq_true rfl) ⟨by omega, by omega⟩ ?_
    refine q_nm (fun z5 ez5 => ?_)
    have t0z5 := len_b ((mI d) + n)
    refine c_P (As := [.int (iI (dI d)), .int (iI z5)]) (rest := []) fx hl (pm_min l (dI d) z5 (by omega) (by omega)) dX0_isSoundByMonths_33 k134 k135 k14 k136 hd_J9_min_7cf53 rfl ⟨by decide, by decide⟩ (Nat.le_of_ble_eq_true rfl) ⟨by omega, by omega⟩ ?_
    refine q_nm (fun z6 ez6 => ?_)
    refine lv_istore (lv' := [(5, .int (iI z6)), (4, .int (iI (shI d n))), (3, .int (iI n)), (2, .int (iI (dI d))), (1, .int (iI (mI d))), (0, .int (iI d))]) hx hb dX0_isSoundByMonths_36 hl (by decide) rfl (fun ls hl => ?_)
    refine lv_iload hx hb dX0_isSoundByMonths_38 (lv_at hl 1 rfl) ?_
    refine c_P (As := [.int (iI (shI d n))]) (rest := []) fx hl (pm_X0_monthOf l (shI d n) (by omega)) dX0_isSoundByMonths_40 k109 k110 k13 k111 hd_X0_monthOf rfl ⟨by decide, by decide⟩ (Nat.le_of_ble_eq_true rfl) ⟨by omega, by omega⟩ ?_
    have t0z7 := mI_s (shI d n)
    have t1z7 := mI_bd (shI d n)
    have t2z7 := len_b (mI (shI d n))
    refine lv_iload_n hx hb dX0_isSoundByMonths_43 rfl (lv_at hl 4 rfl) ?_
    refine lv_iload_n hx hb dX0_isSoundByMonths_44 rfl (lv_at hl 2 rfl) ?_
    refine q_add hx hb dX0_isSoundByMonths_45 ?_
    refine q_cne (tgt := 63) hx hb dX0_isSoundByMonths_46 (by decide) (by omega) (by omega) (fun c8 => ?_) (fun c8 => ?_)
    · refine q_con hx hb dX0_isSoundByMonths_63 ?_
      refine lv_istore (lv' := [(6, .int (iI 0)), (5, .int (iI z6)), (4, .int (iI (shI d n))), (3, .int (iI n)), (2, .int (iI (dI d))), (1, .int (iI (mI d))), (0, .int (iI d))]) hx hb dX0_isSoundByMonths_64 hl (by decide) rfl (fun ls hl => ?_)
      refine lv_iload hx hb dX0_isSoundByMonths_66 (lv_at hl 0 rfl) ?_
      refine q_ieq (tgt := 90) hx hb dX0_isSoundByMonths_68 (by decide) (by omega) (fun c9 => ?_) (fun c9 => ?_)
      · refine q_con hx hb dX0_isSoundByMonths_90 ?_
        exact e_z hx hb hr hlk (by decide) hS dX0_isSoundByMonths_91 (Nat.le_refl _) (Nat.le_refl _) ⟨ex_i (by omega), rfl⟩
      · refine lv_iload_n hx hb dX0_isSoundByMonths_71 rfl (lv_at hl 6 rfl) ?_
        refine lv_iload_n hx hb dX0_isSoundByMonths_72 rfl (lv_at hl 3 rfl) ?_
        obtain ⟨r10, hr10⟩ := bex (shI (shI d n) (-n) = d)
        refine c_P (As := [.int (iI d), .int (iI n)]) (rest := []) fx hl (pm_X0_comesBack l d n r10 hr10 (by omega) (by omega)) dX0_isSoundByMonths_73 k150 k151 k13 k152 hd_X0_comesBack rfl ⟨by decide, by decide⟩ (Nat.le_of_ble_eq_true rfl) ⟨by omega, by omega⟩ ?_
        have br10 : r10 = 0 ∨ r10 = 1 := hr10.elim (fun h => Or.inr h.1) (fun h => Or.inl h.1)
        refine lv_iload hx hb dX0_isSoundByMonths_76 (lv_at hl 1 rfl) ?_
        refine lv_iload_n hx hb dX0_isSoundByMonths_78 rfl (lv_at hl 4 rfl) ?_
        refine q_cne (tgt := 86) hx hb dX0_isSoundByMonths_79 (by decide) (by omega) (by omega) (fun c11 => ?_) (fun c11 => ?_)
        · refine q_con hx hb dX0_isSoundByMonths_86 ?_
          refine q_ceq (tgt := 92) hx hb dX0_isSoundByMonths_87 (by decide) (by omega) (by omega) (fun c12 => ?_) (fun c12 => ?_)
          · refine lv_iinc (v := iI (n + 1)) (lv' := [(3, .int (iI (n + 1))), (6, .int (iI 0)), (5, .int (iI z6)), (4, .int (iI (shI d n))), (2, .int (iI (dI d))), (1, .int (iI (mI d))), (0, .int (iI d))]) hx hb dX0_isSoundByMonths_92 hl (k := 3) rfl (iI_add _ _) (by decide) rfl (fun ls hl => ?_)
            refine lv_goto (tgt := 13) hx hb dX0_isSoundByMonths_95 (by decide) ?_
            exact ih13 (n + 1) _ ⟨by (try dsimp only); omega, by (try dsimp only); omega⟩ (by (try dsimp only); omega) (lv_sub hl [0, 4, 5, 6] rfl)
          · refine q_con hx hb dX0_isSoundByMonths_90 ?_
            exact e_z hx hb hr hlk (by decide) hS dX0_isSoundByMonths_91 (Nat.le_refl _) (Nat.le_refl _) ⟨ex_i (by omega), rfl⟩
        · refine q_con hx hb dX0_isSoundByMonths_82 ?_
          refine lv_goto (tgt := 87) hx hb dX0_isSoundByMonths_83 (by decide) ?_
          refine q_ceq (tgt := 92) hx hb dX0_isSoundByMonths_87 (by decide) (by omega) (by omega) (fun c13 => ?_) (fun c13 => ?_)
          · refine lv_iinc (v := iI (n + 1)) (lv' := [(3, .int (iI (n + 1))), (6, .int (iI 0)), (5, .int (iI z6)), (4, .int (iI (shI d n))), (2, .int (iI (dI d))), (1, .int (iI (mI d))), (0, .int (iI d))]) hx hb dX0_isSoundByMonths_92 hl (k := 3) rfl (iI_add _ _) (by decide) rfl (fun ls hl => ?_)
            refine lv_goto (tgt := 13) hx hb dX0_isSoundByMonths_95 (by decide) ?_
            exact ih13 (n + 1) _ ⟨by (try dsimp only); omega, by (try dsimp only); omega⟩ (by (try dsimp only); omega) (lv_sub hl [0, 4, 5, 6] rfl)
          · refine q_con hx hb dX0_isSoundByMonths_90 ?_
            exact e_z hx hb hr hlk (by decide) hS dX0_isSoundByMonths_91 (Nat.le_refl _) (Nat.le_refl _) ⟨ex_i (by omega), rfl⟩
    · refine lv_iload hx hb dX0_isSoundByMonths_49 (lv_at hl 1 rfl) ?_
      refine c_P (As := [.int (iI (shI d n))]) (rest := []) fx hl (pm_X0_dayOf l (shI d n) (by omega)) dX0_isSoundByMonths_51 k128 k129 k13 k130 hd_X0_dayOf rfl ⟨by decide, by decide⟩ (Nat.le_of_ble_eq_true rfl) ⟨by omega, by omega⟩ ?_
      have t0z14 := dI_b (shI d n)
      refine lv_iload hx hb dX0_isSoundByMonths_54 (lv_at hl 0 rfl) ?_
      refine q_cne (tgt := 63) hx hb dX0_isSoundByMonths_56 (by decide) (by omega) (by omega) (fun c15 => ?_) (fun c15 => ?_)
      · refine q_con hx hb dX0_isSoundByMonths_63 ?_
        refine lv_istore (lv' := [(6, .int (iI 0)), (5, .int (iI z6)), (4, .int (iI (shI d n))), (3, .int (iI n)), (2, .int (iI (dI d))), (1, .int (iI (mI d))), (0, .int (iI d))]) hx hb dX0_isSoundByMonths_64 hl (by decide) rfl (fun ls hl => ?_)
        refine lv_iload hx hb dX0_isSoundByMonths_66 (lv_at hl 0 rfl) ?_
        refine q_ieq (tgt := 90) hx hb dX0_isSoundByMonths_68 (by decide) (by omega) (fun c16 => ?_) (fun c16 => ?_)
        · refine q_con hx hb dX0_isSoundByMonths_90 ?_
          exact e_z hx hb hr hlk (by decide) hS dX0_isSoundByMonths_91 (Nat.le_refl _) (Nat.le_refl _) ⟨ex_i (by omega), rfl⟩
        · refine lv_iload_n hx hb dX0_isSoundByMonths_71 rfl (lv_at hl 6 rfl) ?_
          refine lv_iload_n hx hb dX0_isSoundByMonths_72 rfl (lv_at hl 3 rfl) ?_
          obtain ⟨r17, hr17⟩ := bex (shI (shI d n) (-n) = d)
          refine c_P (As := [.int (iI d), .int (iI n)]) (rest := []) fx hl (pm_X0_comesBack l d n r17 hr17 (by omega) (by omega)) dX0_isSoundByMonths_73 k150 k151 k13 k152 hd_X0_comesBack rfl ⟨by decide, by decide⟩ (Nat.le_of_ble_eq_true rfl) ⟨by omega, by omega⟩ ?_
          have br17 : r17 = 0 ∨ r17 = 1 := hr17.elim (fun h => Or.inr h.1) (fun h => Or.inl h.1)
          refine lv_iload hx hb dX0_isSoundByMonths_76 (lv_at hl 1 rfl) ?_
          refine lv_iload_n hx hb dX0_isSoundByMonths_78 rfl (lv_at hl 4 rfl) ?_
          refine q_cne (tgt := 86) hx hb dX0_isSoundByMonths_79 (by decide) (by omega) (by omega) (fun c18 => ?_) (fun c18 => ?_)
          · refine q_con hx hb dX0_isSoundByMonths_86 ?_
            refine q_ceq (tgt := 92) hx hb dX0_isSoundByMonths_87 (by decide) (by omega) (by omega) (fun c19 => ?_) (fun c19 => ?_)
            · refine lv_iinc (v := iI (n + 1)) (lv' := [(3, .int (iI (n + 1))), (6, .int (iI 0)), (5, .int (iI z6)), (4, .int (iI (shI d n))), (2, .int (iI (dI d))), (1, .int (iI (mI d))), (0, .int (iI d))]) hx hb dX0_isSoundByMonths_92 hl (k := 3) rfl (iI_add _ _) (by decide) rfl (fun ls hl => ?_)
              refine lv_goto (tgt := 13) hx hb dX0_isSoundByMonths_95 (by decide) ?_
              exact ih13 (n + 1) _ ⟨by (try dsimp only); omega, by (try dsimp only); omega⟩ (by (try dsimp only); omega) (lv_sub hl [0, 4, 5, 6] rfl)
            · refine q_con hx hb dX0_isSoundByMonths_90 ?_
              exact e_z hx hb hr hlk (by decide) hS dX0_isSoundByMonths_91 (Nat.le_refl _) (Nat.le_refl _) ⟨ex_i (by omega), rfl⟩
          · refine q_con hx hb dX0_isSoundByMonths_82 ?_
            refine lv_goto (tgt := 87) hx hb dX0_isSoundByMonths_83 (by decide) ?_
            refine q_ceq (tgt := 92) hx hb dX0_isSoundByMonths_87 (by decide) (by omega) (by omega) (fun c20 => ?_) (fun c20 => ?_)
            · refine lv_iinc (v := iI (n + 1)) (lv' := [(3, .int (iI (n + 1))), (6, .int (iI 0)), (5, .int (iI z6)), (4, .int (iI (shI d n))), (2, .int (iI (dI d))), (1, .int (iI (mI d))), (0, .int (iI d))]) hx hb dX0_isSoundByMonths_92 hl (k := 3) rfl (iI_add _ _) (by decide) rfl (fun ls hl => ?_)
              refine lv_goto (tgt := 13) hx hb dX0_isSoundByMonths_95 (by decide) ?_
              exact ih13 (n + 1) _ ⟨by (try dsimp only); omega, by (try dsimp only); omega⟩ (by (try dsimp only); omega) (lv_sub hl [0, 4, 5, 6] rfl)
            · refine q_con hx hb dX0_isSoundByMonths_90 ?_
              exact e_z hx hb hr hlk (by decide) hS dX0_isSoundByMonths_91 (Nat.le_refl _) (Nat.le_refl _) ⟨ex_i (by omega), rfl⟩
      · refine q_con hx hb dX0_isSoundByMonths_59 ?_
        refine lv_goto (tgt := 64) hx hb dX0_isSoundByMonths_60 (by decide) ?_
        refine lv_istore (lv' := [(6, .int (iI 1)), (5, .int (iI z6)), (4, .int (iI (shI d n))), (3, .int (iI n)), (2, .int (iI (dI d))), (1, .int (iI (mI d))), (0, .int (iI d))]) hx hb dX0_isSoundByMonths_64 hl (by decide) rfl (fun ls hl => ?_)
        refine lv_iload hx hb dX0_isSoundByMonths_66 (lv_at hl 0 rfl) ?_
        refine q_ieq (tgt := 90) hx hb dX0_isSoundByMonths_68 (by decide) (by omega) (fun c21 => ?_) (fun c21 => ?_)
        · refine q_con hx hb dX0_isSoundByMonths_90 ?_
          exact e_z hx hb hr hlk (by decide) hS dX0_isSoundByMonths_91 (Nat.le_refl _) (Nat.le_refl _) ⟨ex_i (by omega), rfl⟩
        · refine lv_iload_n hx hb dX0_isSoundByMonths_71 rfl (lv_at hl 6 rfl) ?_
          refine lv_iload_n hx hb dX0_isSoundByMonths_72 rfl (lv_at hl 3 rfl) ?_
          obtain ⟨r22, hr22⟩ := bex (shI (shI d n) (-n) = d)
          refine c_P (As := [.int (iI d), .int (iI n)]) (rest := []) fx hl (pm_X0_comesBack l d n r22 hr22 (by omega) (by omega)) dX0_isSoundByMonths_73 k150 k151 k13 k152 hd_X0_comesBack rfl ⟨by decide, by decide⟩ (Nat.le_of_ble_eq_true rfl) ⟨by omega, by omega⟩ ?_
          have br22 : r22 = 0 ∨ r22 = 1 := hr22.elim (fun h => Or.inr h.1) (fun h => Or.inl h.1)
          refine lv_iload hx hb dX0_isSoundByMonths_76 (lv_at hl 1 rfl) ?_
          refine lv_iload_n hx hb dX0_isSoundByMonths_78 rfl (lv_at hl 4 rfl) ?_
          refine q_cne (tgt := 86) hx hb dX0_isSoundByMonths_79 (by decide) (by omega) (by omega) (fun c23 => ?_) (fun c23 => ?_)
          · refine q_con hx hb dX0_isSoundByMonths_86 ?_
            refine q_ceq (tgt := 92) hx hb dX0_isSoundByMonths_87 (by decide) (by omega) (by omega) (fun c24 => ?_) (fun c24 => ?_)
            · refine lv_iinc (v := iI (n + 1)) (lv' := [(3, .int (iI (n + 1))), (6, .int (iI 1)), (5, .int (iI z6)), (4, .int (iI (shI d n))), (2, .int (iI (dI d))), (1, .int (iI (mI d))), (0, .int (iI d))]) hx hb dX0_isSoundByMonths_92 hl (k := 3) rfl (iI_add _ _) (by decide) rfl (fun ls hl => ?_)
              refine lv_goto (tgt := 13) hx hb dX0_isSoundByMonths_95 (by decide) ?_
              exact ih13 (n + 1) _ ⟨by (try dsimp only); omega, by (try dsimp only); omega⟩ (by (try dsimp only); omega) (lv_sub hl [0, 4, 5, 6] rfl)
            · refine q_con hx hb dX0_isSoundByMonths_90 ?_
              exact e_z hx hb hr hlk (by decide) hS dX0_isSoundByMonths_91 (Nat.le_refl _) (Nat.le_refl _) ⟨ex_i (by omega), rfl⟩
          · refine q_con hx hb dX0_isSoundByMonths_82 ?_
            refine lv_goto (tgt := 87) hx hb dX0_isSoundByMonths_83 (by decide) ?_
            refine q_ceq (tgt := 92) hx hb dX0_isSoundByMonths_87 (by decide) (by omega) (by omega) (fun c25 => ?_) (fun c25 => ?_)
            · refine lv_iinc (v := iI (n + 1)) (lv' := [(3, .int (iI (n + 1))), (6, .int (iI 1)), (5, .int (iI z6)), (4, .int (iI (shI d n))), (2, .int (iI (dI d))), (1, .int (iI (mI d))), (0, .int (iI d))]) hx hb dX0_isSoundByMonths_92 hl (k := 3) rfl (iI_add _ _) (by decide) rfl (fun ls hl => ?_)
              refine lv_goto (tgt := 13) hx hb dX0_isSoundByMonths_95 (by decide) ?_
              exact ih13 (n + 1) _ ⟨by (try dsimp only); omega, by (try dsimp only); omega⟩ (by (try dsimp only); omega) (lv_sub hl [0, 4, 5, 6] rfl)
            · refine q_con hx hb dX0_isSoundByMonths_90 ?_
              exact e_z hx hb hr hlk (by decide) hS dX0_isSoundByMonths_91 (Nat.le_refl _) (Nat.le_refl _) ⟨ex_i (by omega), rfl⟩

set_option maxHeartbeats 4000000 in
set_option maxRecDepth 100000 in
theorem pm_X0_isSoundPair (l : Launch) (d o : Int) (h_0 : -5000000 ≤ d ∧ d ≤ 5000000) (h_1 : -5000000 ≤ o ∧ o ≤ 5000000) (h_2 : d ≤ o) : PM l yX0_isSoundPair cX0_isSoundPair 4 (some .boolean) 5 114 [.int (iI d), .int (iI o)] (.int (iI 1)) := by
  intro S0 H
  refine ct_of (by decide +kernel) (Nat.le_of_ble_eq_true rfl) ?_
  intro pg en s mi args below meth co ls fx hs hr hlk hxt hin hl
  subst hs
  obtain ⟨hx, hb, hml, hown, hts⟩ := id fx.1
  have hS : va_S (fun _ => False) s.heap s.heap [] := va_S.rf
  have tt1 := sh_mono (n := 1) (show d ≤ o by omega)
  have tt2 := mI_bd d
  have tt3 := mI_bd o
  have tt4 := mu_b d o
  refine lv_iload_n hx hb dX0_isSoundPair_0 rfl (lv_at hl 0 rfl) ?_
  refine lv_iload_n hx hb dX0_isSoundPair_1 rfl (lv_at hl 1 rfl) ?_
  refine c_P (As := [.int (iI d), .int (iI o)]) (rest := []) fx hl (pm_X0_monthsUntil l d o (by omega) (by omega)) dX0_isSoundPair_2 k156 k157 k13 k158 hd_X0_monthsUntil rfl ⟨by decide, by decide⟩ (Nat.le_of_ble_eq_true rfl) ⟨by omega, by omega⟩ ?_
  have t0z1 := mu_b d o
  have t1z1 := mI_bd d
  have t2z1 := mI_bd o
  refine lv_istore_n (lv' := [(2, .int (iI (muI d o))), (0, .int (iI d)), (1, .int (iI o))]) hx hb dX0_isSoundPair_5 rfl hl (by decide) rfl (fun ls hl => ?_)
  refine lv_iload_n hx hb dX0_isSoundPair_6 rfl (lv_at hl 2 rfl) ?_
  refine lv_iload_n hx hb dX0_isSoundPair_7 rfl (lv_at hl 1 rfl) ?_
  refine lv_iload_n hx hb dX0_isSoundPair_8 rfl (lv_at hl 0 rfl) ?_
  refine c_P (As := [.int (iI d), .int (iI (muI d o))]) (rest := [.int (iI o)]) fx hl (pm_X0_shifted l d (muI d o) (by omega) (by omega)) dX0_isSoundPair_9 k140 k141 k13 k142 hd_X0_shifted rfl ⟨by decide, by decide⟩ (Nat.le_of_ble_eq_true rfl) ⟨by omega, by omega⟩ ?_
  have t0z2 := shI_s d (muI d o)
  have t1z2 := shI_bd d (muI d o)
  refine q_sub hx hb dX0_isSoundPair_12 ?_
  refine q_nm (fun z3 ez3 => ?_)
  refine lv_istore_n (lv' := [(3, .int (iI z3)), (2, .int (iI (muI d o))), (0, .int (iI d)), (1, .int (iI o))]) hx hb dX0_isSoundPair_13 rfl hl (by decide) rfl (fun ls hl => ?_)
  refine lv_iload_n hx hb dX0_isSoundPair_14 rfl (lv_at hl 2 rfl) ?_
  refine lv_iload_n hx hb dX0_isSoundPair_15 rfl (lv_at hl 1 rfl) ?_
  refine lv_iload_n hx hb dX0_isSoundPair_16 rfl (lv_at hl 0 rfl) ?_
  refine c_P (As := [.int (iI d), .int (iI (muI d o)), .int (iI z3)]) (rest := []) fx hl (pm_X0_monthsFirst l d (muI d o) z3 (by omega) (by omega)) dX0_isSoundPair_17 k159 k160 k13 k161 hd_X0_monthsFirst rfl ⟨by decide, by decide⟩ (Nat.le_of_ble_eq_true rfl) ⟨by omega, by omega⟩ ?_
  refine q_nm (fun z4 ez4 => ?_)
  have t0z4 := shI_bd d (muI d o)
  refine lv_iload_n hx hb dX0_isSoundPair_20 rfl (lv_at hl 3 rfl) ?_
  refine q_cne (tgt := 41) hx hb dX0_isSoundPair_21 (by decide) (by omega) (by omega) (fun c5 => ?_) (fun c5 => ?_)
  · refine q_con hx hb dX0_isSoundPair_41 ?_
    exact e_z hx hb hr hlk (by decide) hS dX0_isSoundPair_42 (Nat.le_refl _) (Nat.le_refl _) ⟨ex_i (by omega), rfl⟩
  · refine lv_iload_n hx hb dX0_isSoundPair_24 rfl (lv_at hl 2 rfl) ?_
    refine q_con hx hb dX0_isSoundPair_25 ?_
    refine c_P (As := [.int (iI d), .int (iI 1)]) (rest := []) fx hl (pm_X0_shifted l d 1 (by omega) (by omega)) dX0_isSoundPair_26 k140 k141 k13 k142 hd_X0_shifted rfl ⟨by decide, by decide⟩ (Nat.le_of_ble_eq_true rfl) ⟨by omega, by omega⟩ ?_
    have t0z6 := shI_s d 1
    have t1z6 := shI_bd d 1
    refine lv_iload_n hx hb dX0_isSoundPair_29 rfl (lv_at hl 3 rfl) ?_
    refine q_con hx hb dX0_isSoundPair_30 ?_
    refine c_P (As := [.int (iI o), .int (iI 1)]) (rest := [.int (iI (shI d 1))]) fx hl (pm_X0_shifted l o 1 (by omega) (by omega)) dX0_isSoundPair_31 k140 k141 k13 k142 hd_X0_shifted rfl ⟨by decide, by decide⟩ (Nat.le_of_ble_eq_true rfl) ⟨by omega, by omega⟩ ?_
    have t0z7 := shI_s o 1
    have t1z7 := shI_bd o 1
    refine q_cgt (tgt := 41) hx hb dX0_isSoundPair_34 (by decide) (by omega) (by omega) (fun c8 => ?_) (fun c8 => ?_)
    · refine q_con hx hb dX0_isSoundPair_41 ?_
      exact e_z hx hb hr hlk (by decide) hS dX0_isSoundPair_42 (Nat.le_refl _) (Nat.le_refl _) ⟨ex_i (by omega), rfl⟩
    · refine q_con hx hb dX0_isSoundPair_37 ?_
      refine lv_goto (tgt := 42) hx hb dX0_isSoundPair_38 (by decide) ?_
      exact e_z hx hb hr hlk (by decide) hS dX0_isSoundPair_42 (Nat.le_refl _) (Nat.le_refl _) ⟨ex_i (by omega), rfl⟩
