theorem LI.ob {θ : TH} {H : Heap} {L d cap k : Nat} {el : Nat → Int} (h : LI θ H L d cap k el) : OB θ H L 6 [.int (iI k), .ref d, .int (iI k)] := h.elim fun _ q => q.1
theorem up_same (f : Nat → Int) (k : Nat) (v : Int) (h : v = f k) : up f k v = f := funext fun j => by
  by_cases e : j = k
  · subst e
    rw [up_s, h]
  · rw [up_n _ _ e]
section M9
variable {p : Program} {l : Launch} {e : Env} {R : Room} {s : State} {m : MethodId} {args : Array Value} {below : List Frame} {meth : Method} {c : Code} {H : Heap} {locs : List Loc} {cells slots : Nat} {Q : State → Prop} {cc : ByteArray} {pc : Nat} {ls : Array Slot} {rest : List Value} {θ : TH}
/-- any int -/
theorem q_any {a : Int} (k : ∀ z : Int, -2147483648 ≤ z ∧ z < 2147483648 → W p l e R s m args below meth c H locs cells slots Q (F0 m pc ls (.int (iI z) :: rest))) : W p l e R s m args below meth c H locs cells slots Q (F0 m pc ls (.int (iI a) :: rest)) := by
  have h1 := Int32.le_toInt (iI a)
  have h2 := Int32.toInt_lt (iI a)
  have h3 := k (iI a).toInt ⟨by omega, by omega⟩
  rw [iI_of] at h3
  exact h3
theorem r_ialen (hexec : p.tables.exec = Jvm.exec) (hb : c.code = cc) (hK : va_K θ.1 vwCl (tyS θ) s) {a n : Nat} {g : Nat → Int} (ha : AI θ H a n g) (d : decode cc pc = .ok (.arraylength, 1))
    (kk : W p l e R s m args below meth c H locs cells slots Q (F0 m (pc + 1) ls (.int (iI n) :: rest))) : W p l e R s m args below meth c H locs cells slots Q (F0 m pc ls (.ref a :: rest)) :=
  W.alen (n := iI n) hexec hb ha ((hK.2 0 _ rfl).1 n _) (by rw [vp_cell_i, arrV_size]; exact (Int32.ofInt_eq_ofNat (n := n)).symm) rfl rfl d kk
end M9
set_option maxHeartbeats 4000000 in
set_option maxRecDepth 100000 in
theorem jp_digits (θ : TH) (l : Launch) (S0 : State) (H : Heap) (hz : SZ θ S0 H) (hj : SJ θ S0 H) (a b : Int) (h_0 : 0 ≤ a ∧ a < 10000) (h_1 : 1 ≤ b ∧ b ≤ 4) (h_2 : sgI a ≤ b) : CT l yX3_digits cX3_digits 3 (some (.object "java/lang/String")) 6 171 16 160 [.int (iI a), .int (iI b)] S0 H (fun v9 H1 => ∃ x : Nat, v9 = some (.ref x) ∧ H.size ≤ x ∧ ∃ y : Nat, H.size ≤ y ∧ STg S0 H1 x y b.toNat) (fun _ _ => False) (fun x : Nat => H.size ≤ x) := by
  refine ct_of (by decide +kernel) (Nat.le_of_ble_eq_true rfl) ?_
  intro pg en s mi args below meth co ls fx hs hr hlk hxt hin hl
  subst hs
  obtain ⟨hx, hb, hml, hown, hts⟩ := id fx.1
  have hS : va_S (fun x : Nat => s.heap.size ≤ x) s.heap s.heap [] := va_S.rf
  have hz2 := hz.2.1
  have hAB : ∀ x : Nat, (fun x : Nat => s.heap.size ≤ x) x → θ.2.2.2 ≤ x := fun x hx => by (try dsimp only at hx); omega
  have hAn : ∀ x : Nat, s.heap.size ≤ x → (fun x : Nat => s.heap.size ≤ x) x := fun _ h => h
  have hz0 := hz
  have hj0 := hj
  have hK := sz_K fx.2 hz
  have tsa := sgI_b a
  refine r_new (θ := θ) (ci := 1) (fs := [.null, .int (iI 0), .int (iI 0), .int (iI 0)]) (C := RJ4) (T := TJ4) (N := 4) hx hb hts gwJ4 tyJ4 tyJ4_ok hown k1466 k40 k3 hK hS rfl (fun j hj => by rcases (show j = 0 ∨ j = 1 ∨ j = 2 ∨ j = 3 by omega) with rfl | rfl | rfl | rfl <;> rfl) (by (try dsimp only); omega) (by (try dsimp only); omega) dX3_digits_0 (fun H1 hnH1 hszH1 hkH1 hS => ?_)
  have hzH1 := hz0.at hAB hS
  have hjH1 := hj0.at hAB hS
  have lnH1 := hnH1.lt
  refine lv_dup hx hb dX3_digits_3 rfl ?_
  refine c_Ir (As := []) (rest := [.ref s.heap.size]) (r := none) (st1 := [.ref s.heap.size]) fx hl (jm_sbInit θ l S0 _ hzH1 hjH1 s.heap.size hnH1 (by omega)) dX3_digits_4 k1467 k42 k3 k43 rfl hd_J4_init_da8c8 rfl rfl ⟨by decide, by decide⟩ (Nat.le_of_ble_eq_true rfl) ⟨by (try dsimp only); omega, by (try dsimp only); omega⟩ hS (fun x hx => by first | exact hx.elim | ((try dsimp only at hx ⊢); omega)) (fun H2 locs hpH2 hsz0H2 hk0H2 hS => ?_)
  obtain ⟨hszH2, hoH2_0⟩ := hpH2
  have hkH2 : ∀ q : Nat, q < (H1).size → ¬ (q = s.heap.size) → H2[q]? = (H1)[q]? := fun q hq hn => hk0H2 q hq (by (try dsimp only); omega)
  have lhoH2_0 := hoH2_0.lt
  have hzH2 := hz0.at hAB hS
  have hjH2 := hj0.at hAB hS
  refine va_ldcS hx hb hown (vk_R.warm fx.2 hj0.1.2.2.2.2.2.2.1) dX3_digits_7 ?_
  have c3 := (hjH2.2.2.2.2.2.2.2.1).g
  have lc3 := c3.lt
  have mc3 := (hj0.2.2.2.2.2.2.2.1).g.lt
  refine c_Vr (C := "java/lang/StringBuilder") (As := [.ref (θ.2.2.1 24)]) (rest := []) (r := some (.ref s.heap.size)) (st1 := [.ref s.heap.size]) fx hl (jm_appendS θ l S0 _ hzH2 hjH2 s.heap.size (θ.2.2.1 24) H1.size 16 0 (θ.2.2.1 28) 0 hoH2_0 c3 (by omega) (by omega) (by omega) (by omega) (by omega) (by omega) (by omega)) (ob_recv hK hoH2_0.split.choose_spec.1 rfl) dX3_digits_9 k1468 k340 k341 k3 k342 hd_J4_append_15ec4 rfl rfl ⟨by decide, by decide⟩ (Nat.le_of_ble_eq_true rfl) ⟨by (try dsimp only); omega, by (try dsimp only); omega⟩ hS (fun x hx => by first | exact hx.elim | ((try dsimp only at hx ⊢); omega)) (fun H4 locs hpH4 hsz0H4 hk0H4 hS => ?_)
  obtain ⟨hszH4, hoH4_0⟩ := hpH4
  have hkH4 : ∀ q : Nat, q < (H2).size → ¬ (q = s.heap.size ∨ q = H1.size) → H4[q]? = (H2)[q]? := fun q hq hn => hk0H4 q hq (by (try dsimp only); omega)
  have c3_H4 := c3.kept (hkH4 _ c3.lt.1 (by omega)) (hkH4 _ c3.lt.2 (by omega))
  have lhoH4_0 := hoH4_0.lt
  have hzH4 := hz0.at hAB hS
  have hjH4 := hj0.at hAB hS
  refine lv_iload_n hx hb dX3_digits_12 rfl (lv_at hl 0 rfl) ?_
  refine c_Vr (C := "java/lang/StringBuilder") (As := [.int (iI a)]) (rest := []) (r := some (.ref s.heap.size)) (st1 := [.ref s.heap.size]) fx hl (jm_appendI θ l S0 _ hzH4 hjH4 s.heap.size a H1.size 16 (0 + 0) hoH4_0 (by omega) (by omega) (by omega) (by omega) (by omega) (by omega)) (ob_recv hK hoH4_0.split.choose_spec.1 rfl) dX3_digits_13 k1474 k458 k459 k3 k460 hd_J4_append_bf812 rfl rfl ⟨by decide, by decide⟩ (Nat.le_of_ble_eq_true rfl) ⟨by (try dsimp only); omega, by (try dsimp only); omega⟩ hS (fun x hx => by first | exact hx.elim | ((try dsimp only at hx ⊢); omega)) (fun H5 locs hpH5 hsz0H5 hk0H5 hS => ?_)
  obtain ⟨hszH5, hoH5_0⟩ := hpH5
  have hkH5 : ∀ q : Nat, q < (H4).size → ¬ (q = s.heap.size ∨ q = H1.size) → H5[q]? = (H4)[q]? := fun q hq hn => hk0H5 q hq (by (try dsimp only); omega)
  have c3_H5 := c3_H4.kept (hkH5 _ c3_H4.lt.1 (by omega)) (hkH5 _ c3_H4.lt.2 (by omega))
  have lhoH5_0 := hoH5_0.lt
  have hzH5 := hz0.at hAB hS
  have hjH5 := hj0.at hAB hS
  refine c_Vr (C := "java/lang/StringBuilder") (As := []) (rest := []) (r := some (.ref H5.size)) (st1 := [.ref H5.size]) fx hl (jm_toString θ l S0 _ hzH5 hjH5 s.heap.size H1.size 16 ((0 + 0) + sgI a) hoH5_0 (by omega) (by omega) (by omega)) (ob_recv hK hoH5_0.split.choose_spec.1 rfl) dX3_digits_16 k1475 k483 k484 k3 k485 hd_J4_toString_0e30d rfl rfl ⟨by decide, by decide⟩ (Nat.le_of_ble_eq_true rfl) ⟨by (try dsimp only); omega, by (try dsimp only); omega⟩ hS (fun x hx => by first | exact hx.elim | ((try dsimp only at hx ⊢); omega)) (fun H6 locs hpH6 hsz0H6 hk0H6 hS => ?_)
  obtain ⟨hszH6, hoH6_0, hoH6_1⟩ := hpH6
  have hkH6 : ∀ q : Nat, q < (H5).size → H6[q]? = (H5)[q]? := fun q hq => hk0H6 q hq (Nat.not_le.mpr hq)
  have hoH5_0_H6 := hoH5_0.kept (hkH6 _ hoH5_0.lt.1) (hkH6 _ hoH5_0.lt.2)
  have c3_H6 := c3_H5.kept (hkH6 _ c3_H5.lt.1) (hkH6 _ c3_H5.lt.2)
  have lhoH6_0 := hoH6_0.lt
  have lhoH6_1 := hoH6_1.lt
  have hzH6 := hz0.at hAB hS
  have hjH6 := hj0.at hAB hS
  refine lv_astore_n (lv' := [(2, .ref H5.size), (0, .int (iI a)), (1, .int (iI b))]) hx hb dX3_digits_19 rfl hl (by decide) rfl (fun ls hl => ?_)
  refine w_loopH (nL := 3) (σ := Nat × Nat × Nat) (fun x => (b - (x.2.2 : Int)).toNat) (fun x H1 locs1 c9 s9 => ((s.heap.size ≤ x.1 ∧ s.heap.size ≤ x.2.1) ∧ (sgI a ≤ (x.2.2 : Int) ∧ (x.2.2 : Int) ≤ b)) ∧ STg S0 H1 x.1 x.2.1 x.2.2 ∧ va_S (fun x : Nat => s.heap.size ≤ x) s.heap H1 locs1 ∧ c9 ≤ 4 + 4 * (x.2.2 - 1) ∧ s9 ≤ 40 + 40 * (x.2.2 - 1)) (fun x => [(2, .ref x.1), (0, .int (iI a)), (1, .int (iI b))]) ?_ ((H5.size : Nat), ((H5.size + 1) : Nat), (Int.toNat (((0 + 0) + sgI a)) : Nat)) ⟨⟨by first | ((try dsimp only); omega) | (dsimp only; done), by first | ((try dsimp only); omega) | (dsimp only; done)⟩, (by exact hoH6_0), hS, by (try dsimp only); omega, by (try dsimp only); omega⟩ (lv_sub hl [0, 1, 2] rfl)
  intro x H7 locs cells slots hJ20 ih20 ls hl
  obtain ⟨md, bb, ln⟩ := x
  obtain ⟨hI20, hf0H7, hS, hcH7, hsH7⟩ := hJ20
  (try dsimp only at hI20 hcH7 hsH7 ih20 hl ⊢)
  (try dsimp only at hf0H7)
  have hsgeH7 := hS.1
  have hzH7 := hz0.at hAB hS
  have hjH7 := hj0.at hAB hS
  have lhf0H7 := hf0H7.lt
  refine lv_aload_n hx hb dX3_digits_20 rfl (lv_at hl 0 rfl) ?_
  refine c_Vr (C := "java/lang/String") (As := []) (rest := []) (r := some (.int (iI (ln : Int)))) (st1 := [.int (iI (ln : Int))]) fx hl (jm_length θ l S0 _ hzH7 hjH7 md bb ln hf0H7 (by omega)) (o_recv fx.2 hf0H7.1) dX3_digits_21 k1592 k415 k416 k4 k417 hd_J0_length_8abf5 rfl rfl ⟨by decide, by decide⟩ (Nat.le_of_ble_eq_true rfl) ⟨by (try dsimp only); omega, by (try dsimp only); omega⟩ hS (fun x hx => by first | exact hx.elim | ((try dsimp only at hx ⊢); omega)) (fun H8 locs hpH8 hsz0H8 hk0H8 hS => ?_)
  obtain rfl := hpH8.symm
  refine q_nm (fun z9 ez9 => ?_)
  refine lv_iload_n hx hb dX3_digits_24 rfl (lv_at hl 2 rfl) ?_
  refine q_cge (tgt := 51) hx hb dX3_digits_25 (by decide) (by omega) (by omega) (fun c10 => ?_) (fun c10 => ?_)
  · refine lv_aload_n hx hb dX3_digits_51 rfl (lv_at hl 0 rfl) ?_
    exact e_a hx hb hr (by first | exact Or.inl ⟨_, rfl⟩ | exact Or.inr ⟨_, rfl⟩) hlk hS dX3_digits_52 (by first | exact Nat.le_of_ble_eq_true rfl | ((try dsimp only); omega)) (by first | exact Nat.le_of_ble_eq_true rfl | ((try dsimp only); omega)) ⟨_, rfl, by omega, bb, by omega, by rw [show b.toNat = ln by omega]; exact hf0H7⟩
  · refine r_new (θ := θ) (ci := 1) (fs := [.null, .int (iI 0), .int (iI 0), .int (iI 0)]) (C := RJ4) (T := TJ4) (N := 4) hx hb hts gwJ4 tyJ4 tyJ4_ok hown k1466 k40 k3 hK hS rfl (fun j hj => by rcases (show j = 0 ∨ j = 1 ∨ j = 2 ∨ j = 3 by omega) with rfl | rfl | rfl | rfl <;> rfl) (by (try dsimp only); omega) (by (try dsimp only); omega) dX3_digits_28 (fun H11 hnH11 hszH11 hkH11 hS => ?_)
    have hf0H7_H11 := hf0H7.kept (hkH11 _ hf0H7.lt.1) (hkH11 _ hf0H7.lt.2)
    have hzH11 := hz0.at hAB hS
    have hjH11 := hj0.at hAB hS
    have lnH11 := hnH11.lt
    refine lv_dup hx hb dX3_digits_31 rfl ?_
    refine c_Ir (As := []) (rest := [.ref H7.size]) (r := none) (st1 := [.ref H7.size]) fx hl (jm_sbInit θ l S0 _ hzH11 hjH11 H7.size hnH11 (by omega)) dX3_digits_32 k1467 k42 k3 k43 rfl hd_J4_init_da8c8 rfl rfl ⟨by decide, by decide⟩ (Nat.le_of_ble_eq_true rfl) ⟨by (try dsimp only); omega, by (try dsimp only); omega⟩ hS (fun x hx => by first | exact hx.elim | ((try dsimp only at hx ⊢); omega)) (fun H12 locs hpH12 hsz0H12 hk0H12 hS => ?_)
    obtain ⟨hszH12, hoH12_0⟩ := hpH12
    have hkH12 : ∀ q : Nat, q < (H11).size → ¬ (q = H7.size) → H12[q]? = (H11)[q]? := fun q hq hn => hk0H12 q hq (by (try dsimp only); omega)
    have hf0H7_H12 := hf0H7_H11.kept (hkH12 _ hf0H7_H11.lt.1 (by omega)) (hkH12 _ hf0H7_H11.lt.2 (by omega))
    have lhoH12_0 := hoH12_0.lt
    have hzH12 := hz0.at hAB hS
    have hjH12 := hj0.at hAB hS
    refine va_ldcS hx hb hown (vk_R.warm fx.2 hj0.1.2.2.2.2.2.2.2.2.2) dX3_digits_35 ?_
    have c13 := (hjH12.2.2.2.2.2.2.2.2.2.2).g
    have lc13 := c13.lt
    have mc13 := (hj0.2.2.2.2.2.2.2.2.2.2).g.lt
    refine c_Vr (C := "java/lang/StringBuilder") (As := [.ref (θ.2.2.1 27)]) (rest := []) (r := some (.ref H7.size)) (st1 := [.ref H7.size]) fx hl (jm_appendS θ l S0 _ hzH12 hjH12 H7.size (θ.2.2.1 27) H11.size 16 0 (θ.2.2.1 31) 1 hoH12_0 c13 (by omega) (by omega) (by omega) (by omega) (by omega) (by omega) (by omega)) (ob_recv hK hoH12_0.split.choose_spec.1 rfl) dX3_digits_37 k1468 k340 k341 k3 k342 hd_J4_append_15ec4 rfl rfl ⟨by decide, by decide⟩ (Nat.le_of_ble_eq_true rfl) ⟨by (try dsimp only); omega, by (try dsimp only); omega⟩ hS (fun x hx => by first | exact hx.elim | ((try dsimp only at hx ⊢); omega)) (fun H14 locs hpH14 hsz0H14 hk0H14 hS => ?_)
    obtain ⟨hszH14, hoH14_0⟩ := hpH14
    have hkH14 : ∀ q : Nat, q < (H12).size → ¬ (q = H7.size ∨ q = H11.size) → H14[q]? = (H12)[q]? := fun q hq hn => hk0H14 q hq (by (try dsimp only); omega)
    have hf0H7_H14 := hf0H7_H12.kept (hkH14 _ hf0H7_H12.lt.1 (by omega)) (hkH14 _ hf0H7_H12.lt.2 (by omega))
    have c13_H14 := c13.kept (hkH14 _ c13.lt.1 (by omega)) (hkH14 _ c13.lt.2 (by omega))
    have lhoH14_0 := hoH14_0.lt
    have hzH14 := hz0.at hAB hS
    have hjH14 := hj0.at hAB hS
    refine lv_aload_n hx hb dX3_digits_40 rfl (lv_at hl 0 rfl) ?_
    refine c_Vr (C := "java/lang/StringBuilder") (As := [.ref md]) (rest := []) (r := some (.ref H7.size)) (st1 := [.ref H7.size]) fx hl (jm_appendS θ l S0 _ hzH14 hjH14 H7.size md H11.size 16 (0 + 1) bb ln hoH14_0 hf0H7_H14 (by omega) (by omega) (by omega) (by omega) (by omega) (by omega) (by omega)) (ob_recv hK hoH14_0.split.choose_spec.1 rfl) dX3_digits_41 k1468 k340 k341 k3 k342 hd_J4_append_15ec4 rfl rfl ⟨by decide, by decide⟩ (Nat.le_of_ble_eq_true rfl) ⟨by (try dsimp only); omega, by (try dsimp only); omega⟩ hS (fun x hx => by first | exact hx.elim | ((try dsimp only at hx ⊢); omega)) (fun H15 locs hpH15 hsz0H15 hk0H15 hS => ?_)
    obtain ⟨hszH15, hoH15_0⟩ := hpH15
    have hkH15 : ∀ q : Nat, q < (H14).size → ¬ (q = H7.size ∨ q = H11.size) → H15[q]? = (H14)[q]? := fun q hq hn => hk0H15 q hq (by (try dsimp only); omega)
    have hf0H7_H15 := hf0H7_H14.kept (hkH15 _ hf0H7_H14.lt.1 (by omega)) (hkH15 _ hf0H7_H14.lt.2 (by omega))
    have c13_H15 := c13_H14.kept (hkH15 _ c13_H14.lt.1 (by omega)) (hkH15 _ c13_H14.lt.2 (by omega))
    have lhoH15_0 := hoH15_0.lt
    have hzH15 := hz0.at hAB hS
    have hjH15 := hj0.at hAB hS
    refine c_Vr (C := "java/lang/StringBuilder") (As := []) (rest := []) (r := some (.ref H15.size)) (st1 := [.ref H15.size]) fx hl (jm_toString θ l S0 _ hzH15 hjH15 H7.size H11.size 16 ((0 + 1) + ln) hoH15_0 (by omega) (by omega) (by omega)) (ob_recv hK hoH15_0.split.choose_spec.1 rfl) dX3_digits_44 k1475 k483 k484 k3 k485 hd_J4_toString_0e30d rfl rfl ⟨by decide, by decide⟩ (Nat.le_of_ble_eq_true rfl) ⟨by (try dsimp only); omega, by (try dsimp only); omega⟩ hS (fun x hx => by first | exact hx.elim | ((try dsimp only at hx ⊢); omega)) (fun H16 locs hpH16 hsz0H16 hk0H16 hS => ?_)
    obtain ⟨hszH16, hoH16_0, hoH16_1⟩ := hpH16
    have hkH16 : ∀ q : Nat, q < (H15).size → H16[q]? = (H15)[q]? := fun q hq => hk0H16 q hq (Nat.not_le.mpr hq)
    have hoH15_0_H16 := hoH15_0.kept (hkH16 _ hoH15_0.lt.1) (hkH16 _ hoH15_0.lt.2)
    have hf0H7_H16 := hf0H7_H15.kept (hkH16 _ hf0H7_H15.lt.1) (hkH16 _ hf0H7_H15.lt.2)
    have c13_H16 := c13_H15.kept (hkH16 _ c13_H15.lt.1) (hkH16 _ c13_H15.lt.2)
    have lhoH16_0 := hoH16_0.lt
    have lhoH16_1 := hoH16_1.lt
    have hzH16 := hz0.at hAB hS
    have hjH16 := hj0.at hAB hS
    refine lv_astore_n (lv' := [(2, .ref H15.size), (0, .int (iI a)), (1, .int (iI b))]) hx hb dX3_digits_47 rfl hl (by decide) rfl (fun ls hl => ?_)
    refine lv_goto (tgt := 20) hx hb dX3_digits_48 (by decide) ?_
    exact ih20 ((H15.size : Nat), ((H15.size + 1) : Nat), (Int.toNat (((0 + 1) + ln)) : Nat)) _ _ _ _ _ ⟨⟨by first | ((try dsimp only); omega) | (dsimp only; done), by first | ((try dsimp only); omega) | (dsimp only; done)⟩, (by exact hoH16_0), hS, by (try dsimp only); omega, by (try dsimp only); omega⟩ (by (try dsimp only); omega) (lv_sub hl [0, 1, 2] rfl)

set_option maxHeartbeats 4000000 in
set_option maxRecDepth 100000 in
theorem jp_textNow (θ : TH) (l : Launch) (S0 : State) (H : Heap) (w : Nat → Nat) (r q : Nat → Nat) (dt : Nat → Int) (sv : Nat → Nat → Int) (th dn rf kn : Int) (hw : MWR θ S0 w H r q dt sv th dn rf kn) (hj : SJ θ S0 H) (a : Int) (h_0 : 0 ≤ a ∧ a < 6) : CT l yX3_textNow cX3_textNow 3 (some (.object "java/lang/String")) 7 193 52 520 [.ref (w 0), .int (iI a)] S0 H (fun v9 H1 => ∃ x : Nat, v9 = some (.ref x) ∧ H.size ≤ x ∧ ∃ y : Nat, H.size ≤ y ∧ STg S0 H1 x y (if mI (dt a.toNat) / 12 < 0 then 11 else 10)) (fun _ _ => False) (fun x : Nat => H.size ≤ x) := by
  refine ct_of (by decide +kernel) (Nat.le_of_ble_eq_true rfl) ?_
  intro pg en s mi args below meth co ls fx hs hr hlk hxt hin hl
  subst hs
  obtain ⟨hx, hb, hml, hown, hts⟩ := id fx.1
  have hS : va_S (fun x : Nat => s.heap.size ≤ x) s.heap s.heap [] := va_S.rf
  obtain ⟨hz, hu, hm, hd, hsv⟩ := id hw
  have hlt0 := hm.lt
  have hu1 := hu.1
  have hz2 := hz.2.1
  have hAB : ∀ x : Nat, (fun x : Nat => s.heap.size ≤ x) x → θ.2.2.2 ≤ x := fun x hx => by (try dsimp only at hx); omega
  have hAn : ∀ x : Nat, s.heap.size ≤ x → (fun x : Nat => s.heap.size ≤ x) x := fun _ h => h
  have hz0 := hz
  have hj0 := hj
  have hK := sz_K fx.2 hz
  have tt0 := hd a.toNat (by omega)
  have tt1 := inR tt0
  have tt2 := dI_b (dt a.toNat)
  have tsd := sgI_b (dI (dt a.toNat))
  refine lv_aload_n hx hb dX3_textNow_0 rfl (lv_at hl 0 rfl) ?_
  refine r_get (θ := θ) (C := RX3) (T := TX3) (N := 6) (ci := 9) hx hb hts gwX3 hown hK hm.1 rfl 4 (by decide) k1094 (fun _ h => h) (v := .ref (w 1)) rfl dX3_textNow_1 ?_
  refine lv_iload_n hx hb dX3_textNow_4 rfl (lv_at hl 1 rfl) ?_
  refine r_aald (θ := θ) hx hb hK hm.2.1 (i := a) (by omega) (by decide) dX3_textNow_5 ?_
  have rw1 := (hm.2.2.2.1 (a.toNat) (by omega)).1
  have rw1n := (hm.2.2.2.1 (a.toNat) (by omega)).2
  have rw1t := hd (a.toNat) (by omega)
  have rw1l := rw1.lt
  have rw1i := inR rw1t
  have rw1m := inM rw1i
  have rw1d := dI_b (dt a.toNat)
  refine q_con hx hb dX3_textNow_6 ?_
  refine r_iald (θ := θ) hx hb hK rw1 (i := 0) (by omega) (by decide) dX3_textNow_7 ?_
  refine q_as (mI (dt a.toNat)) rfl ?_
  refine q_bip hx hb dX3_textNow_8 (by decide) ?_
  refine c_P (As := [.int (iI (mI (dt a.toNat))), .int (iI 12)]) (rest := []) fx hl (pm_X3_down l (mI (dt a.toNat)) 12 (by omega) (by omega)) dX3_textNow_10 k1073 k1074 k6 k1075 hd_X3_down rfl ⟨by decide, by decide⟩ (Nat.le_of_ble_eq_true rfl) ⟨by dsimp only; omega, by dsimp only; omega⟩ ?_
  refine q_nm (fun z2 ez2 => ?_)
  refine lv_istore_n (lv' := [(2, .int (iI z2)), (0, .ref (w 0)), (1, .int (iI a))]) hx hb dX3_textNow_13 rfl hl (by decide) rfl (fun ls hl => ?_)
  refine r_new (θ := θ) (ci := 1) (fs := [.null, .int (iI 0), .int (iI 0), .int (iI 0)]) (C := RJ4) (T := TJ4) (N := 4) hx hb hts gwJ4 tyJ4 tyJ4_ok hown k1466 k40 k3 hK hS rfl (fun j hj => by rcases (show j = 0 ∨ j = 1 ∨ j = 2 ∨ j = 3 by omega) with rfl | rfl | rfl | rfl <;> rfl) (by (try dsimp only); omega) (by (try dsimp only); omega) dX3_textNow_14 (fun H3 hnH3 hszH3 hkH3 hS => ?_)
  have hzH3 := hz0.at hAB hS
  have hjH3 := hj0.at hAB hS
  have hmH3 : MW θ w H3 r q dt sv th dn rf kn := hm.kept (fun x hx => hS.2.1 x hx (Nat.not_le.mpr hx))
  have hltH3 := hmH3.lt
  have lnH3 := hnH3.lt
  refine lv_dup hx hb dX3_textNow_17 rfl ?_
  refine c_Ir (As := []) (rest := [.ref s.heap.size]) (r := none) (st1 := [.ref s.heap.size]) fx hl (jm_sbInit θ l S0 _ hzH3 hjH3 s.heap.size hnH3 (by omega)) dX3_textNow_18 k1467 k42 k3 k43 rfl hd_J4_init_da8c8 rfl rfl ⟨by decide, by decide⟩ (Nat.le_of_ble_eq_true rfl) ⟨by (try dsimp only); omega, by (try dsimp only); omega⟩ hS (fun x hx => by first | exact hx.elim | ((try dsimp only at hx ⊢); omega)) (fun H4 locs hpH4 hsz0H4 hk0H4 hS => ?_)
  obtain ⟨hszH4, hoH4_0⟩ := hpH4
  have hkH4 : ∀ q : Nat, q < (H3).size → ¬ (q = s.heap.size) → H4[q]? = (H3)[q]? := fun q hq hn => hk0H4 q hq (by (try dsimp only); omega)
  have lhoH4_0 := hoH4_0.lt
  have hzH4 := hz0.at hAB hS
  have hjH4 := hj0.at hAB hS
  have hmH4 : MW θ w H4 r q dt sv th dn rf kn := hm.kept (fun x hx => hS.2.1 x hx (Nat.not_le.mpr hx))
  have hltH4 := hmH4.lt
  refine lv_iload_n hx hb dX3_textNow_21 rfl (lv_at hl 0 rfl) ?_
  refine q_ige (tgt := 30) hx hb dX3_textNow_22 (by decide) (by omega) (fun c5 => ?_) (fun c5 => ?_)
  · refine va_ldcS hx hb hown (vk_R.warm fx.2 hj0.1.2.2.2.2.2.2.1) dX3_textNow_30 ?_
    have c6 := (hjH4.2.2.2.2.2.2.2.1).g
    have lc6 := c6.lt
    have mc6 := (hj0.2.2.2.2.2.2.2.1).g.lt
    refine c_Vr (C := "java/lang/StringBuilder") (As := [.ref (θ.2.2.1 24)]) (rest := []) (r := some (.ref s.heap.size)) (st1 := [.ref s.heap.size]) fx hl (jm_appendS θ l S0 _ hzH4 hjH4 s.heap.size (θ.2.2.1 24) H3.size 16 0 (θ.2.2.1 28) 0 hoH4_0 c6 (by omega) (by omega) (by omega) (by omega) (by omega) (by omega) (by omega)) (ob_recv hK hoH4_0.split.choose_spec.1 rfl) dX3_textNow_32 k1468 k340 k341 k3 k342 hd_J4_append_15ec4 rfl rfl ⟨by decide, by decide⟩ (Nat.le_of_ble_eq_true rfl) ⟨by (try dsimp only); omega, by (try dsimp only); omega⟩ hS (fun x hx => by first | exact hx.elim | ((try dsimp only at hx ⊢); omega)) (fun H7 locs hpH7 hsz0H7 hk0H7 hS => ?_)
    obtain ⟨hszH7, hoH7_0⟩ := hpH7
    have hkH7 : ∀ q : Nat, q < (H4).size → ¬ (q = s.heap.size ∨ q = H3.size) → H7[q]? = (H4)[q]? := fun q hq hn => hk0H7 q hq (by (try dsimp only); omega)
    have c6_H7 := c6.kept (hkH7 _ c6.lt.1 (by omega)) (hkH7 _ c6.lt.2 (by omega))
    have lhoH7_0 := hoH7_0.lt
    have hzH7 := hz0.at hAB hS
    have hjH7 := hj0.at hAB hS
    have hmH7 : MW θ w H7 r q dt sv th dn rf kn := hm.kept (fun x hx => hS.2.1 x hx (Nat.not_le.mpr hx))
    have hltH7 := hmH7.lt
    refine lv_iload_n hx hb dX3_textNow_35 rfl (lv_at hl 0 rfl) ?_
    refine q_ige (tgt := 44) hx hb dX3_textNow_36 (by decide) (by omega) (fun c8 => ?_) (fun c8 => ?_)
    · refine lv_iload_n hx hb dX3_textNow_44 rfl (lv_at hl 0 rfl) ?_
      refine q_con hx hb dX3_textNow_45 ?_
      have tsg46 := sgI_b z2
      refine c_SE (As := [.int (iI z2), .int (iI 4)]) (rest := [.ref s.heap.size]) fx hl (jp_digits θ l S0 _ hzH7 hjH7 z2 4 (by omega) (by omega) (by omega)) dX3_textNow_46 k1589 k1590 k6 k1591 hd_X3_digits rfl ⟨by decide, by decide⟩ (Nat.le_of_ble_eq_true rfl) ⟨by (try dsimp only); omega, by (try dsimp only); omega⟩ hS (fun x hx => hAn x (Nat.le_trans hS.1 hx)) (fun x10 H9 locs hpH9 hszH9 hk0H9 hS => ?_)
      obtain ⟨hx11, y12, hy13, hq14⟩ := hpH9
      have hkH9 : ∀ q : Nat, q < (H7).size → H9[q]? = (H7)[q]? := fun q hq => hk0H9 q hq (Nat.not_le.mpr hq)
      have hoH7_0_H9 := hoH7_0.kept (hkH9 _ hoH7_0.lt.1) (hkH9 _ hoH7_0.lt.2)
      have c6_H9 := c6_H7.kept (hkH9 _ c6_H7.lt.1) (hkH9 _ c6_H7.lt.2)
      have hzH9 := hz0.at hAB hS
      have hjH9 := hj0.at hAB hS
      have hmH9 : MW θ w H9 r q dt sv th dn rf kn := hm.kept (fun x hx => hS.2.1 x hx (Nat.not_le.mpr hx))
      have hltH9 := hmH9.lt
      have hstx10 : STg S0 H9 x10 y12 4 := hq14
      have lstx10 := hstx10.lt
      refine c_Vr (C := "java/lang/StringBuilder") (As := [.ref x10]) (rest := []) (r := some (.ref s.heap.size)) (st1 := [.ref s.heap.size]) fx hl (jm_appendS θ l S0 _ hzH9 hjH9 s.heap.size x10 H3.size 16 (0 + 0) y12 4 hoH7_0_H9 hstx10 (by omega) (by omega) (by omega) (by omega) (by omega) (by omega) (by omega)) (ob_recv hK hoH7_0_H9.split.choose_spec.1 rfl) dX3_textNow_49 k1468 k340 k341 k3 k342 hd_J4_append_15ec4 rfl rfl ⟨by decide, by decide⟩ (Nat.le_of_ble_eq_true rfl) ⟨by (try dsimp only); omega, by (try dsimp only); omega⟩ hS (fun x hx => by first | exact hx.elim | ((try dsimp only at hx ⊢); omega)) (fun H15 locs hpH15 hsz0H15 hk0H15 hS => ?_)
      obtain ⟨hszH15, hoH15_0⟩ := hpH15
      have hkH15 : ∀ q : Nat, q < (H9).size → ¬ (q = s.heap.size ∨ q = H3.size) → H15[q]? = (H9)[q]? := fun q hq hn => hk0H15 q hq (by (try dsimp only); omega)
      have c6_H15 := c6_H9.kept (hkH15 _ c6_H9.lt.1 (by omega)) (hkH15 _ c6_H9.lt.2 (by omega))
      have hstx10_H15 := hstx10.kept (hkH15 _ hstx10.lt.1 (by omega)) (hkH15 _ hstx10.lt.2 (by omega))
      have lhoH15_0 := hoH15_0.lt
      have hzH15 := hz0.at hAB hS
      have hjH15 := hj0.at hAB hS
      have hmH15 : MW θ w H15 r q dt sv th dn rf kn := hm.kept (fun x hx => hS.2.1 x hx (Nat.not_le.mpr hx))
      have hltH15 := hmH15.lt
      refine va_ldcS hx hb hown (vk_R.warm fx.2 hj0.1.2.2.2.2.2.2.2.2.1) dX3_textNow_52 ?_
      have c16 := (hjH15.2.2.2.2.2.2.2.2.2.1).g
      have lc16 := c16.lt
      have mc16 := (hj0.2.2.2.2.2.2.2.2.2.1).g.lt
      refine c_Vr (C := "java/lang/StringBuilder") (As := [.ref (θ.2.2.1 26)]) (rest := []) (r := some (.ref s.heap.size)) (st1 := [.ref s.heap.size]) fx hl (jm_appendS θ l S0 _ hzH15 hjH15 s.heap.size (θ.2.2.1 26) H3.size 16 ((0 + 0) + 4) (θ.2.2.1 30) 1 hoH15_0 c16 (by omega) (by omega) (by omega) (by omega) (by omega) (by omega) (by omega)) (ob_recv hK hoH15_0.split.choose_spec.1 rfl) dX3_textNow_54 k1468 k340 k341 k3 k342 hd_J4_append_15ec4 rfl rfl ⟨by decide, by decide⟩ (Nat.le_of_ble_eq_true rfl) ⟨by (try dsimp only); omega, by (try dsimp only); omega⟩ hS (fun x hx => by first | exact hx.elim | ((try dsimp only at hx ⊢); omega)) (fun H17 locs hpH17 hsz0H17 hk0H17 hS => ?_)
      obtain ⟨hszH17, hoH17_0⟩ := hpH17
      have hkH17 : ∀ q : Nat, q < (H15).size → ¬ (q = s.heap.size ∨ q = H3.size) → H17[q]? = (H15)[q]? := fun q hq hn => hk0H17 q hq (by (try dsimp only); omega)
      have c6_H17 := c6_H15.kept (hkH17 _ c6_H15.lt.1 (by omega)) (hkH17 _ c6_H15.lt.2 (by omega))
      have hstx10_H17 := hstx10_H15.kept (hkH17 _ hstx10_H15.lt.1 (by omega)) (hkH17 _ hstx10_H15.lt.2 (by omega))
      have c16_H17 := c16.kept (hkH17 _ c16.lt.1 (by omega)) (hkH17 _ c16.lt.2 (by omega))
      have lhoH17_0 := hoH17_0.lt
      have hzH17 := hz0.at hAB hS
      have hjH17 := hj0.at hAB hS
      have hmH17 : MW θ w H17 r q dt sv th dn rf kn := hm.kept (fun x hx => hS.2.1 x hx (Nat.not_le.mpr hx))
      have hltH17 := hmH17.lt
      refine q_con hx hb dX3_textNow_57 ?_
      refine lv_aload_n hx hb dX3_textNow_58 rfl (lv_at hl 1 rfl) ?_
      refine r_get (θ := θ) (C := RX3) (T := TX3) (N := 6) (ci := 9) hx hb hts gwX3 hown hK hmH17.1 rfl 4 (by decide) k1094 (fun _ h => h) (v := .ref (w 1)) rfl dX3_textNow_59 ?_
      refine lv_iload_n hx hb dX3_textNow_62 rfl (lv_at hl 2 rfl) ?_
      refine r_aald (θ := θ) hx hb hK hmH17.2.1 (i := a) (by omega) (by decide) dX3_textNow_63 ?_
      have rw18 := (hmH17.2.2.2.1 (a.toNat) (by omega)).1
      have rw18n := (hmH17.2.2.2.1 (a.toNat) (by omega)).2
      have rw18t := hd (a.toNat) (by omega)
      have rw18l := rw18.lt
      have rw18i := inR rw18t
      have rw18m := inM rw18i
      have rw18d := dI_b (dt a.toNat)
      refine q_con hx hb dX3_textNow_64 ?_
      refine r_iald (θ := θ) hx hb hK rw18 (i := 0) (by omega) (by decide) dX3_textNow_65 ?_
      refine q_as (mI (dt a.toNat)) rfl ?_
      refine q_bip hx hb dX3_textNow_66 (by decide) ?_
      refine c_P (As := [.int (iI (mI (dt a.toNat))), .int (iI 12)]) (rest := [.int (iI 1), .ref s.heap.size]) fx hl (pm_X3_left l (mI (dt a.toNat)) 12 (by omega) (by omega)) dX3_textNow_68 k1082 k1083 k6 k1084 hd_X3_left rfl ⟨by decide, by decide⟩ (Nat.le_of_ble_eq_true rfl) ⟨by dsimp only; omega, by dsimp only; omega⟩ ?_
      refine q_nm (fun z19 ez19 => ?_)
      refine q_add hx hb dX3_textNow_71 ?_
      refine q_con hx hb dX3_textNow_72 ?_
      have tsg73 := sgI_b (1 + z19)
      refine c_SE (As := [.int (iI (1 + z19)), .int (iI 2)]) (rest := [.ref s.heap.size]) fx hl (jp_digits θ l S0 _ hzH17 hjH17 (1 + z19) 2 (by omega) (by omega) (by omega)) dX3_textNow_73 k1589 k1590 k6 k1591 hd_X3_digits rfl ⟨by decide, by decide⟩ (Nat.le_of_ble_eq_true rfl) ⟨by (try dsimp only); omega, by (try dsimp only); omega⟩ hS (fun x hx => hAn x (Nat.le_trans hS.1 hx)) (fun x21 H20 locs hpH20 hszH20 hk0H20 hS => ?_)
      obtain ⟨hx22, y23, hy24, hq25⟩ := hpH20
      have hkH20 : ∀ q : Nat, q < (H17).size → H20[q]? = (H17)[q]? := fun q hq => hk0H20 q hq (Nat.not_le.mpr hq)
      have hoH17_0_H20 := hoH17_0.kept (hkH20 _ hoH17_0.lt.1) (hkH20 _ hoH17_0.lt.2)
      have c6_H20 := c6_H17.kept (hkH20 _ c6_H17.lt.1) (hkH20 _ c6_H17.lt.2)
      have hstx10_H20 := hstx10_H17.kept (hkH20 _ hstx10_H17.lt.1) (hkH20 _ hstx10_H17.lt.2)
      have c16_H20 := c16_H17.kept (hkH20 _ c16_H17.lt.1) (hkH20 _ c16_H17.lt.2)
      have hzH20 := hz0.at hAB hS
      have hjH20 := hj0.at hAB hS
      have hmH20 : MW θ w H20 r q dt sv th dn rf kn := hm.kept (fun x hx => hS.2.1 x hx (Nat.not_le.mpr hx))
      have hltH20 := hmH20.lt
      have hstx21 : STg S0 H20 x21 y23 2 := hq25
      have lstx21 := hstx21.lt
      refine c_Vr (C := "java/lang/StringBuilder") (As := [.ref x21]) (rest := []) (r := some (.ref s.heap.size)) (st1 := [.ref s.heap.size]) fx hl (jm_appendS θ l S0 _ hzH20 hjH20 s.heap.size x21 H3.size 16 (((0 + 0) + 4) + 1) y23 2 hoH17_0_H20 hstx21 (by omega) (by omega) (by omega) (by omega) (by omega) (by omega) (by omega)) (ob_recv hK hoH17_0_H20.split.choose_spec.1 rfl) dX3_textNow_76 k1468 k340 k341 k3 k342 hd_J4_append_15ec4 rfl rfl ⟨by decide, by decide⟩ (Nat.le_of_ble_eq_true rfl) ⟨by (try dsimp only); omega, by (try dsimp only); omega⟩ hS (fun x hx => by first | exact hx.elim | ((try dsimp only at hx ⊢); omega)) (fun H26 locs hpH26 hsz0H26 hk0H26 hS => ?_)
      obtain ⟨hszH26, hoH26_0⟩ := hpH26
      have hkH26 : ∀ q : Nat, q < (H20).size → ¬ (q = s.heap.size ∨ q = H3.size) → H26[q]? = (H20)[q]? := fun q hq hn => hk0H26 q hq (by (try dsimp only); omega)
      have c6_H26 := c6_H20.kept (hkH26 _ c6_H20.lt.1 (by omega)) (hkH26 _ c6_H20.lt.2 (by omega))
      have hstx10_H26 := hstx10_H20.kept (hkH26 _ hstx10_H20.lt.1 (by omega)) (hkH26 _ hstx10_H20.lt.2 (by omega))
      have c16_H26 := c16_H20.kept (hkH26 _ c16_H20.lt.1 (by omega)) (hkH26 _ c16_H20.lt.2 (by omega))
      have hstx21_H26 := hstx21.kept (hkH26 _ hstx21.lt.1 (by omega)) (hkH26 _ hstx21.lt.2 (by omega))
      have lhoH26_0 := hoH26_0.lt
      have hzH26 := hz0.at hAB hS
      have hjH26 := hj0.at hAB hS
      have hmH26 : MW θ w H26 r q dt sv th dn rf kn := hm.kept (fun x hx => hS.2.1 x hx (Nat.not_le.mpr hx))
      have hltH26 := hmH26.lt
      refine va_ldcS hx hb hown (vk_R.warm fx.2 hj0.1.2.2.2.2.2.2.2.2.1) dX3_textNow_79 ?_
      have c27 := (hjH26.2.2.2.2.2.2.2.2.2.1).g
      have lc27 := c27.lt
      have mc27 := (hj0.2.2.2.2.2.2.2.2.2.1).g.lt
      refine c_Vr (C := "java/lang/StringBuilder") (As := [.ref (θ.2.2.1 26)]) (rest := []) (r := some (.ref s.heap.size)) (st1 := [.ref s.heap.size]) fx hl (jm_appendS θ l S0 _ hzH26 hjH26 s.heap.size (θ.2.2.1 26) H3.size 16 ((((0 + 0) + 4) + 1) + 2) (θ.2.2.1 30) 1 hoH26_0 c27 (by omega) (by omega) (by omega) (by omega) (by omega) (by omega) (by omega)) (ob_recv hK hoH26_0.split.choose_spec.1 rfl) dX3_textNow_81 k1468 k340 k341 k3 k342 hd_J4_append_15ec4 rfl rfl ⟨by decide, by decide⟩ (Nat.le_of_ble_eq_true rfl) ⟨by (try dsimp only); omega, by (try dsimp only); omega⟩ hS (fun x hx => by first | exact hx.elim | ((try dsimp only at hx ⊢); omega)) (fun H28 locs hpH28 hsz0H28 hk0H28 hS => ?_)
      obtain ⟨hszH28, hoH28_0⟩ := hpH28
      have hkH28 : ∀ q : Nat, q < (H26).size → ¬ (q = s.heap.size ∨ q = H3.size) → H28[q]? = (H26)[q]? := fun q hq hn => hk0H28 q hq (by (try dsimp only); omega)
      have c6_H28 := c6_H26.kept (hkH28 _ c6_H26.lt.1 (by omega)) (hkH28 _ c6_H26.lt.2 (by omega))
      have hstx10_H28 := hstx10_H26.kept (hkH28 _ hstx10_H26.lt.1 (by omega)) (hkH28 _ hstx10_H26.lt.2 (by omega))
      have c27_H28 := c27.kept (hkH28 _ c27.lt.1 (by omega)) (hkH28 _ c27.lt.2 (by omega))
      have hstx21_H28 := hstx21_H26.kept (hkH28 _ hstx21_H26.lt.1 (by omega)) (hkH28 _ hstx21_H26.lt.2 (by omega))
      have lhoH28_0 := hoH28_0.lt
      have hzH28 := hz0.at hAB hS
      have hjH28 := hj0.at hAB hS
      have hmH28 : MW θ w H28 r q dt sv th dn rf kn := hm.kept (fun x hx => hS.2.1 x hx (Nat.not_le.mpr hx))
      have hltH28 := hmH28.lt
      refine lv_aload_n hx hb dX3_textNow_84 rfl (lv_at hl 1 rfl) ?_
      refine r_get (θ := θ) (C := RX3) (T := TX3) (N := 6) (ci := 9) hx hb hts gwX3 hown hK hmH28.1 rfl 4 (by decide) k1094 (fun _ h => h) (v := .ref (w 1)) rfl dX3_textNow_85 ?_
      refine lv_iload_n hx hb dX3_textNow_88 rfl (lv_at hl 2 rfl) ?_
      refine r_aald (θ := θ) hx hb hK hmH28.2.1 (i := a) (by omega) (by decide) dX3_textNow_89 ?_
      have rw29 := (hmH28.2.2.2.1 (a.toNat) (by omega)).1
      have rw29n := (hmH28.2.2.2.1 (a.toNat) (by omega)).2
      have rw29t := hd (a.toNat) (by omega)
      have rw29l := rw29.lt
      have rw29i := inR rw29t
      have rw29m := inM rw29i
      have rw29d := dI_b (dt a.toNat)
      refine q_con hx hb dX3_textNow_90 ?_
      refine r_iald (θ := θ) hx hb hK rw29 (i := 1) (by omega) (by decide) dX3_textNow_91 ?_
      refine q_as (dI (dt a.toNat)) rfl ?_
      refine q_con hx hb dX3_textNow_92 ?_
      have tsg93 := sgI_b (dI (dt a.toNat))
      refine c_SE (As := [.int (iI (dI (dt a.toNat))), .int (iI 2)]) (rest := [.ref s.heap.size]) fx hl (jp_digits θ l S0 _ hzH28 hjH28 (dI (dt a.toNat)) 2 (by omega) (by omega) (by omega)) dX3_textNow_93 k1589 k1590 k6 k1591 hd_X3_digits rfl ⟨by decide, by decide⟩ (Nat.le_of_ble_eq_true rfl) ⟨by (try dsimp only); omega, by (try dsimp only); omega⟩ hS (fun x hx => hAn x (Nat.le_trans hS.1 hx)) (fun x31 H30 locs hpH30 hszH30 hk0H30 hS => ?_)
      obtain ⟨hx32, y33, hy34, hq35⟩ := hpH30
      have hkH30 : ∀ q : Nat, q < (H28).size → H30[q]? = (H28)[q]? := fun q hq => hk0H30 q hq (Nat.not_le.mpr hq)
      have hoH28_0_H30 := hoH28_0.kept (hkH30 _ hoH28_0.lt.1) (hkH30 _ hoH28_0.lt.2)
      have c6_H30 := c6_H28.kept (hkH30 _ c6_H28.lt.1) (hkH30 _ c6_H28.lt.2)
      have hstx10_H30 := hstx10_H28.kept (hkH30 _ hstx10_H28.lt.1) (hkH30 _ hstx10_H28.lt.2)
      have c27_H30 := c27_H28.kept (hkH30 _ c27_H28.lt.1) (hkH30 _ c27_H28.lt.2)
      have hstx21_H30 := hstx21_H28.kept (hkH30 _ hstx21_H28.lt.1) (hkH30 _ hstx21_H28.lt.2)
      have hzH30 := hz0.at hAB hS
      have hjH30 := hj0.at hAB hS
      have hmH30 : MW θ w H30 r q dt sv th dn rf kn := hm.kept (fun x hx => hS.2.1 x hx (Nat.not_le.mpr hx))
      have hltH30 := hmH30.lt
      have hstx31 : STg S0 H30 x31 y33 2 := hq35
      have lstx31 := hstx31.lt
      refine c_Vr (C := "java/lang/StringBuilder") (As := [.ref x31]) (rest := []) (r := some (.ref s.heap.size)) (st1 := [.ref s.heap.size]) fx hl (jm_appendS θ l S0 _ hzH30 hjH30 s.heap.size x31 H3.size 16 (((((0 + 0) + 4) + 1) + 2) + 1) y33 2 hoH28_0_H30 hstx31 (by omega) (by omega) (by omega) (by omega) (by omega) (by omega) (by omega)) (ob_recv hK hoH28_0_H30.split.choose_spec.1 rfl) dX3_textNow_96 k1468 k340 k341 k3 k342 hd_J4_append_15ec4 rfl rfl ⟨by decide, by decide⟩ (Nat.le_of_ble_eq_true rfl) ⟨by (try dsimp only); omega, by (try dsimp only); omega⟩ hS (fun x hx => by first | exact hx.elim | ((try dsimp only at hx ⊢); omega)) (fun H36 locs hpH36 hsz0H36 hk0H36 hS => ?_)
      obtain ⟨hszH36, hoH36_0⟩ := hpH36
      have hkH36 : ∀ q : Nat, q < (H30).size → ¬ (q = s.heap.size ∨ q = H3.size) → H36[q]? = (H30)[q]? := fun q hq hn => hk0H36 q hq (by (try dsimp only); omega)
      have c6_H36 := c6_H30.kept (hkH36 _ c6_H30.lt.1 (by omega)) (hkH36 _ c6_H30.lt.2 (by omega))
      have hstx10_H36 := hstx10_H30.kept (hkH36 _ hstx10_H30.lt.1 (by omega)) (hkH36 _ hstx10_H30.lt.2 (by omega))
      have c27_H36 := c27_H30.kept (hkH36 _ c27_H30.lt.1 (by omega)) (hkH36 _ c27_H30.lt.2 (by omega))
      have hstx21_H36 := hstx21_H30.kept (hkH36 _ hstx21_H30.lt.1 (by omega)) (hkH36 _ hstx21_H30.lt.2 (by omega))
      have hstx31_H36 := hstx31.kept (hkH36 _ hstx31.lt.1 (by omega)) (hkH36 _ hstx31.lt.2 (by omega))
      have lhoH36_0 := hoH36_0.lt
      have hzH36 := hz0.at hAB hS
      have hjH36 := hj0.at hAB hS
      have hmH36 : MW θ w H36 r q dt sv th dn rf kn := hm.kept (fun x hx => hS.2.1 x hx (Nat.not_le.mpr hx))
      have hltH36 := hmH36.lt
      refine c_Vr (C := "java/lang/StringBuilder") (As := []) (rest := []) (r := some (.ref H36.size)) (st1 := [.ref H36.size]) fx hl (jm_toString θ l S0 _ hzH36 hjH36 s.heap.size H3.size 16 ((((((0 + 0) + 4) + 1) + 2) + 1) + 2) hoH36_0 (by omega) (by omega) (by omega)) (ob_recv hK hoH36_0.split.choose_spec.1 rfl) dX3_textNow_99 k1475 k483 k484 k3 k485 hd_J4_toString_0e30d rfl rfl ⟨by decide, by decide⟩ (Nat.le_of_ble_eq_true rfl) ⟨by (try dsimp only); omega, by (try dsimp only); omega⟩ hS (fun x hx => by first | exact hx.elim | ((try dsimp only at hx ⊢); omega)) (fun H37 locs hpH37 hsz0H37 hk0H37 hS => ?_)
      obtain ⟨hszH37, hoH37_0, hoH37_1⟩ := hpH37
      have hkH37 : ∀ q : Nat, q < (H36).size → H37[q]? = (H36)[q]? := fun q hq => hk0H37 q hq (Nat.not_le.mpr hq)
      have hoH36_0_H37 := hoH36_0.kept (hkH37 _ hoH36_0.lt.1) (hkH37 _ hoH36_0.lt.2)
      have c6_H37 := c6_H36.kept (hkH37 _ c6_H36.lt.1) (hkH37 _ c6_H36.lt.2)
      have hstx10_H37 := hstx10_H36.kept (hkH37 _ hstx10_H36.lt.1) (hkH37 _ hstx10_H36.lt.2)
      have c27_H37 := c27_H36.kept (hkH37 _ c27_H36.lt.1) (hkH37 _ c27_H36.lt.2)
      have hstx21_H37 := hstx21_H36.kept (hkH37 _ hstx21_H36.lt.1) (hkH37 _ hstx21_H36.lt.2)
      have hstx31_H37 := hstx31_H36.kept (hkH37 _ hstx31_H36.lt.1) (hkH37 _ hstx31_H36.lt.2)
      have lhoH37_0 := hoH37_0.lt
      have lhoH37_1 := hoH37_1.lt
      have hzH37 := hz0.at hAB hS
      have hjH37 := hj0.at hAB hS
      have hmH37 : MW θ w H37 r q dt sv th dn rf kn := hm.kept (fun x hx => hS.2.1 x hx (Nat.not_le.mpr hx))
      have hltH37 := hmH37.lt
      have e9 : ((if mI (dt a.toNat) / 12 < 0 then 11 else 10) : Nat) = (Int.toNat (((((((0 + 0) + 4) + 1) + 2) + 1) + 2))) := by first | (rw [if_pos (by omega)]; omega) | (rw [if_neg (by omega)]; omega)
      exact e_a hx hb hr (by first | exact Or.inl ⟨_, rfl⟩ | exact Or.inr ⟨_, rfl⟩) hlk hS dX3_textNow_102 (by first | exact Nat.le_of_ble_eq_true rfl | ((try dsimp only); omega)) (by first | exact Nat.le_of_ble_eq_true rfl | ((try dsimp only); omega)) ⟨_, rfl, by omega, (H36.size + 1), by omega, by rw [e9]; exact hoH37_0⟩
    · exact (show False by omega).elim
  · refine va_ldcS hx hb hown (vk_R.warm fx.2 hj0.1.2.2.2.2.2.2.2.2.1) dX3_textNow_25 ?_
    have c38 := (hjH4.2.2.2.2.2.2.2.2.2.1).g
    have lc38 := c38.lt
    have mc38 := (hj0.2.2.2.2.2.2.2.2.2.1).g.lt
    refine lv_goto (tgt := 32) hx hb dX3_textNow_27 (by decide) ?_
    refine c_Vr (C := "java/lang/StringBuilder") (As := [.ref (θ.2.2.1 26)]) (rest := []) (r := some (.ref s.heap.size)) (st1 := [.ref s.heap.size]) fx hl (jm_appendS θ l S0 _ hzH4 hjH4 s.heap.size (θ.2.2.1 26) H3.size 16 0 (θ.2.2.1 30) 1 hoH4_0 c38 (by omega) (by omega) (by omega) (by omega) (by omega) (by omega) (by omega)) (ob_recv hK hoH4_0.split.choose_spec.1 rfl) dX3_textNow_32 k1468 k340 k341 k3 k342 hd_J4_append_15ec4 rfl rfl ⟨by decide, by decide⟩ (Nat.le_of_ble_eq_true rfl) ⟨by (try dsimp only); omega, by (try dsimp only); omega⟩ hS (fun x hx => by first | exact hx.elim | ((try dsimp only at hx ⊢); omega)) (fun H39 locs hpH39 hsz0H39 hk0H39 hS => ?_)
    obtain ⟨hszH39, hoH39_0⟩ := hpH39
    have hkH39 : ∀ q : Nat, q < (H4).size → ¬ (q = s.heap.size ∨ q = H3.size) → H39[q]? = (H4)[q]? := fun q hq hn => hk0H39 q hq (by (try dsimp only); omega)
    have c38_H39 := c38.kept (hkH39 _ c38.lt.1 (by omega)) (hkH39 _ c38.lt.2 (by omega))
    have lhoH39_0 := hoH39_0.lt
    have hzH39 := hz0.at hAB hS
    have hjH39 := hj0.at hAB hS
    have hmH39 : MW θ w H39 r q dt sv th dn rf kn := hm.kept (fun x hx => hS.2.1 x hx (Nat.not_le.mpr hx))
    have hltH39 := hmH39.lt
    refine lv_iload_n hx hb dX3_textNow_35 rfl (lv_at hl 0 rfl) ?_
    refine q_ige (tgt := 44) hx hb dX3_textNow_36 (by decide) (by omega) (fun c40 => ?_) (fun c40 => ?_)
    · exact (show False by omega).elim
    · refine lv_iload_n hx hb dX3_textNow_39 rfl (lv_at hl 0 rfl) ?_
      refine q_neg hx hb dX3_textNow_40 ?_
      refine lv_goto (tgt := 45) hx hb dX3_textNow_41 (by decide) ?_
      refine q_con hx hb dX3_textNow_45 ?_
      have tsg46 := sgI_b (-z2)
      refine c_SE (As := [.int (iI (-z2)), .int (iI 4)]) (rest := [.ref s.heap.size]) fx hl (jp_digits θ l S0 _ hzH39 hjH39 (-z2) 4 (by omega) (by omega) (by omega)) dX3_textNow_46 k1589 k1590 k6 k1591 hd_X3_digits rfl ⟨by decide, by decide⟩ (Nat.le_of_ble_eq_true rfl) ⟨by (try dsimp only); omega, by (try dsimp only); omega⟩ hS (fun x hx => hAn x (Nat.le_trans hS.1 hx)) (fun x42 H41 locs hpH41 hszH41 hk0H41 hS => ?_)
      obtain ⟨hx43, y44, hy45, hq46⟩ := hpH41
      have hkH41 : ∀ q : Nat, q < (H39).size → H41[q]? = (H39)[q]? := fun q hq => hk0H41 q hq (Nat.not_le.mpr hq)
      have hoH39_0_H41 := hoH39_0.kept (hkH41 _ hoH39_0.lt.1) (hkH41 _ hoH39_0.lt.2)
      have c38_H41 := c38_H39.kept (hkH41 _ c38_H39.lt.1) (hkH41 _ c38_H39.lt.2)
      have hzH41 := hz0.at hAB hS
      have hjH41 := hj0.at hAB hS
      have hmH41 : MW θ w H41 r q dt sv th dn rf kn := hm.kept (fun x hx => hS.2.1 x hx (Nat.not_le.mpr hx))
      have hltH41 := hmH41.lt
      have hstx42 : STg S0 H41 x42 y44 4 := hq46
      have lstx42 := hstx42.lt
      refine c_Vr (C := "java/lang/StringBuilder") (As := [.ref x42]) (rest := []) (r := some (.ref s.heap.size)) (st1 := [.ref s.heap.size]) fx hl (jm_appendS θ l S0 _ hzH41 hjH41 s.heap.size x42 H3.size 16 (0 + 1) y44 4 hoH39_0_H41 hstx42 (by omega) (by omega) (by omega) (by omega) (by omega) (by omega) (by omega)) (ob_recv hK hoH39_0_H41.split.choose_spec.1 rfl) dX3_textNow_49 k1468 k340 k341 k3 k342 hd_J4_append_15ec4 rfl rfl ⟨by decide, by decide⟩ (Nat.le_of_ble_eq_true rfl) ⟨by (try dsimp only); omega, by (try dsimp only); omega⟩ hS (fun x hx => by first | exact hx.elim | ((try dsimp only at hx ⊢); omega)) (fun H47 locs hpH47 hsz0H47 hk0H47 hS => ?_)
      obtain ⟨hszH47, hoH47_0⟩ := hpH47
      have hkH47 : ∀ q : Nat, q < (H41).size → ¬ (q = s.heap.size ∨ q = H3.size) → H47[q]? = (H41)[q]? := fun q hq hn => hk0H47 q hq (by (try dsimp only); omega)
      have c38_H47 := c38_H41.kept (hkH47 _ c38_H41.lt.1 (by omega)) (hkH47 _ c38_H41.lt.2 (by omega))
      have hstx42_H47 := hstx42.kept (hkH47 _ hstx42.lt.1 (by omega)) (hkH47 _ hstx42.lt.2 (by omega))
      have lhoH47_0 := hoH47_0.lt
      have hzH47 := hz0.at hAB hS
      have hjH47 := hj0.at hAB hS
      have hmH47 : MW θ w H47 r q dt sv th dn rf kn := hm.kept (fun x hx => hS.2.1 x hx (Nat.not_le.mpr hx))
      have hltH47 := hmH47.lt
      refine va_ldcS hx hb hown (vk_R.warm fx.2 hj0.1.2.2.2.2.2.2.2.2.1) dX3_textNow_52 ?_
      have c48 := (hjH47.2.2.2.2.2.2.2.2.2.1).g
      have lc48 := c48.lt
      have mc48 := (hj0.2.2.2.2.2.2.2.2.2.1).g.lt
      refine c_Vr (C := "java/lang/StringBuilder") (As := [.ref (θ.2.2.1 26)]) (rest := []) (r := some (.ref s.heap.size)) (st1 := [.ref s.heap.size]) fx hl (jm_appendS θ l S0 _ hzH47 hjH47 s.heap.size (θ.2.2.1 26) H3.size 16 ((0 + 1) + 4) (θ.2.2.1 30) 1 hoH47_0 c48 (by omega) (by omega) (by omega) (by omega) (by omega) (by omega) (by omega)) (ob_recv hK hoH47_0.split.choose_spec.1 rfl) dX3_textNow_54 k1468 k340 k341 k3 k342 hd_J4_append_15ec4 rfl rfl ⟨by decide, by decide⟩ (Nat.le_of_ble_eq_true rfl) ⟨by (try dsimp only); omega, by (try dsimp only); omega⟩ hS (fun x hx => by first | exact hx.elim | ((try dsimp only at hx ⊢); omega)) (fun H49 locs hpH49 hsz0H49 hk0H49 hS => ?_)
      obtain ⟨hszH49, hoH49_0⟩ := hpH49
      have hkH49 : ∀ q : Nat, q < (H47).size → ¬ (q = s.heap.size ∨ q = H3.size) → H49[q]? = (H47)[q]? := fun q hq hn => hk0H49 q hq (by (try dsimp only); omega)
      have c48_H49 := c48.kept (hkH49 _ c48.lt.1 (by omega)) (hkH49 _ c48.lt.2 (by omega))
      have hstx42_H49 := hstx42_H47.kept (hkH49 _ hstx42_H47.lt.1 (by omega)) (hkH49 _ hstx42_H47.lt.2 (by omega))
      have lhoH49_0 := hoH49_0.lt
      have hzH49 := hz0.at hAB hS
      have hjH49 := hj0.at hAB hS
      have hmH49 : MW θ w H49 r q dt sv th dn rf kn := hm.kept (fun x hx => hS.2.1 x hx (Nat.not_le.mpr hx))
      have hltH49 := hmH49.lt
      refine q_con hx hb dX3_textNow_57 ?_
      refine lv_aload_n hx hb dX3_textNow_58 rfl (lv_at hl 1 rfl) ?_
      refine r_get (θ := θ) (C := RX3) (T := TX3) (N := 6) (ci := 9) hx hb hts gwX3 hown hK hmH49.1 rfl 4 (by decide) k1094 (fun _ h => h) (v := .ref (w 1)) rfl dX3_textNow_59 ?_
      refine lv_iload_n hx hb dX3_textNow_62 rfl (lv_at hl 2 rfl) ?_
      refine r_aald (θ := θ) hx hb hK hmH49.2.1 (i := a) (by omega) (by decide) dX3_textNow_63 ?_
      have rw50 := (hmH49.2.2.2.1 (a.toNat) (by omega)).1
      have rw50n := (hmH49.2.2.2.1 (a.toNat) (by omega)).2
      have rw50t := hd (a.toNat) (by omega)
      have rw50l := rw50.lt
      have rw50i := inR rw50t
      have rw50m := inM rw50i
      have rw50d := dI_b (dt a.toNat)
      refine q_con hx hb dX3_textNow_64 ?_
      refine r_iald (θ := θ) hx hb hK rw50 (i := 0) (by omega) (by decide) dX3_textNow_65 ?_
      refine q_as (mI (dt a.toNat)) rfl ?_
      refine q_bip hx hb dX3_textNow_66 (by decide) ?_
      refine c_P (As := [.int (iI (mI (dt a.toNat))), .int (iI 12)]) (rest := [.int (iI 1), .ref s.heap.size]) fx hl (pm_X3_left l (mI (dt a.toNat)) 12 (by omega) (by omega)) dX3_textNow_68 k1082 k1083 k6 k1084 hd_X3_left rfl ⟨by decide, by decide⟩ (Nat.le_of_ble_eq_true rfl) ⟨by dsimp only; omega, by dsimp only; omega⟩ ?_
      refine q_nm (fun z51 ez51 => ?_)
      refine q_add hx hb dX3_textNow_71 ?_
      refine q_con hx hb dX3_textNow_72 ?_
      have tsg73 := sgI_b (1 + z51)
      refine c_SE (As := [.int (iI (1 + z51)), .int (iI 2)]) (rest := [.ref s.heap.size]) fx hl (jp_digits θ l S0 _ hzH49 hjH49 (1 + z51) 2 (by omega) (by omega) (by omega)) dX3_textNow_73 k1589 k1590 k6 k1591 hd_X3_digits rfl ⟨by decide, by decide⟩ (Nat.le_of_ble_eq_true rfl) ⟨by (try dsimp only); omega, by (try dsimp only); omega⟩ hS (fun x hx => hAn x (Nat.le_trans hS.1 hx)) (fun x53 H52 locs hpH52 hszH52 hk0H52 hS => ?_)
      obtain ⟨hx54, y55, hy56, hq57⟩ := hpH52
      have hkH52 : ∀ q : Nat, q < (H49).size → H52[q]? = (H49)[q]? := fun q hq => hk0H52 q hq (Nat.not_le.mpr hq)
      have hoH49_0_H52 := hoH49_0.kept (hkH52 _ hoH49_0.lt.1) (hkH52 _ hoH49_0.lt.2)
      have c48_H52 := c48_H49.kept (hkH52 _ c48_H49.lt.1) (hkH52 _ c48_H49.lt.2)
      have hstx42_H52 := hstx42_H49.kept (hkH52 _ hstx42_H49.lt.1) (hkH52 _ hstx42_H49.lt.2)
      have hzH52 := hz0.at hAB hS
      have hjH52 := hj0.at hAB hS
      have hmH52 : MW θ w H52 r q dt sv th dn rf kn := hm.kept (fun x hx => hS.2.1 x hx (Nat.not_le.mpr hx))
      have hltH52 := hmH52.lt
      have hstx53 : STg S0 H52 x53 y55 2 := hq57
      have lstx53 := hstx53.lt
      refine c_Vr (C := "java/lang/StringBuilder") (As := [.ref x53]) (rest := []) (r := some (.ref s.heap.size)) (st1 := [.ref s.heap.size]) fx hl (jm_appendS θ l S0 _ hzH52 hjH52 s.heap.size x53 H3.size 16 (((0 + 1) + 4) + 1) y55 2 hoH49_0_H52 hstx53 (by omega) (by omega) (by omega) (by omega) (by omega) (by omega) (by omega)) (ob_recv hK hoH49_0_H52.split.choose_spec.1 rfl) dX3_textNow_76 k1468 k340 k341 k3 k342 hd_J4_append_15ec4 rfl rfl ⟨by decide, by decide⟩ (Nat.le_of_ble_eq_true rfl) ⟨by (try dsimp only); omega, by (try dsimp only); omega⟩ hS (fun x hx => by first | exact hx.elim | ((try dsimp only at hx ⊢); omega)) (fun H58 locs hpH58 hsz0H58 hk0H58 hS => ?_)
      obtain ⟨hszH58, hoH58_0⟩ := hpH58
      have hkH58 : ∀ q : Nat, q < (H52).size → ¬ (q = s.heap.size ∨ q = H3.size) → H58[q]? = (H52)[q]? := fun q hq hn => hk0H58 q hq (by (try dsimp only); omega)
      have c48_H58 := c48_H52.kept (hkH58 _ c48_H52.lt.1 (by omega)) (hkH58 _ c48_H52.lt.2 (by omega))
      have hstx42_H58 := hstx42_H52.kept (hkH58 _ hstx42_H52.lt.1 (by omega)) (hkH58 _ hstx42_H52.lt.2 (by omega))
      have hstx53_H58 := hstx53.kept (hkH58 _ hstx53.lt.1 (by omega)) (hkH58 _ hstx53.lt.2 (by omega))
      have lhoH58_0 := hoH58_0.lt
      have hzH58 := hz0.at hAB hS
      have hjH58 := hj0.at hAB hS
      have hmH58 : MW θ w H58 r q dt sv th dn rf kn := hm.kept (fun x hx => hS.2.1 x hx (Nat.not_le.mpr hx))
      have hltH58 := hmH58.lt
      refine va_ldcS hx hb hown (vk_R.warm fx.2 hj0.1.2.2.2.2.2.2.2.2.1) dX3_textNow_79 ?_
      have c59 := (hjH58.2.2.2.2.2.2.2.2.2.1).g
      have lc59 := c59.lt
      have mc59 := (hj0.2.2.2.2.2.2.2.2.2.1).g.lt
      refine c_Vr (C := "java/lang/StringBuilder") (As := [.ref (θ.2.2.1 26)]) (rest := []) (r := some (.ref s.heap.size)) (st1 := [.ref s.heap.size]) fx hl (jm_appendS θ l S0 _ hzH58 hjH58 s.heap.size (θ.2.2.1 26) H3.size 16 ((((0 + 1) + 4) + 1) + 2) (θ.2.2.1 30) 1 hoH58_0 c59 (by omega) (by omega) (by omega) (by omega) (by omega) (by omega) (by omega)) (ob_recv hK hoH58_0.split.choose_spec.1 rfl) dX3_textNow_81 k1468 k340 k341 k3 k342 hd_J4_append_15ec4 rfl rfl ⟨by decide, by decide⟩ (Nat.le_of_ble_eq_true rfl) ⟨by (try dsimp only); omega, by (try dsimp only); omega⟩ hS (fun x hx => by first | exact hx.elim | ((try dsimp only at hx ⊢); omega)) (fun H60 locs hpH60 hsz0H60 hk0H60 hS => ?_)
      obtain ⟨hszH60, hoH60_0⟩ := hpH60
      have hkH60 : ∀ q : Nat, q < (H58).size → ¬ (q = s.heap.size ∨ q = H3.size) → H60[q]? = (H58)[q]? := fun q hq hn => hk0H60 q hq (by (try dsimp only); omega)
      have c59_H60 := c59.kept (hkH60 _ c59.lt.1 (by omega)) (hkH60 _ c59.lt.2 (by omega))
      have hstx42_H60 := hstx42_H58.kept (hkH60 _ hstx42_H58.lt.1 (by omega)) (hkH60 _ hstx42_H58.lt.2 (by omega))
      have hstx53_H60 := hstx53_H58.kept (hkH60 _ hstx53_H58.lt.1 (by omega)) (hkH60 _ hstx53_H58.lt.2 (by omega))
      have lhoH60_0 := hoH60_0.lt
      have hzH60 := hz0.at hAB hS
      have hjH60 := hj0.at hAB hS
      have hmH60 : MW θ w H60 r q dt sv th dn rf kn := hm.kept (fun x hx => hS.2.1 x hx (Nat.not_le.mpr hx))
      have hltH60 := hmH60.lt
      refine lv_aload_n hx hb dX3_textNow_84 rfl (lv_at hl 1 rfl) ?_
      refine r_get (θ := θ) (C := RX3) (T := TX3) (N := 6) (ci := 9) hx hb hts gwX3 hown hK hmH60.1 rfl 4 (by decide) k1094 (fun _ h => h) (v := .ref (w 1)) rfl dX3_textNow_85 ?_
      refine lv_iload_n hx hb dX3_textNow_88 rfl (lv_at hl 2 rfl) ?_
      refine r_aald (θ := θ) hx hb hK hmH60.2.1 (i := a) (by omega) (by decide) dX3_textNow_89 ?_
      have rw61 := (hmH60.2.2.2.1 (a.toNat) (by omega)).1
      have rw61n := (hmH60.2.2.2.1 (a.toNat) (by omega)).2
      have rw61t := hd (a.toNat) (by omega)
      have rw61l := rw61.lt
      have rw61i := inR rw61t
      have rw61m := inM rw61i
      have rw61d := dI_b (dt a.toNat)
      refine q_con hx hb dX3_textNow_90 ?_
      refine r_iald (θ := θ) hx hb hK rw61 (i := 1) (by omega) (by decide) dX3_textNow_91 ?_
      refine q_as (dI (dt a.toNat)) rfl ?_
      refine q_con hx hb dX3_textNow_92 ?_
      have tsg93 := sgI_b (dI (dt a.toNat))
      refine c_SE (As := [.int (iI (dI (dt a.toNat))), .int (iI 2)]) (rest := [.ref s.heap.size]) fx hl (jp_digits θ l S0 _ hzH60 hjH60 (dI (dt a.toNat)) 2 (by omega) (by omega) (by omega)) dX3_textNow_93 k1589 k1590 k6 k1591 hd_X3_digits rfl ⟨by decide, by decide⟩ (Nat.le_of_ble_eq_true rfl) ⟨by (try dsimp only); omega, by (try dsimp only); omega⟩ hS (fun x hx => hAn x (Nat.le_trans hS.1 hx)) (fun x63 H62 locs hpH62 hszH62 hk0H62 hS => ?_)
      obtain ⟨hx64, y65, hy66, hq67⟩ := hpH62
      have hkH62 : ∀ q : Nat, q < (H60).size → H62[q]? = (H60)[q]? := fun q hq => hk0H62 q hq (Nat.not_le.mpr hq)
      have hoH60_0_H62 := hoH60_0.kept (hkH62 _ hoH60_0.lt.1) (hkH62 _ hoH60_0.lt.2)
      have c59_H62 := c59_H60.kept (hkH62 _ c59_H60.lt.1) (hkH62 _ c59_H60.lt.2)
      have hstx42_H62 := hstx42_H60.kept (hkH62 _ hstx42_H60.lt.1) (hkH62 _ hstx42_H60.lt.2)
      have hstx53_H62 := hstx53_H60.kept (hkH62 _ hstx53_H60.lt.1) (hkH62 _ hstx53_H60.lt.2)
      have hzH62 := hz0.at hAB hS
      have hjH62 := hj0.at hAB hS
      have hmH62 : MW θ w H62 r q dt sv th dn rf kn := hm.kept (fun x hx => hS.2.1 x hx (Nat.not_le.mpr hx))
      have hltH62 := hmH62.lt
      have hstx63 : STg S0 H62 x63 y65 2 := hq67
      have lstx63 := hstx63.lt
      refine c_Vr (C := "java/lang/StringBuilder") (As := [.ref x63]) (rest := []) (r := some (.ref s.heap.size)) (st1 := [.ref s.heap.size]) fx hl (jm_appendS θ l S0 _ hzH62 hjH62 s.heap.size x63 H3.size 16 (((((0 + 1) + 4) + 1) + 2) + 1) y65 2 hoH60_0_H62 hstx63 (by omega) (by omega) (by omega) (by omega) (by omega) (by omega) (by omega)) (ob_recv hK hoH60_0_H62.split.choose_spec.1 rfl) dX3_textNow_96 k1468 k340 k341 k3 k342 hd_J4_append_15ec4 rfl rfl ⟨by decide, by decide⟩ (Nat.le_of_ble_eq_true rfl) ⟨by (try dsimp only); omega, by (try dsimp only); omega⟩ hS (fun x hx => by first | exact hx.elim | ((try dsimp only at hx ⊢); omega)) (fun H68 locs hpH68 hsz0H68 hk0H68 hS => ?_)
      obtain ⟨hszH68, hoH68_0⟩ := hpH68
      have hkH68 : ∀ q : Nat, q < (H62).size → ¬ (q = s.heap.size ∨ q = H3.size) → H68[q]? = (H62)[q]? := fun q hq hn => hk0H68 q hq (by (try dsimp only); omega)
      have c59_H68 := c59_H62.kept (hkH68 _ c59_H62.lt.1 (by omega)) (hkH68 _ c59_H62.lt.2 (by omega))
      have hstx42_H68 := hstx42_H62.kept (hkH68 _ hstx42_H62.lt.1 (by omega)) (hkH68 _ hstx42_H62.lt.2 (by omega))
      have hstx53_H68 := hstx53_H62.kept (hkH68 _ hstx53_H62.lt.1 (by omega)) (hkH68 _ hstx53_H62.lt.2 (by omega))
      have hstx63_H68 := hstx63.kept (hkH68 _ hstx63.lt.1 (by omega)) (hkH68 _ hstx63.lt.2 (by omega))
      have lhoH68_0 := hoH68_0.lt
      have hzH68 := hz0.at hAB hS
      have hjH68 := hj0.at hAB hS
      have hmH68 : MW θ w H68 r q dt sv th dn rf kn := hm.kept (fun x hx => hS.2.1 x hx (Nat.not_le.mpr hx))
      have hltH68 := hmH68.lt
      refine c_Vr (C := "java/lang/StringBuilder") (As := []) (rest := []) (r := some (.ref H68.size)) (st1 := [.ref H68.size]) fx hl (jm_toString θ l S0 _ hzH68 hjH68 s.heap.size H3.size 16 ((((((0 + 1) + 4) + 1) + 2) + 1) + 2) hoH68_0 (by omega) (by omega) (by omega)) (ob_recv hK hoH68_0.split.choose_spec.1 rfl) dX3_textNow_99 k1475 k483 k484 k3 k485 hd_J4_toString_0e30d rfl rfl ⟨by decide, by decide⟩ (Nat.le_of_ble_eq_true rfl) ⟨by (try dsimp only); omega, by (try dsimp only); omega⟩ hS (fun x hx => by first | exact hx.elim | ((try dsimp only at hx ⊢); omega)) (fun H69 locs hpH69 hsz0H69 hk0H69 hS => ?_)
      obtain ⟨hszH69, hoH69_0, hoH69_1⟩ := hpH69
      have hkH69 : ∀ q : Nat, q < (H68).size → H69[q]? = (H68)[q]? := fun q hq => hk0H69 q hq (Nat.not_le.mpr hq)
      have hoH68_0_H69 := hoH68_0.kept (hkH69 _ hoH68_0.lt.1) (hkH69 _ hoH68_0.lt.2)
      have c59_H69 := c59_H68.kept (hkH69 _ c59_H68.lt.1) (hkH69 _ c59_H68.lt.2)
      have hstx42_H69 := hstx42_H68.kept (hkH69 _ hstx42_H68.lt.1) (hkH69 _ hstx42_H68.lt.2)
      have hstx53_H69 := hstx53_H68.kept (hkH69 _ hstx53_H68.lt.1) (hkH69 _ hstx53_H68.lt.2)
      have hstx63_H69 := hstx63_H68.kept (hkH69 _ hstx63_H68.lt.1) (hkH69 _ hstx63_H68.lt.2)
      have lhoH69_0 := hoH69_0.lt
      have lhoH69_1 := hoH69_1.lt
      have hzH69 := hz0.at hAB hS
      have hjH69 := hj0.at hAB hS
      have hmH69 : MW θ w H69 r q dt sv th dn rf kn := hm.kept (fun x hx => hS.2.1 x hx (Nat.not_le.mpr hx))
      have hltH69 := hmH69.lt
      have e9 : ((if mI (dt a.toNat) / 12 < 0 then 11 else 10) : Nat) = (Int.toNat (((((((0 + 1) + 4) + 1) + 2) + 1) + 2))) := by first | (rw [if_pos (by omega)]; omega) | (rw [if_neg (by omega)]; omega)
      exact e_a hx hb hr (by first | exact Or.inl ⟨_, rfl⟩ | exact Or.inr ⟨_, rfl⟩) hlk hS dX3_textNow_102 (by first | exact Nat.le_of_ble_eq_true rfl | ((try dsimp only); omega)) (by first | exact Nat.le_of_ble_eq_true rfl | ((try dsimp only); omega)) ⟨_, rfl, by omega, (H68.size + 1), by omega, by rw [e9]; exact hoH69_0⟩

set_option maxHeartbeats 4000000 in
set_option maxRecDepth 100000 in
theorem jp_way (θ : TH) (l : Launch) (S0 : State) (H : Heap) (w : Nat → Nat) (r q : Nat → Nat) (dt : Nat → Int) (sv : Nat → Nat → Int) (th dn rf kn : Int) (hw : MWR θ S0 w H r q dt sv th dn rf kn) (hj : SJ θ S0 H) (a n k : Int) (h_0 : 0 ≤ a ∧ a < 6) (h_1 : -1200 ≤ n ∧ n ≤ 1200) (h_2 : 0 ≤ k ∧ k ≤ 48) : CT l yX3_way cX3_way 7 (some (.object "java/util/ArrayList")) 7 241 98 4999 [.ref (w 0), .int (iI a), .int (iI n), .int (iI k)] S0 H (fun v9 H1 => ∃ x : Nat, v9 = some (.ref x) ∧ H.size ≤ x ∧ ∃ d cap : Nat, (H.size ≤ d ∧ x ≠ d ∧ 0 < cap) ∧ LI θ H1 x d cap (k.toNat + 1) (fun i : Nat => dI (wyI (dt a.toNat) n i))) (fun _ _ => False) (fun x : Nat => H.size ≤ x) := by
  refine ct_of (by decide +kernel) (Nat.le_of_ble_eq_true rfl) ?_
  intro pg en s mi args below meth co ls fx hs hr hlk hxt hin hl
  subst hs
  obtain ⟨hx, hb, hml, hown, hts⟩ := id fx.1
  have hS : va_S (fun x : Nat => s.heap.size ≤ x) s.heap s.heap [] := va_S.rf
  obtain ⟨hz, hu, hm, hd, hsv⟩ := id hw
  have hlt0 := hm.lt
  have hu1 := hu.1
  have hz2 := hz.2.1
  have hAB : ∀ x : Nat, (fun x : Nat => s.heap.size ≤ x) x → θ.2.2.2 ≤ x := fun x hx => by (try dsimp only at hx); omega
  have hAn : ∀ x : Nat, s.heap.size ≤ x → (fun x : Nat => s.heap.size ≤ x) x := fun _ h => h
  have hz0 := hz
  have hj0 := hj
  have hK := sz_K fx.2 hz
  have tt0 := hd a.toNat (by omega)
  have tt1 := inR tt0
  have tt2 := dI_b (dt a.toNat)
  have tt3 := (hm.2.2.2.1 a.toNat (by omega)).1.lt
  refine r_new (θ := θ) (ci := 6) (fs := [.int (iI 0), .null, .int (iI 0)]) (C := RJx4a65c) (T := TJx4a65c) (N := 3) hx hb hts gwJx4a65c tyJx4a65c tyJx4a65c_ok hown k1304 k1305 k18 hK hS rfl (fun j hj => by rcases (show j = 0 ∨ j = 1 ∨ j = 2 by omega) with rfl | rfl | rfl <;> rfl) (by (try dsimp only); omega) (by (try dsimp only); omega) dX3_way_0 (fun H1 hnH1 hszH1 hkH1 hS => ?_)
  have hzH1 := hz0.at hAB hS
  have hjH1 := hj0.at hAB hS
  have hmH1 : MW θ w H1 r q dt sv th dn rf kn := hm.kept (fun x hx => hS.2.1 x hx (Nat.not_le.mpr hx))
  have hltH1 := hmH1.lt
  have lnH1 := hnH1.lt
  refine lv_dup hx hb dX3_way_3 rfl ?_
  refine c_Ir (As := []) (rest := [.ref s.heap.size]) (r := none) (st1 := [.ref s.heap.size]) fx hl (jm_alInit θ l S0 _ hzH1 hjH1 s.heap.size hnH1 (by omega)) dX3_way_4 k1306 k1307 k18 k1308 rfl hd_Jx4a65c_init_da8c8 rfl rfl ⟨by decide, by decide⟩ (Nat.le_of_ble_eq_true rfl) ⟨by (try dsimp only); omega, by (try dsimp only); omega⟩ hS (fun x hx => by first | exact hx.elim | ((try dsimp only at hx ⊢); omega)) (fun H2 locs hpH2 hsz0H2 hk0H2 hS => ?_)
  obtain ⟨hszH2, hoH2_0⟩ := hpH2
  have hkH2 : ∀ q : Nat, q < (H1).size → ¬ (q = s.heap.size) → H2[q]? = (H1)[q]? := fun q hq hn => hk0H2 q hq (by (try dsimp only); omega)
  have lhoH2_0 := hoH2_0.lt
  have hzH2 := hz0.at hAB hS
  have hjH2 := hj0.at hAB hS
  have hmH2 : MW θ w H2 r q dt sv th dn rf kn := hm.kept (fun x hx => hS.2.1 x hx (Nat.not_le.mpr hx))
  have hltH2 := hmH2.lt
  refine lv_astore (lv' := [(4, .ref s.heap.size), (0, .ref (w 0)), (1, .int (iI a)), (2, .int (iI n)), (3, .int (iI k))]) hx hb dX3_way_7 hl (by decide) rfl (fun ls hl => ?_)
  refine lv_aload_n hx hb dX3_way_9 rfl (lv_at hl 1 rfl) ?_
  refine r_get (θ := θ) (C := RX3) (T := TX3) (N := 6) (ci := 9) hx hb hts gwX3 hown hK hmH2.1 rfl 4 (by decide) k1094 (fun _ h => h) (v := .ref (w 1)) rfl dX3_way_10 ?_
  refine lv_iload_n hx hb dX3_way_13 rfl (lv_at hl 2 rfl) ?_
  refine r_aald (θ := θ) hx hb hK hmH2.2.1 (i := a) (by omega) (by decide) dX3_way_14 ?_
  have rw3 := (hmH2.2.2.2.1 (a.toNat) (by omega)).1
  have rw3n := (hmH2.2.2.2.1 (a.toNat) (by omega)).2
  have rw3t := hd (a.toNat) (by omega)
  have rw3l := rw3.lt
  have rw3i := inR rw3t
  have rw3m := inM rw3i
  have rw3d := dI_b (dt a.toNat)
  refine lv_astore (lv' := [(5, .ref (r a.toNat)), (4, .ref s.heap.size), (0, .ref (w 0)), (1, .int (iI a)), (2, .int (iI n)), (3, .int (iI k))]) hx hb dX3_way_15 hl (by decide) rfl (fun ls hl => ?_)
  refine lv_aload hx hb dX3_way_17 (lv_at hl 1 rfl) ?_
  refine lv_aload hx hb dX3_way_19 (lv_at hl 0 rfl) ?_
  refine q_con hx hb dX3_way_21 ?_
  refine r_iald (θ := θ) hx hb hK rw3 (i := 1) (by omega) (by decide) dX3_way_22 ?_
  refine q_as (dI (dt a.toNat)) rfl ?_
  refine c_Sr (As := [.int (iI (dI (dt a.toNat)))]) (rest := [.ref s.heap.size]) (r := some (.ref (bx θ (dI (dt a.toNat))))) (st1 := [.ref (bx θ (dI (dt a.toNat))), .ref s.heap.size]) fx hl (jm_valueOf θ l S0 _ hzH2 hjH2 (dI (dt a.toNat)) (by omega)) dX3_way_23 k1333 k1334 k20 k1335 hd_J6_valueOf_2dffe rfl rfl ⟨by decide, by decide⟩ (Nat.le_of_ble_eq_true rfl) ⟨by (try dsimp only); omega, by (try dsimp only); omega⟩ hS (fun x hx => by first | exact hx.elim | ((try dsimp only at hx ⊢); omega)) (fun H4 locs hpH4 hsz0H4 hk0H4 hS => ?_)
  obtain rfl := hpH4.symm
  have li5 := li0 hoH2_0 (fun i : Nat => dI (wyI (dt a.toNat) n i))
  have loH6 := li5.lt
  refine c_Vr (C := "java/util/ArrayList") (As := [.ref (bx θ (dI (dt a.toNat)))]) (rest := []) (r := some (.int (iI 1))) (st1 := [.int (iI 1)]) fx hl (jm_add θ l S0 _ hzH2 hjH2 s.heap.size (dI (dt a.toNat)) (θ.2.2.1 23) 0 0 (fun i : Nat => dI (wyI (dt a.toNat) n i)) li5 (by omega) (by omega) (by omega) (by omega) (fun _ => ⟨by omega, by omega⟩)) (ob_recv hK li5.ob rfl) dX3_way_26 k1353 k1354 k1355 k18 k1356 hd_Jx4a65c_add_9ea2d rfl rfl ⟨by decide, by decide⟩ (Nat.le_of_ble_eq_true rfl) ⟨by (try dsimp only); omega, by (try dsimp only); omega⟩ hS (fun x hx => by (try dsimp only at hx ⊢); omega) (fun H6 locs hpH6 hszH6 hk0H6 hS => ?_)
  obtain ⟨dH6, capH6, hl9H6, hc9H6, hd9H6, he9H6⟩ := hpH6
  have hkH6 : ∀ q : Nat, q < (H2).size → ¬ (q = s.heap.size ∨ (0 < 0 ∧ q = (θ.2.2.1 23))) → H6[q]? = (H2)[q]? := fun q hq hn => hk0H6 q hq (by (try dsimp only); omega)
  have hzH6 := hz0.at hAB hS
  have hjH6 := hj0.at hAB hS
  have hmH6 : MW θ w H6 r q dt sv th dn rf kn := hm.kept (fun x hx => hS.2.1 x hx (Nat.not_le.mpr hx))
  have hltH6 := hmH6.lt
  have hliH6 : LI θ H6 s.heap.size dH6 capH6 (0 + 1) (fun i : Nat => dI (wyI (dt a.toNat) n i)) := by have z9 := hl9H6; rw [up_same _ _ _ (by first | rfl | (show _ = dI (shI (wyI (dt a.toNat) n j.toNat) n); rw [← hI33.2.1]))] at z9; exact z9
  have lliH6 := hliH6.lt
  refine lv_pop hx hb dX3_way_29 rfl ?_
  refine q_con hx hb dX3_way_30 ?_
  refine lv_istore (lv' := [(6, .int (iI 0)), (5, .ref (r a.toNat)), (4, .ref s.heap.size), (0, .ref (w 0)), (1, .int (iI a)), (2, .int (iI n)), (3, .int (iI k))]) hx hb dX3_way_31 hl (by decide) rfl (fun ls hl => ?_)
  refine w_loopH (nL := 7) (σ := Nat × Int × Int × Nat × Nat) (fun x => (k - x.2.1).toNat) (fun x H1 locs1 c9 s9 => ((0 ≤ x.2.1 ∧ x.2.1 ≤ k) ∧ (x.2.2.1 = wyI (dt a.toNat) n x.2.1.toNat) ∧ (10 ≤ x.2.2.2.2 ∧ x.2.2.2.2 ≤ 73 ∧ s.heap.size < x.2.2.2.1) ∧ (x.1 ≠ s.heap.size ∧ x.1 ≠ x.2.2.2.1)) ∧ DR θ H1 x.1 x.2.2.1 ∧ LI θ H1 s.heap.size x.2.2.2.1 x.2.2.2.2 (x.2.1.toNat + 1) (fun i : Nat => dI (wyI (dt a.toNat) n i)) ∧ va_S (fun x : Nat => s.heap.size ≤ x) s.heap H1 locs1 ∧ c9 ≤ 2 + 2 * Int.toNat x.2.1 ∧ s9 ≤ 103 + 102 * Int.toNat x.2.1) (fun x => [(5, .ref x.1), (6, .int (iI x.2.1)), (4, .ref s.heap.size), (0, .ref (w 0)), (1, .int (iI a)), (2, .int (iI n)), (3, .int (iI k))]) ?_ (((r a.toNat) : Nat), (0 : Int), (dt a.toNat : Int), (dH6 : Nat), (capH6 : Nat)) ⟨⟨by first | ((try dsimp only); (first | omega | rfl)) | (dsimp only; done), by first | ((try dsimp only); (first | omega | rfl)) | (dsimp only; done), by first | ((try dsimp only); (first | omega | rfl)) | (dsimp only; done), by first | ((try dsimp only); (first | omega | rfl)) | (dsimp only; done)⟩, (hmH6.2.2.2.1 a.toNat (by omega)).1, (by first | exact hliH6 | (rw [show Int.toNat 0 + 1 = (0 + 1) by omega]; exact hliH6)), hS, by (try dsimp only); omega, by (try dsimp only); omega⟩ (lv_sub hl [1, 0, 2, 3, 4, 5, 6] rfl)
  intro x H7 locs cells slots hJ33 ih33 ls hl
  obtain ⟨at1, j, dd, da, ca⟩ := x
  obtain ⟨hI33, hf0H7, hf1H7, hS, hcH7, hsH7⟩ := hJ33
  (try dsimp only at hI33 hcH7 hsH7 ih33 hl ⊢)
  (try dsimp only at hf0H7)
  (try dsimp only at hf1H7)
  have hsgeH7 := hS.1
  have twb := wy_bd (dt a.toNat) n (hd a.toNat (by omega)) (by omega) j.toNat
  rw [← hI33.2.1] at twb
  have twl := dI_b (shI dd n)
  have hzH7 := hz0.at hAB hS
  have hjH7 := hj0.at hAB hS
  have hmH7 : MW θ w H7 r q dt sv th dn rf kn := hm.kept (fun x hx => hS.2.1 x hx (Nat.not_le.mpr hx))
  have hltH7 := hmH7.lt
  have lhf0H7 := hf0H7.lt
  have lhf1H7 := hf1H7.lt
  refine lv_iload hx hb dX3_way_33 (lv_at hl 1 rfl) ?_
  refine lv_iload_n hx hb dX3_way_35 rfl (lv_at hl 6 rfl) ?_
  refine q_cge (tgt := 66) hx hb dX3_way_36 (by decide) (by omega) (by omega) (fun c8 => ?_) (fun c8 => ?_)
  · refine lv_aload hx hb dX3_way_66 (lv_at hl 2 rfl) ?_
    exact e_a hx hb hr (by first | exact Or.inl ⟨_, rfl⟩ | exact Or.inr ⟨_, rfl⟩) hlk hS dX3_way_68 (by first | exact Nat.le_of_ble_eq_true rfl | ((try dsimp only); omega)) (by first | exact Nat.le_of_ble_eq_true rfl | ((try dsimp only); omega)) ⟨_, rfl, by omega, da, ca, ⟨by omega, by omega, by omega⟩, by rw [show k.toNat = j.toNat by omega]; exact hf1H7⟩
  · refine lv_aload hx hb dX3_way_39 (lv_at hl 0 rfl) ?_
    refine lv_iload_n hx hb dX3_way_41 rfl (lv_at hl 5 rfl) ?_
    refine c_NR (θ := θ) (As := [.ref at1, .int (iI n)]) (rest := []) fx hl (pm_X3_shifted θ l S0 _ hzH7 at1 n dd hf0H7 (by omega) (by omega)) dX3_way_42 k1183 k1184 k6 k1185 hd_X3_shifted rfl ⟨by decide, by decide⟩ (Nat.le_of_ble_eq_true rfl) ⟨by dsimp only; omega, by dsimp only; omega⟩ hS (fun x hx => hAn x (Nat.le_trans hS.1 hx)) (fun q10 H9 locs hqH9 haH9 hszH9 hkH9 hS => ?_)
    have hf1H7_H9 := hf1H7.kept (hkH9 _ hf1H7.lt.1) (fun hc => (hkH9 _ (hf1H7.lt.2.1 hc)))
    have hf0H7_H9 := hf0H7.kept (hkH9 _ hf0H7.lt)
    have hzH9 := hz0.at hAB hS
    have hjH9 := hj0.at hAB hS
    have hmH9 : MW θ w H9 r q dt sv th dn rf kn := hm.kept (fun x hx => hS.2.1 x hx (Nat.not_le.mpr hx))
    have hltH9 := hmH9.lt
    have hltH9 := haH9.lt
    have t0q10 := shI_s dd n
    have t1q10 := shI_bd dd n
    refine lv_astore (lv' := [(5, .ref q10), (6, .int (iI j)), (4, .ref s.heap.size), (0, .ref (w 0)), (1, .int (iI a)), (2, .int (iI n)), (3, .int (iI k))]) hx hb dX3_way_45 hl (by decide) rfl (fun ls hl => ?_)
    refine lv_aload hx hb dX3_way_47 (lv_at hl 2 rfl) ?_
    refine lv_aload hx hb dX3_way_49 (lv_at hl 0 rfl) ?_
    refine q_con hx hb dX3_way_51 ?_
    refine r_iald (θ := θ) hx hb hK haH9 (i := 1) (by omega) (by decide) dX3_way_52 ?_
    refine q_as (dI (shI dd n)) rfl ?_
    refine c_Sr (As := [.int (iI (dI (shI dd n)))]) (rest := [.ref s.heap.size]) (r := some (.ref (bx θ (dI (shI dd n))))) (st1 := [.ref (bx θ (dI (shI dd n))), .ref s.heap.size]) fx hl (jm_valueOf θ l S0 _ hzH9 hjH9 (dI (shI dd n)) (by omega)) dX3_way_53 k1333 k1334 k20 k1335 hd_J6_valueOf_2dffe rfl rfl ⟨by decide, by decide⟩ (Nat.le_of_ble_eq_true rfl) ⟨by (try dsimp only); omega, by (try dsimp only); omega⟩ hS (fun x hx => by first | exact hx.elim | ((try dsimp only at hx ⊢); omega)) (fun H11 locs hpH11 hsz0H11 hk0H11 hS => ?_)
    obtain rfl := hpH11.symm
    have loH12 := hf1H7_H9.lt
    refine c_Vr (C := "java/util/ArrayList") (As := [.ref (bx θ (dI (shI dd n)))]) (rest := []) (r := some (.int (iI 1))) (st1 := [.int (iI 1)]) fx hl (jm_add θ l S0 _ hzH9 hjH9 s.heap.size (dI (shI dd n)) da ca (j.toNat + 1) (fun i : Nat => dI (wyI (dt a.toNat) n i)) hf1H7_H9 (by omega) (by omega) (by omega) (by omega) (fun _ => ⟨by omega, by omega⟩)) (ob_recv hK hf1H7_H9.ob rfl) dX3_way_56 k1353 k1354 k1355 k18 k1356 hd_Jx4a65c_add_9ea2d rfl rfl ⟨by decide, by decide⟩ (Nat.le_of_ble_eq_true rfl) ⟨by (try dsimp only); omega, by (try dsimp only); omega⟩ hS (fun x hx => by (try dsimp only at hx ⊢); omega) (fun H12 locs hpH12 hszH12 hk0H12 hS => ?_)
    obtain ⟨dH12, capH12, hl9H12, hc9H12, hd9H12, he9H12⟩ := hpH12
    have hkH12 : ∀ q : Nat, q < (H9).size → ¬ (q = s.heap.size ∨ (0 < ca ∧ q = da)) → H12[q]? = (H9)[q]? := fun q hq hn => hk0H12 q hq (by (try dsimp only); omega)
    have hf0H7_H12 := hf0H7_H9.kept (hkH12 _ hf0H7_H9.lt (by omega))
    have haH9_H12 := haH9.kept (hkH12 _ haH9.lt (by omega))
    have hzH12 := hz0.at hAB hS
    have hjH12 := hj0.at hAB hS
    have hmH12 : MW θ w H12 r q dt sv th dn rf kn := hm.kept (fun x hx => hS.2.1 x hx (Nat.not_le.mpr hx))
    have hltH12 := hmH12.lt
    have hliH12 : LI θ H12 s.heap.size dH12 capH12 ((j.toNat + 1) + 1) (fun i : Nat => dI (wyI (dt a.toNat) n i)) := by have z9 := hl9H12; rw [up_same _ _ _ (by first | rfl | (show _ = dI (shI (wyI (dt a.toNat) n j.toNat) n); rw [← hI33.2.1]))] at z9; exact z9
    have lliH12 := hliH12.lt
    refine lv_pop hx hb dX3_way_59 rfl ?_
    refine lv_iinc (v := iI (j + 1)) (lv' := [(6, .int (iI (j + 1))), (5, .ref q10), (4, .ref s.heap.size), (0, .ref (w 0)), (1, .int (iI a)), (2, .int (iI n)), (3, .int (iI k))]) hx hb dX3_way_60 hl (k := 1) rfl (iI_add _ _) (by decide) rfl (fun ls hl => ?_)
    refine lv_goto (tgt := 33) hx hb dX3_way_63 (by decide) ?_
    exact ih33 ((q10 : Nat), (j + 1 : Int), (shI dd n : Int), (dH12 : Nat), (capH12 : Nat)) _ _ _ _ _ ⟨⟨by first | ((try dsimp only); (first | omega | (rw [show (j + 1).toNat = j.toNat + 1 by omega]; show _ = shI (wyI (dt a.toNat) n j.toNat) n; rw [← hI33.2.1]))) | (dsimp only; done), by first | ((try dsimp only); (first | omega | (rw [show (j + 1).toNat = j.toNat + 1 by omega]; show _ = shI (wyI (dt a.toNat) n j.toNat) n; rw [← hI33.2.1]))) | (dsimp only; done), by first | ((try dsimp only); (first | omega | (rw [show (j + 1).toNat = j.toNat + 1 by omega]; show _ = shI (wyI (dt a.toNat) n j.toNat) n; rw [← hI33.2.1]))) | (dsimp only; done), by first | ((try dsimp only); (first | omega | (rw [show (j + 1).toNat = j.toNat + 1 by omega]; show _ = shI (wyI (dt a.toNat) n j.toNat) n; rw [← hI33.2.1]))) | (dsimp only; done)⟩, haH9_H12, (by first | exact hliH12 | (rw [show Int.toNat (j + 1) + 1 = ((j.toNat + 1) + 1) by omega]; exact hliH12)), hS, by (try dsimp only); omega, by (try dsimp only); omega⟩ (by (try dsimp only); omega) (lv_sub hl [1, 0, 2, 3, 4, 5, 6] rfl)

set_option maxHeartbeats 4000000 in
set_option maxRecDepth 100000 in
theorem mok_text (θ : TH) (l : Launch) (S0 : State) (H : Heap) (w : Nat → Nat) (r q : Nat → Nat) (dt : Nat → Int) (sv : Nat → Nat → Int) (th dn rf kn : Int) (hw : MWR θ S0 w H r q dt sv th dn rf kn) (hj : SJ θ S0 H) (a : Int) (h_0 : -2147483648 ≤ a ∧ a < 2147483648) (h_1 : 0 ≤ a ∧ a < 6) : CT l yX3_text cX3_text 2 (some (.object "java/lang/String")) 8 215 52 520 [.ref (w 0), .int (iI a)] S0 H (fun v9 H1 => (∃ x y ln : Nat, v9 = some (.ref x) ∧ STg S0 H1 x y ln) ∧ ∃ r1 q1 : Nat → Nat, MWR θ S0 w H1 r1 q1 dt sv 0 dn rf kn ∧ NW 6 H.size r r1 ∧ NW 3 H.size q q1) (fun _ _ => False) (WA w H.size) := by
  refine ct_of (by decide +kernel) (Nat.le_of_ble_eq_true rfl) ?_
  intro pg en s mi args below meth co ls fx hs hr hlk hxt hin hl
  subst hs
  obtain ⟨hx, hb, hml, hown, hts⟩ := id fx.1
  have hS : va_S (fun x : Nat => (x = w 0 ∨ x = w 1 ∨ x = w 2) ∨ s.heap.size ≤ x) s.heap s.heap [] := va_S.rf
  obtain ⟨hz, hu, hm, hd, hsv⟩ := id hw
  have hAB : ∀ x : Nat, (fun x : Nat => (x = w 0 ∨ x = w 1 ∨ x = w 2) ∨ s.heap.size ≤ x) x → θ.2.2.2 ≤ x := wa_b hu hz.2.1
  have hz0 := hz
  have hK := sz_K fx.2 hz
  have hlt0 := hm.lt
  have hu1 := hu.1
  have hAn : ∀ x : Nat, s.heap.size ≤ x → (fun x : Nat => (x = w 0 ∨ x = w 1 ∨ x = w 2) ∨ s.heap.size ≤ x) x := fun _ h => Or.inr h
  have hj0 := hj
  have hz2 := hz.2.1
  refine lv_aload_n hx hb dX3_text_0 rfl (lv_at hl 0 rfl) ?_
  refine lv_iload_n hx hb dX3_text_1 rfl (lv_at hl 1 rfl) ?_
  obtain ⟨r1, hr1⟩ := bex (a < 0 ∨ 5 < a)
  refine c_P (As := [.int (iI a)]) (rest := [.ref (w 0)]) fx hl (pm_X3_isNo l a r1 hr1 (by omega)) dX3_text_2 k1113 k1114 k6 k1115 hd_X3_isNo rfl ⟨by decide, by decide⟩ (Nat.le_of_ble_eq_true rfl) ⟨by (try dsimp only); omega, by (try dsimp only); omega⟩ ?_
  have br1 : r1 = 0 ∨ r1 = 1 := hr1.elim (fun h => Or.inr h.1) (fun h => Or.inl h.1)
  refine q_con hx hb dX3_text_5 ?_
  refine q_con hx hb dX3_text_6 ?_
  obtain ⟨t2, f3, hq1t2, hq2t2⟩ := fails_ex r1 0 0 (by omega) (by omega) (by omega)
  have hmw : MWR θ S0 w s.heap r q dt sv th dn rf kn := ⟨hz, hu, hm, hd, hsv⟩
  refine c_M (w := w) (As := [.int (iI r1), .int (iI 0), .int (iI 0)]) (rest := []) (b := w 0) (C := RX3) fx hl (mw_fails θ l S0 _ w _ _ _ _ _ _ _ _ hmw r1 0 0 t2 f3 (by omega) hq1t2 hq2t2) (ob_recv hK hm.1 rfl) dX3_text_7 k1119 k1121 ks10 k6 k1122 hd_X3_fails rfl ⟨by decide, by decide⟩ (Nat.le_of_ble_eq_true rfl) ⟨by dsimp only; omega, by dsimp only; omega⟩ hS (fun x hx => hx ▸ Or.inl (Or.inl rfl)) (fun H4 locs hmH4 hszH4 hk0H4 hS => ?_)
  have hkH4 : ∀ x : Nat, x < (s.heap).size → ¬ x = w 0 → H4[x]? = (s.heap)[x]? := hk0H4
  have hzH4 := hz0.at hAB hS
  have hltH4 := hmH4.lt
  have hjH4 := hj0.at hAB hS
  refine q_ieq (tgt := 18) hx hb dX3_text_10 (by decide) (by omega) (fun c5 => ?_) (fun c5 => ?_)
  · refine lv_aload_n hx hb dX3_text_18 rfl (lv_at hl 0 rfl) ?_
    refine lv_iload_n hx hb dX3_text_19 rfl (lv_at hl 1 rfl) ?_
    have hmw : MWR θ S0 w H4 r q dt sv t2 dn rf kn := ⟨hzH4, hu, hmH4, hd, hsv⟩
    refine c_ME (As := [.int (iI a)]) (rest := []) (b := w 0) (C := RX3) fx hl (jp_textNow θ l S0 _ w _ _ _ _ _ _ _ _ hmw hjH4 a (by omega)) (ob_recv hK hmH4.1 rfl) dX3_text_20 k1584 k1586 ks31 k6 k1587 hd_X3_textNow rfl ⟨by decide, by decide⟩ (Nat.le_of_ble_eq_true rfl) ⟨by (try dsimp only); omega, by (try dsimp only); omega⟩ hS (fun x hx => hAn x (Nat.le_trans hS.1 hx)) (fun x7 H6 locs hpH6 hszH6 hk0H6 hS => ?_)
    obtain ⟨hx8, y9, hy10, hq11⟩ := hpH6
    have hkH6 : ∀ q : Nat, q < (H4).size → H6[q]? = (H4)[q]? := fun q hq => hk0H6 q hq (Nat.not_le.mpr hq)
    have hzH6 := hz0.at hAB hS
    have hjH6 := hj0.at hAB hS
    have hkmH6 : ∀ x : Nat, x < (H4).size → H6[x]? = (H4)[x]? := fun x hx => (hkH6 x (by omega)).trans ((fun x (_ : x < (H4).size) => (rfl : (H4)[x]? = (H4)[x]?)) x hx)
    have hmH6 := hmH4.kept hkmH6
    have hltH6 := hmH6.lt
    obtain ⟨tnx7, etnx7⟩ : ∃ z : Nat, z = (if mI (dt a.toNat) / 12 < 0 then 11 else 10) := ⟨_, rfl⟩
    have btnx7 : tnx7 ≤ 11 := by rw [etnx7]; split <;> omega
    have hstx7 : STg S0 H6 x7 y9 tnx7 := by rw [etnx7]; exact hq11
    have lstx7 := hstx7.lt
    obtain rfl : t2 = 0 := by omega
    have hmw : MWR θ S0 w H6 r q dt sv 0 dn rf kn := ⟨hzH6, hu, hmH6, hd, hsv⟩
    first | exact e_a hx hb hr (by first | exact Or.inl ⟨_, rfl⟩ | exact Or.inr ⟨_, rfl⟩) hlk hS dX3_text_23 (by first | exact Nat.le_of_ble_eq_true rfl | ((try dsimp only); omega)) (by first | exact Nat.le_of_ble_eq_true rfl | ((try dsimp only); omega)) ⟨⟨_, _, _, rfl, hstx7⟩, r, q, by first | exact hmw | (subst_vars; exact hmw), by first | exact nw_rf | exact nw_up (by omega) | exact nw_up2 (by omega), by first | exact nw_rf | exact nw_up (by omega) | exact nw_up2 (by omega)⟩ | exact (show False by omega).elim
  · exact (show False by omega).elim

set_option maxHeartbeats 4000000 in
set_option maxRecDepth 100000 in
theorem mno1_text (θ : TH) (l : Launch) (S0 : State) (H : Heap) (w : Nat → Nat) (r q : Nat → Nat) (dt : Nat → Int) (sv : Nat → Nat → Int) (th dn rf kn : Int) (hw : MWR θ S0 w H r q dt sv th dn rf kn) (hj : SJ θ S0 H) (a : Int) (h_0 : -2147483648 ≤ a ∧ a < 2147483648) (h_1 : ¬ (0 ≤ a ∧ a < 6)) : CT l yX3_text cX3_text 2 (some (.object "java/lang/String")) 2 42 0 0 [.ref (w 0), .int (iI a)] S0 H (fun v9 H1 => (∃ x y ln : Nat, v9 = some (.ref x) ∧ STg S0 H1 x y ln) ∧ ∃ r1 q1 : Nat → Nat, MWR θ S0 w H1 r1 q1 dt sv 1 dn rf kn ∧ NW 6 H.size r r1 ∧ NW 3 H.size q q1) (fun _ _ => False) (WA w H.size) := by
  refine ct_of (by decide +kernel) (Nat.le_of_ble_eq_true rfl) ?_
  intro pg en s mi args below meth co ls fx hs hr hlk hxt hin hl
  subst hs
  obtain ⟨hx, hb, hml, hown, hts⟩ := id fx.1
  have hS : va_S (fun x : Nat => (x = w 0 ∨ x = w 1 ∨ x = w 2) ∨ s.heap.size ≤ x) s.heap s.heap [] := va_S.rf
  obtain ⟨hz, hu, hm, hd, hsv⟩ := id hw
  have hAB : ∀ x : Nat, (fun x : Nat => (x = w 0 ∨ x = w 1 ∨ x = w 2) ∨ s.heap.size ≤ x) x → θ.2.2.2 ≤ x := wa_b hu hz.2.1
  have hz0 := hz
  have hK := sz_K fx.2 hz
  have hlt0 := hm.lt
  have hu1 := hu.1
  have hAn : ∀ x : Nat, s.heap.size ≤ x → (fun x : Nat => (x = w 0 ∨ x = w 1 ∨ x = w 2) ∨ s.heap.size ≤ x) x := fun _ h => Or.inr h
  have hj0 := hj
  have hz2 := hz.2.1
  refine lv_aload_n hx hb dX3_text_0 rfl (lv_at hl 0 rfl) ?_
  refine lv_iload_n hx hb dX3_text_1 rfl (lv_at hl 1 rfl) ?_
  obtain ⟨r1, hr1⟩ := bex (a < 0 ∨ 5 < a)
  refine c_P (As := [.int (iI a)]) (rest := [.ref (w 0)]) fx hl (pm_X3_isNo l a r1 hr1 (by omega)) dX3_text_2 k1113 k1114 k6 k1115 hd_X3_isNo rfl ⟨by decide, by decide⟩ (Nat.le_of_ble_eq_true rfl) ⟨by (try dsimp only); omega, by (try dsimp only); omega⟩ ?_
  have br1 : r1 = 0 ∨ r1 = 1 := hr1.elim (fun h => Or.inr h.1) (fun h => Or.inl h.1)
  refine q_con hx hb dX3_text_5 ?_
  refine q_con hx hb dX3_text_6 ?_
  obtain ⟨t2, f3, hq1t2, hq2t2⟩ := fails_ex r1 0 0 (by omega) (by omega) (by omega)
  have hmw : MWR θ S0 w s.heap r q dt sv th dn rf kn := ⟨hz, hu, hm, hd, hsv⟩
  refine c_M (w := w) (As := [.int (iI r1), .int (iI 0), .int (iI 0)]) (rest := []) (b := w 0) (C := RX3) fx hl (mw_fails θ l S0 _ w _ _ _ _ _ _ _ _ hmw r1 0 0 t2 f3 (by omega) hq1t2 hq2t2) (ob_recv hK hm.1 rfl) dX3_text_7 k1119 k1121 ks10 k6 k1122 hd_X3_fails rfl ⟨by decide, by decide⟩ (Nat.le_of_ble_eq_true rfl) ⟨by dsimp only; omega, by dsimp only; omega⟩ hS (fun x hx => hx ▸ Or.inl (Or.inl rfl)) (fun H4 locs hmH4 hszH4 hk0H4 hS => ?_)
  have hkH4 : ∀ x : Nat, x < (s.heap).size → ¬ x = w 0 → H4[x]? = (s.heap)[x]? := hk0H4
  have hzH4 := hz0.at hAB hS
  have hltH4 := hmH4.lt
  have hjH4 := hj0.at hAB hS
  refine q_ieq (tgt := 18) hx hb dX3_text_10 (by decide) (by omega) (fun c5 => ?_) (fun c5 => ?_)
  · exact (show False by omega).elim
  · refine va_ldcS hx hb hown (vk_R.warm fx.2 hj0.1.2.2.2.2.2.2.1) dX3_text_13 ?_
    have c6 := (hjH4.2.2.2.2.2.2.2.1).g
    have lc6 := c6.lt
    have mc6 := (hj0.2.2.2.2.2.2.2.1).g.lt
    refine lv_goto (tgt := 23) hx hb dX3_text_15 (by decide) ?_
    obtain rfl : t2 = 1 := by omega
    have hmw : MWR θ S0 w H4 r q dt sv 1 dn rf kn := ⟨hzH4, hu, hmH4, hd, hsv⟩
    first | exact e_a hx hb hr (by first | exact Or.inl ⟨_, rfl⟩ | exact Or.inr ⟨_, rfl⟩) hlk hS dX3_text_23 (by first | exact Nat.le_of_ble_eq_true rfl | ((try dsimp only); omega)) (by first | exact Nat.le_of_ble_eq_true rfl | ((try dsimp only); omega)) ⟨⟨_, _, _, rfl, c6⟩, r, q, by first | exact hmw | (subst_vars; exact hmw), by first | exact nw_rf | exact nw_up (by omega) | exact nw_up2 (by omega), by first | exact nw_rf | exact nw_up (by omega) | exact nw_up2 (by omega)⟩ | exact (show False by omega).elim

set_option maxHeartbeats 4000000 in
set_option maxRecDepth 100000 in
theorem mok_lowest (θ : TH) (l : Launch) (S0 : State) (H : Heap) (w : Nat → Nat) (r q : Nat → Nat) (dt : Nat → Int) (sv : Nat → Nat → Int) (th dn rf kn : Int) (hw : MWR θ S0 w H r q dt sv th dn rf kn) (hj : SJ θ S0 H) (a n k : Int) (h_0 : -2147483648 ≤ a ∧ a < 2147483648) (h_1 : -2147483648 ≤ n ∧ n < 2147483648) (h_2 : -2147483648 ≤ k ∧ k < 2147483648) (h_3 : 0 ≤ a ∧ a < 6) (h_4 : -1200 ≤ n ∧ n ≤ 1200) (h_5 : 0 ≤ k ∧ k ≤ 48) : CT l yX3_lowest cX3_lowest 4 (some .int) 8 267 98 4999 [.ref (w 0), .int (iI a), .int (iI n), .int (iI k)] S0 H (fun v9 H1 => v9 = some (.int (iI (dI (wyI (dt a.toNat) n k.toNat)))) ∧ ∃ r1 q1 : Nat → Nat, MWR θ S0 w H1 r1 q1 dt sv 0 dn rf kn ∧ NW 6 H.size r r1 ∧ NW 3 H.size q q1) (fun _ _ => False) (WA w H.size) := by
  refine ct_of (by decide +kernel) (Nat.le_of_ble_eq_true rfl) ?_
  intro pg en s mi args below meth co ls fx hs hr hlk hxt hin hl
  subst hs
  obtain ⟨hx, hb, hml, hown, hts⟩ := id fx.1
  have hS : va_S (fun x : Nat => (x = w 0 ∨ x = w 1 ∨ x = w 2) ∨ s.heap.size ≤ x) s.heap s.heap [] := va_S.rf
  obtain ⟨hz, hu, hm, hd, hsv⟩ := id hw
  have hAB : ∀ x : Nat, (fun x : Nat => (x = w 0 ∨ x = w 1 ∨ x = w 2) ∨ s.heap.size ≤ x) x → θ.2.2.2 ≤ x := wa_b hu hz.2.1
  have hz0 := hz
  have hK := sz_K fx.2 hz
  have hlt0 := hm.lt
  have hu1 := hu.1
  have hAn : ∀ x : Nat, s.heap.size ≤ x → (fun x : Nat => (x = w 0 ∨ x = w 1 ∨ x = w 2) ∨ s.heap.size ≤ x) x := fun _ h => Or.inr h
  have tw0 := dI_b (wyI (dt a.toNat) n k.toNat)
  have hj0 := hj
  have hz2 := hz.2.1
  refine lv_aload_n hx hb dX3_lowest_0 rfl (lv_at hl 0 rfl) ?_
  refine lv_iload_n hx hb dX3_lowest_1 rfl (lv_at hl 1 rfl) ?_
  refine lv_iload_n hx hb dX3_lowest_2 rfl (lv_at hl 2 rfl) ?_
  refine lv_iload_n hx hb dX3_lowest_3 rfl (lv_at hl 3 rfl) ?_
  obtain ⟨t1, f2, hq1t1, hq2t1⟩ := fw_ex (0 ≤ a ∧ a < 6) ((-1200 ≤ n ∧ n ≤ 1200) ∧ 0 ≤ k ∧ k ≤ 48)
  have hmw : MWR θ S0 w s.heap r q dt sv th dn rf kn := ⟨hz, hu, hm, hd, hsv⟩
  refine c_M (w := w) (As := [.int (iI a), .int (iI n), .int (iI k)]) (rest := []) (b := w 0) (C := RX3) fx hl (mw_failsWay θ l S0 _ w _ _ _ _ _ _ _ _ hmw a n k t1 f2 (by omega) (by omega) (by omega) hq1t1 hq2t1) (ob_recv hK hm.1 rfl) dX3_lowest_4 k1296 k1298 ks20 k6 k1299 hd_X3_failsWay rfl ⟨by decide, by decide⟩ (Nat.le_of_ble_eq_true rfl) ⟨by dsimp only; omega, by dsimp only; omega⟩ hS (fun x hx => hx ▸ Or.inl (Or.inl rfl)) (fun H3 locs hmH3 hszH3 hk0H3 hS => ?_)
  have hkH3 : ∀ x : Nat, x < (s.heap).size → ¬ x = w 0 → H3[x]? = (s.heap)[x]? := hk0H3
  have hzH3 := hz0.at hAB hS
  have hltH3 := hmH3.lt
  have hjH3 := hj0.at hAB hS
  refine q_ieq (tgt := 14) hx hb dX3_lowest_7 (by decide) (by omega) (fun c4 => ?_) (fun c4 => ?_)
  · refine lv_aload_n hx hb dX3_lowest_14 rfl (lv_at hl 0 rfl) ?_
    refine lv_iload_n hx hb dX3_lowest_15 rfl (lv_at hl 1 rfl) ?_
    refine lv_iload_n hx hb dX3_lowest_16 rfl (lv_at hl 2 rfl) ?_
    refine lv_iload_n hx hb dX3_lowest_17 rfl (lv_at hl 3 rfl) ?_
    have hmw : MWR θ S0 w H3 r q dt sv t1 dn rf kn := ⟨hzH3, hu, hmH3, hd, hsv⟩
    refine c_ME (As := [.int (iI a), .int (iI n), .int (iI k)]) (rest := []) (b := w 0) (C := RX3) fx hl (jp_way θ l S0 _ w _ _ _ _ _ _ _ _ hmw hjH3 a n k (by omega) (by omega) (by omega)) (ob_recv hK hmH3.1 rfl) dX3_lowest_18 k1300 k1302 ks21 k6 k1303 hd_X3_way rfl ⟨by decide, by decide⟩ (Nat.le_of_ble_eq_true rfl) ⟨by (try dsimp only); omega, by (try dsimp only); omega⟩ hS (fun x hx => hAn x (Nat.le_trans hS.1 hx)) (fun x6 H5 locs hpH5 hszH5 hk0H5 hS => ?_)
    obtain ⟨hx7, d8, cap9, hc10, hq11⟩ := hpH5
    have hkH5 : ∀ q : Nat, q < (H3).size → H5[q]? = (H3)[q]? := fun q hq => hk0H5 q hq (Nat.not_le.mpr hq)
    have hzH5 := hz0.at hAB hS
    have hjH5 := hj0.at hAB hS
    have hkmH5 : ∀ x : Nat, x < (H3).size → H5[x]? = (H3)[x]? := fun x hx => (hkH5 x (by omega)).trans ((fun x (_ : x < (H3).size) => (rfl : (H3)[x]? = (H3)[x]?)) x hx)
    have hmH5 := hmH3.kept hkmH5
    have hltH5 := hmH5.lt
    have hlix6 : LI θ H5 x6 d8 cap9 (Int.toNat k + 1) (fun i : Nat => dI (wyI (dt a.toNat) n i)) := hq11
    have llix6 := hlix6.lt
    refine lv_iload_n hx hb dX3_lowest_21 rfl (lv_at hl 3 rfl) ?_
    obtain ⟨go12, hoo12, h0o12, ha0o12, hkco12, hc1o12, helo12⟩ := hlix6
    have hao12 := ha0o12 (by omega)
    have loo12 := hoo12.lt
    have lao12 := hao12.lt
    refine c_Vr (C := "java/util/ArrayList") (As := [.int (iI k)]) (rest := []) (r := some (.ref (bx θ (dI (wyI (dt a.toNat) n (k).toNat))))) (st1 := [.ref (bx θ (dI (wyI (dt a.toNat) n (k).toNat)))]) fx hl (jm_get θ l S0 _ hzH5 hjH5 x6 k d8 cap9 (((Int.toNat k + 1) : Nat) : Int) (((Int.toNat k + 1) : Nat) : Int) go12 (bx θ (dI (wyI (dt a.toNat) n (k).toNat))) hoo12 hao12 (by omega) (by omega) (by exact (helo12 _ (by omega)).1)) (ob_recv hK hoo12 rfl) dX3_lowest_22 k1398 k1399 k1400 k18 k1401 hd_Jx4a65c_get_915e3 rfl rfl ⟨by decide, by decide⟩ (Nat.le_of_ble_eq_true rfl) ⟨by (try dsimp only); omega, by (try dsimp only); omega⟩ hS (fun x hx => by first | exact hx.elim | ((try dsimp only at hx ⊢); omega)) (fun H13 locs hpH13 hsz0H13 hk0H13 hS => ?_)
    obtain rfl := hpH13.symm
    refine va_castE hx hb hown (hts _ k1410) (o_recv fx.2 (hjH5.box (by omega)).1) dX3_lowest_25 ?_
    refine c_Vr (C := "java/lang/Integer") (As := []) (rest := []) (r := some (.int (iI (dI (wyI (dt a.toNat) n (k).toNat))))) (st1 := [.int (iI (dI (wyI (dt a.toNat) n (k).toNat)))]) fx hl (jm_intValue θ l S0 _ hzH5 hjH5 (bx θ (dI (wyI (dt a.toNat) n (k).toNat))) (dI (wyI (dt a.toNat) n (k).toNat)) (by rfl) (by omega)) (o_recv fx.2 (hjH5.box (by omega)).1) dX3_lowest_28 k1411 k1412 k1413 k20 k1414 hd_J6_intValue_8abf5 rfl rfl ⟨by decide, by decide⟩ (Nat.le_of_ble_eq_true rfl) ⟨by (try dsimp only); omega, by (try dsimp only); omega⟩ hS (fun x hx => by first | exact hx.elim | ((try dsimp only at hx ⊢); omega)) (fun H14 locs hpH14 hsz0H14 hk0H14 hS => ?_)
    obtain rfl := hpH14.symm
    obtain rfl : t1 = 0 := by omega
    have hmw : MWR θ S0 w H5 r q dt sv 0 dn rf kn := ⟨hzH5, hu, hmH5, hd, hsv⟩
    exact e_i hx hb hr hlk hS dX3_lowest_31 (Nat.le_of_ble_eq_true rfl) (Nat.le_of_ble_eq_true rfl) ⟨ex_i (by first | omega | rfl), r, q, by first | exact hmw | (subst_vars; exact hmw) | (simp only [inI_self, inI_1, inI_31] at hmw; subst_vars; exact hmw), by first | exact nw_rf | exact nw_up (by omega) | exact nw_up2 (by omega), by first | exact nw_rf | exact nw_up (by omega) | exact nw_up2 (by omega)⟩
  · exact (show False by omega).elim

set_option maxHeartbeats 4000000 in
set_option maxRecDepth 100000 in
theorem mno1_lowest (θ : TH) (l : Launch) (S0 : State) (H : Heap) (w : Nat → Nat) (r q : Nat → Nat) (dt : Nat → Int) (sv : Nat → Nat → Int) (th dn rf kn : Int) (hw : MWR θ S0 w H r q dt sv th dn rf kn) (hj : SJ θ S0 H) (a n k : Int) (h_0 : -2147483648 ≤ a ∧ a < 2147483648) (h_1 : -2147483648 ≤ n ∧ n < 2147483648) (h_2 : -2147483648 ≤ k ∧ k < 2147483648) (h_3 : ¬ (0 ≤ a ∧ a < 6)) : CT l yX3_lowest cX3_lowest 4 (some .int) 3 65 0 0 [.ref (w 0), .int (iI a), .int (iI n), .int (iI k)] S0 H (fun v9 H1 => v9 = some (.int (iI 0)) ∧ ∃ r1 q1 : Nat → Nat, MWR θ S0 w H1 r1 q1 dt sv 1 dn rf kn ∧ NW 6 H.size r r1 ∧ NW 3 H.size q q1) (fun _ _ => False) (WA w H.size) := by
  refine ct_of (by decide +kernel) (Nat.le_of_ble_eq_true rfl) ?_
  intro pg en s mi args below meth co ls fx hs hr hlk hxt hin hl
  subst hs
  obtain ⟨hx, hb, hml, hown, hts⟩ := id fx.1
  have hS : va_S (fun x : Nat => (x = w 0 ∨ x = w 1 ∨ x = w 2) ∨ s.heap.size ≤ x) s.heap s.heap [] := va_S.rf
  obtain ⟨hz, hu, hm, hd, hsv⟩ := id hw
  have hAB : ∀ x : Nat, (fun x : Nat => (x = w 0 ∨ x = w 1 ∨ x = w 2) ∨ s.heap.size ≤ x) x → θ.2.2.2 ≤ x := wa_b hu hz.2.1
  have hz0 := hz
  have hK := sz_K fx.2 hz
  have hlt0 := hm.lt
  have hu1 := hu.1
  have hAn : ∀ x : Nat, s.heap.size ≤ x → (fun x : Nat => (x = w 0 ∨ x = w 1 ∨ x = w 2) ∨ s.heap.size ≤ x) x := fun _ h => Or.inr h
  have hj0 := hj
  have hz2 := hz.2.1
  refine lv_aload_n hx hb dX3_lowest_0 rfl (lv_at hl 0 rfl) ?_
  refine lv_iload_n hx hb dX3_lowest_1 rfl (lv_at hl 1 rfl) ?_
  refine lv_iload_n hx hb dX3_lowest_2 rfl (lv_at hl 2 rfl) ?_
  refine lv_iload_n hx hb dX3_lowest_3 rfl (lv_at hl 3 rfl) ?_
  obtain ⟨t1, f2, hq1t1, hq2t1⟩ := fw_ex (0 ≤ a ∧ a < 6) ((-1200 ≤ n ∧ n ≤ 1200) ∧ 0 ≤ k ∧ k ≤ 48)
  have hmw : MWR θ S0 w s.heap r q dt sv th dn rf kn := ⟨hz, hu, hm, hd, hsv⟩
  refine c_M (w := w) (As := [.int (iI a), .int (iI n), .int (iI k)]) (rest := []) (b := w 0) (C := RX3) fx hl (mw_failsWay θ l S0 _ w _ _ _ _ _ _ _ _ hmw a n k t1 f2 (by omega) (by omega) (by omega) hq1t1 hq2t1) (ob_recv hK hm.1 rfl) dX3_lowest_4 k1296 k1298 ks20 k6 k1299 hd_X3_failsWay rfl ⟨by decide, by decide⟩ (Nat.le_of_ble_eq_true rfl) ⟨by dsimp only; omega, by dsimp only; omega⟩ hS (fun x hx => hx ▸ Or.inl (Or.inl rfl)) (fun H3 locs hmH3 hszH3 hk0H3 hS => ?_)
  have hkH3 : ∀ x : Nat, x < (s.heap).size → ¬ x = w 0 → H3[x]? = (s.heap)[x]? := hk0H3
  have hzH3 := hz0.at hAB hS
  have hltH3 := hmH3.lt
  have hjH3 := hj0.at hAB hS
  refine q_ieq (tgt := 14) hx hb dX3_lowest_7 (by decide) (by omega) (fun c4 => ?_) (fun c4 => ?_)
  · exact (show False by omega).elim
  · refine q_con hx hb dX3_lowest_10 ?_
    refine lv_goto (tgt := 31) hx hb dX3_lowest_11 (by decide) ?_
    obtain rfl : t1 = 1 := by omega
    have hmw : MWR θ S0 w H3 r q dt sv 1 dn rf kn := ⟨hzH3, hu, hmH3, hd, hsv⟩
    exact e_i hx hb hr hlk hS dX3_lowest_31 (Nat.le_of_ble_eq_true rfl) (Nat.le_of_ble_eq_true rfl) ⟨ex_i (by omega), r, q, by first | exact hmw | (subst_vars; exact hmw) | (simp only [inI_self, inI_1, inI_31] at hmw; subst_vars; exact hmw), by first | exact nw_rf | exact nw_up (by omega) | exact nw_up2 (by omega), by first | exact nw_rf | exact nw_up (by omega) | exact nw_up2 (by omega)⟩

set_option maxHeartbeats 4000000 in
set_option maxRecDepth 100000 in
theorem mno2_lowest (θ : TH) (l : Launch) (S0 : State) (H : Heap) (w : Nat → Nat) (r q : Nat → Nat) (dt : Nat → Int) (sv : Nat → Nat → Int) (th dn rf kn : Int) (hw : MWR θ S0 w H r q dt sv th dn rf kn) (hj : SJ θ S0 H) (a n k : Int) (h_0 : -2147483648 ≤ a ∧ a < 2147483648) (h_1 : -2147483648 ≤ n ∧ n < 2147483648) (h_2 : -2147483648 ≤ k ∧ k < 2147483648) (h_3 : 0 ≤ a ∧ a < 6) (h_4 : ¬ (-1200 ≤ n ∧ n ≤ 1200)) : CT l yX3_lowest cX3_lowest 4 (some .int) 3 65 0 0 [.ref (w 0), .int (iI a), .int (iI n), .int (iI k)] S0 H (fun v9 H1 => v9 = some (.int (iI 0)) ∧ ∃ r1 q1 : Nat → Nat, MWR θ S0 w H1 r1 q1 dt sv 2 dn rf kn ∧ NW 6 H.size r r1 ∧ NW 3 H.size q q1) (fun _ _ => False) (WA w H.size) := by
  refine ct_of (by decide +kernel) (Nat.le_of_ble_eq_true rfl) ?_
  intro pg en s mi args below meth co ls fx hs hr hlk hxt hin hl
  subst hs
  obtain ⟨hx, hb, hml, hown, hts⟩ := id fx.1
  have hS : va_S (fun x : Nat => (x = w 0 ∨ x = w 1 ∨ x = w 2) ∨ s.heap.size ≤ x) s.heap s.heap [] := va_S.rf
  obtain ⟨hz, hu, hm, hd, hsv⟩ := id hw
  have hAB : ∀ x : Nat, (fun x : Nat => (x = w 0 ∨ x = w 1 ∨ x = w 2) ∨ s.heap.size ≤ x) x → θ.2.2.2 ≤ x := wa_b hu hz.2.1
  have hz0 := hz
  have hK := sz_K fx.2 hz
  have hlt0 := hm.lt
  have hu1 := hu.1
  have hAn : ∀ x : Nat, s.heap.size ≤ x → (fun x : Nat => (x = w 0 ∨ x = w 1 ∨ x = w 2) ∨ s.heap.size ≤ x) x := fun _ h => Or.inr h
  have hj0 := hj
  have hz2 := hz.2.1
  refine lv_aload_n hx hb dX3_lowest_0 rfl (lv_at hl 0 rfl) ?_
  refine lv_iload_n hx hb dX3_lowest_1 rfl (lv_at hl 1 rfl) ?_
  refine lv_iload_n hx hb dX3_lowest_2 rfl (lv_at hl 2 rfl) ?_
  refine lv_iload_n hx hb dX3_lowest_3 rfl (lv_at hl 3 rfl) ?_
  obtain ⟨t1, f2, hq1t1, hq2t1⟩ := fw_ex (0 ≤ a ∧ a < 6) ((-1200 ≤ n ∧ n ≤ 1200) ∧ 0 ≤ k ∧ k ≤ 48)
  have hmw : MWR θ S0 w s.heap r q dt sv th dn rf kn := ⟨hz, hu, hm, hd, hsv⟩
  refine c_M (w := w) (As := [.int (iI a), .int (iI n), .int (iI k)]) (rest := []) (b := w 0) (C := RX3) fx hl (mw_failsWay θ l S0 _ w _ _ _ _ _ _ _ _ hmw a n k t1 f2 (by omega) (by omega) (by omega) hq1t1 hq2t1) (ob_recv hK hm.1 rfl) dX3_lowest_4 k1296 k1298 ks20 k6 k1299 hd_X3_failsWay rfl ⟨by decide, by decide⟩ (Nat.le_of_ble_eq_true rfl) ⟨by dsimp only; omega, by dsimp only; omega⟩ hS (fun x hx => hx ▸ Or.inl (Or.inl rfl)) (fun H3 locs hmH3 hszH3 hk0H3 hS => ?_)
  have hkH3 : ∀ x : Nat, x < (s.heap).size → ¬ x = w 0 → H3[x]? = (s.heap)[x]? := hk0H3
  have hzH3 := hz0.at hAB hS
  have hltH3 := hmH3.lt
  have hjH3 := hj0.at hAB hS
  refine q_ieq (tgt := 14) hx hb dX3_lowest_7 (by decide) (by omega) (fun c4 => ?_) (fun c4 => ?_)
  · exact (show False by omega).elim
  · refine q_con hx hb dX3_lowest_10 ?_
    refine lv_goto (tgt := 31) hx hb dX3_lowest_11 (by decide) ?_
    obtain rfl : t1 = 2 := by omega
    have hmw : MWR θ S0 w H3 r q dt sv 2 dn rf kn := ⟨hzH3, hu, hmH3, hd, hsv⟩
    exact e_i hx hb hr hlk hS dX3_lowest_31 (Nat.le_of_ble_eq_true rfl) (Nat.le_of_ble_eq_true rfl) ⟨ex_i (by omega), r, q, by first | exact hmw | (subst_vars; exact hmw) | (simp only [inI_self, inI_1, inI_31] at hmw; subst_vars; exact hmw), by first | exact nw_rf | exact nw_up (by omega) | exact nw_up2 (by omega), by first | exact nw_rf | exact nw_up (by omega) | exact nw_up2 (by omega)⟩

set_option maxHeartbeats 4000000 in
set_option maxRecDepth 100000 in
theorem mno3_lowest (θ : TH) (l : Launch) (S0 : State) (H : Heap) (w : Nat → Nat) (r q : Nat → Nat) (dt : Nat → Int) (sv : Nat → Nat → Int) (th dn rf kn : Int) (hw : MWR θ S0 w H r q dt sv th dn rf kn) (hj : SJ θ S0 H) (a n k : Int) (h_0 : -2147483648 ≤ a ∧ a < 2147483648) (h_1 : -2147483648 ≤ n ∧ n < 2147483648) (h_2 : -2147483648 ≤ k ∧ k < 2147483648) (h_3 : 0 ≤ a ∧ a < 6) (h_4 : -1200 ≤ n ∧ n ≤ 1200) (h_5 : ¬ (0 ≤ k ∧ k ≤ 48)) : CT l yX3_lowest cX3_lowest 4 (some .int) 3 65 0 0 [.ref (w 0), .int (iI a), .int (iI n), .int (iI k)] S0 H (fun v9 H1 => v9 = some (.int (iI 0)) ∧ ∃ r1 q1 : Nat → Nat, MWR θ S0 w H1 r1 q1 dt sv 2 dn rf kn ∧ NW 6 H.size r r1 ∧ NW 3 H.size q q1) (fun _ _ => False) (WA w H.size) := by
  refine ct_of (by decide +kernel) (Nat.le_of_ble_eq_true rfl) ?_
  intro pg en s mi args below meth co ls fx hs hr hlk hxt hin hl
  subst hs
  obtain ⟨hx, hb, hml, hown, hts⟩ := id fx.1
  have hS : va_S (fun x : Nat => (x = w 0 ∨ x = w 1 ∨ x = w 2) ∨ s.heap.size ≤ x) s.heap s.heap [] := va_S.rf
  obtain ⟨hz, hu, hm, hd, hsv⟩ := id hw
  have hAB : ∀ x : Nat, (fun x : Nat => (x = w 0 ∨ x = w 1 ∨ x = w 2) ∨ s.heap.size ≤ x) x → θ.2.2.2 ≤ x := wa_b hu hz.2.1
  have hz0 := hz
  have hK := sz_K fx.2 hz
  have hlt0 := hm.lt
  have hu1 := hu.1
  have hAn : ∀ x : Nat, s.heap.size ≤ x → (fun x : Nat => (x = w 0 ∨ x = w 1 ∨ x = w 2) ∨ s.heap.size ≤ x) x := fun _ h => Or.inr h
  have hj0 := hj
  have hz2 := hz.2.1
  refine lv_aload_n hx hb dX3_lowest_0 rfl (lv_at hl 0 rfl) ?_
  refine lv_iload_n hx hb dX3_lowest_1 rfl (lv_at hl 1 rfl) ?_
  refine lv_iload_n hx hb dX3_lowest_2 rfl (lv_at hl 2 rfl) ?_
  refine lv_iload_n hx hb dX3_lowest_3 rfl (lv_at hl 3 rfl) ?_
  obtain ⟨t1, f2, hq1t1, hq2t1⟩ := fw_ex (0 ≤ a ∧ a < 6) ((-1200 ≤ n ∧ n ≤ 1200) ∧ 0 ≤ k ∧ k ≤ 48)
  have hmw : MWR θ S0 w s.heap r q dt sv th dn rf kn := ⟨hz, hu, hm, hd, hsv⟩
  refine c_M (w := w) (As := [.int (iI a), .int (iI n), .int (iI k)]) (rest := []) (b := w 0) (C := RX3) fx hl (mw_failsWay θ l S0 _ w _ _ _ _ _ _ _ _ hmw a n k t1 f2 (by omega) (by omega) (by omega) hq1t1 hq2t1) (ob_recv hK hm.1 rfl) dX3_lowest_4 k1296 k1298 ks20 k6 k1299 hd_X3_failsWay rfl ⟨by decide, by decide⟩ (Nat.le_of_ble_eq_true rfl) ⟨by dsimp only; omega, by dsimp only; omega⟩ hS (fun x hx => hx ▸ Or.inl (Or.inl rfl)) (fun H3 locs hmH3 hszH3 hk0H3 hS => ?_)
  have hkH3 : ∀ x : Nat, x < (s.heap).size → ¬ x = w 0 → H3[x]? = (s.heap)[x]? := hk0H3
  have hzH3 := hz0.at hAB hS
  have hltH3 := hmH3.lt
  have hjH3 := hj0.at hAB hS
  refine q_ieq (tgt := 14) hx hb dX3_lowest_7 (by decide) (by omega) (fun c4 => ?_) (fun c4 => ?_)
  · exact (show False by omega).elim
  · refine q_con hx hb dX3_lowest_10 ?_
    refine lv_goto (tgt := 31) hx hb dX3_lowest_11 (by decide) ?_
    obtain rfl : t1 = 2 := by omega
    have hmw : MWR θ S0 w H3 r q dt sv 2 dn rf kn := ⟨hzH3, hu, hmH3, hd, hsv⟩
    exact e_i hx hb hr hlk hS dX3_lowest_31 (Nat.le_of_ble_eq_true rfl) (Nat.le_of_ble_eq_true rfl) ⟨ex_i (by omega), r, q, by first | exact hmw | (subst_vars; exact hmw) | (simp only [inI_self, inI_1, inI_31] at hmw; subst_vars; exact hmw), by first | exact nw_rf | exact nw_up (by omega) | exact nw_up2 (by omega), by first | exact nw_rf | exact nw_up (by omega) | exact nw_up2 (by omega)⟩
