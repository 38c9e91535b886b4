theorem nw_up3 {n sz k i a : Nat} {f : Nat → Nat} (h : i < n) (h2 : a = f i ∨ sz ≤ a) : NW n sz f (up f k a) := h2.elim (fun e => e ▸ nw_up2 h) nw_up
section MPA
variable {p : Program} {l : Launch} {e : Env} {R : Room} {s : State} {m : MethodId} {args : Array Value} {below : List Frame} {meth : Method} {c : Code} {H : Heap} {locs : List Loc} {cells slots : Nat} {Q : State → Prop} {cc : ByteArray} {pc : Nat} {ls : Array Slot} {rest : List Value} {θ : TH} {A A0 : Nat → Prop} {H0 : Heap} {S0 : State}
/-- a reader of the reference that makes rows, of whose answer nothing is said -/
theorem c_MA {A1 : Nat → Prop} {own C : String} {idx n nL F L b na mc ms : Nat} {y : MethodName} {cy : ByteArray} {rt : Option FieldType} {As : List Value} {lv : List (Nat × Value)} (fx : FX p m c cc nL s args own S0) (hl : lv_has ls nL lv) (hM : CT l y cy n rt F L mc ms (.ref b :: As) S0 H (fun v H1 => (∃ z : Int, v = some (.int (iI z))) ∧ True) (fun _ _ => False) A1) (hrec : ∃ cellB : Cell, H[b]? = some cellB ∧ cellB.vm.isStatics = false ∧ s.vm.findClass C = some cellB.cls) (d : decode cc pc = .ok (.invokevirtual idx, 3)) (w1 : Cond.methodLink own idx y ∈ wG) (w2 : Cond.instanceMethod y ∈ wG) (w5 : Cond.selects C y y ∈ wG) (w3 : Cond.initialized y.cls ∈ wG) (w4 : Cond.code y cy n rt ∈ wG) (hd : y.cls ≠ "java/lang/invoke/MethodHandle" ∧ y.cls ≠ "java/lang/invoke/VarHandle" ∧ (parseMethodDescriptor y.desc).map (fun d => d.parameters.length) = some na) (hn : As.length = na)
    (hR : F + 1 ≤ R.frames ∧ 8 + (n + 11) + L ≤ R.locals) (hW : (rest.map fun v => v.category).sum ≤ 8) (hcs : cells + mc ≤ R.cells ∧ slots + ms ≤ R.slots) (hS : va_S A0 H0 H locs) (hf : ∀ q, A1 q → A0 q)
    (kk : ∀ (z : Int) (H1 : Heap) (locs1 : List Loc), H.size ≤ H1.size → (∀ q : Nat, q < H.size → ¬ A1 q → H1[q]? = H[q]?) → va_S A0 H0 H1 locs1 → W p l e R s m args below meth c H1 locs1 (cells + mc) (slots + ms) Q (F0 m (pc + 3) ls (.int (iI z) :: rest))) : W p l e R s m args below meth c H locs cells slots Q (F0 m pc ls (As.reverse ++ .ref b :: rest)) :=
  c_V (As := As) (rest := rest) fx hl hM hrec d w1 w2 w5 w3 w4 hd hn hR hW hcs hS hf (fun _ _ _ _ _ h => h.elim) (fun v H1 locs1 hv hz hk hS1 => by obtain ⟨⟨z, rfl⟩, -⟩ := hv; exact kk z H1 locs1 hz hk hS1)
end MPA
set_option maxHeartbeats 4000000 in
set_option maxRecDepth 100000 in
theorem mok_actOften (θ : TH) (l : Launch) (S0 : State) (H : Heap) (w : Nat → Nat) (r q : Nat → Nat) (dt : Nat → Int) (sv : Nat → Nat → Int) (th dn rf kn : Int) (hw : MWR θ S0 w H r q dt sv th dn rf kn) (a s1 t n : Int) (h_0 : -2147483648 ≤ a ∧ a < 2147483648) (h_1 : -2147483648 ≤ s1 ∧ s1 < 2147483648) (h_2 : -2147483648 ≤ t ∧ t < 2147483648) (h_3 : Hid (n = 12 * sv s1.toNat 0 + sv s1.toNat 1)) (h_4 : 0 ≤ a ∧ a < 6) (h_5 : 0 ≤ s1 ∧ s1 < 3) (h_6 : 0 ≤ t ∧ t ≤ 24) (h_7 : -4371587 ≤ (itA (dt a.toNat) n (sv s1.toNat 2) t.toNat) ∧ (itA (dt a.toNat) n (sv s1.toNat 2) t.toNat) ≤ 2932896) : CT l yX3_actOften cX3_actOften 6 (some .int) 8 174 48 96 [.ref (w 0), .int (iI a), .int (iI s1), .int (iI t)] S0 H (fun v9 H1 => v9 = some (.int (iI (itA (dt a.toNat) n (sv s1.toNat 2) t.toNat))) ∧ ∃ r1 q1 : Nat → Nat, MWR θ S0 w H1 r1 q1 (up dt a.toNat (itA (dt a.toNat) n (sv s1.toNat 2) t.toNat)) sv 0 (dn + 1) rf kn ∧ NW 6 H.size r r1 ∧ NW 3 H.size q q1) (fun _ _ => False) (WA w H.size) := by
  refine ct_of (by decide +kernel) (Nat.le_of_ble_eq_true rfl) ?_
  intro pg en s mi args below meth co ls fx hs hr hlk hxt hin hl
  subst hs
  obtain ⟨hx, hb, hml, hown, hts⟩ := id fx.1
  have hS : va_S (WA w s.heap.size) s.heap s.heap [] := va_S.rf
  obtain ⟨hz, hu, hm, hd, hsv⟩ := id hw
  have hAB : ∀ x : Nat, (WA w s.heap.size) x → θ.2.2.2 ≤ x := wa_b hu hz.2.1
  have hz0 := hz
  have hK := sz_K fx.2 hz
  have hlt0 := hm.lt
  have hu1 := hu.1
  have hAn : ∀ x : Nat, s.heap.size ≤ x → (WA w s.heap.size) x := fun _ h => Or.inr h
  have tb9 : (0 ≤ s1 ∧ s1 < 3) → -480000 ≤ n ∧ n ≤ 480000 ∧ -100000 ≤ sv s1.toNat 2 ∧ sv s1.toNat 2 ≤ 100000 := fun h => by have h9 := h_3.out; have h11 := hsv s1.toNat (by omega); omega
  refine lv_aload_n hx hb dX3_actOften_0 rfl (lv_at hl 0 rfl) ?_
  refine lv_iload_n hx hb dX3_actOften_1 rfl (lv_at hl 1 rfl) ?_
  obtain ⟨r1, hr1⟩ := bex (a < 0 ∨ 5 < a)
  refine c_P (As := [.int (iI a)]) (rest := [.ref (w 0)]) fx hl (pm_X3_isNo l a r1 hr1 (by omega)) dX3_actOften_2 k1113 k1114 k6 k1115 hd_X3_isNo rfl ⟨by decide, by decide⟩ (Nat.le_of_ble_eq_true rfl) ⟨by dsimp only; omega, by dsimp only; omega⟩ ?_
  have br1 : r1 = 0 ∨ r1 = 1 := hr1.elim (fun h => Or.inr h.1) (fun h => Or.inl h.1)
  refine q_ine (tgt := 15) hx hb dX3_actOften_5 (by decide) (by omega) (fun c2 => ?_) (fun c2 => ?_)
  · exact (show False by omega).elim
  · refine lv_iload_n hx hb dX3_actOften_8 rfl (lv_at hl 2 rfl) ?_
    obtain ⟨r3, hr3⟩ := bex (s1 < 0 ∨ 2 < s1)
    refine c_P (As := [.int (iI s1)]) (rest := [.ref (w 0)]) fx hl (pm_X3_isNoSpan l s1 r3 hr3 (by omega)) dX3_actOften_9 k1207 k1208 k6 k1209 hd_X3_isNoSpan rfl ⟨by decide, by decide⟩ (Nat.le_of_ble_eq_true rfl) ⟨by dsimp only; omega, by dsimp only; omega⟩ ?_
    have br3 : r3 = 0 ∨ r3 = 1 := hr3.elim (fun h => Or.inr h.1) (fun h => Or.inl h.1)
    refine q_ieq (tgt := 19) hx hb dX3_actOften_12 (by decide) (by omega) (fun c4 => ?_) (fun c4 => ?_)
    · refine q_con hx hb dX3_actOften_19 ?_
      refine lv_iload_n hx hb dX3_actOften_20 rfl (lv_at hl 3 rfl) ?_
      refine q_con hx hb dX3_actOften_21 ?_
      refine q_bip hx hb dX3_actOften_22 (by decide) ?_
      obtain ⟨r5, hr5⟩ := bex (t < 0 ∨ 24 < t)
      refine c_P (As := [.int (iI t), .int (iI 0), .int (iI 24)]) (rest := [.int (iI 0), .ref (w 0)]) fx hl (pm_X3_isOut l t 0 24 r5 hr5 (by omega) (by omega) (by omega)) dX3_actOften_24 k1116 k1117 k6 k1118 hd_X3_isOut rfl ⟨by decide, by decide⟩ (Nat.le_of_ble_eq_true rfl) ⟨by dsimp only; omega, by dsimp only; omega⟩ ?_
      have br5 : r5 = 0 ∨ r5 = 1 := hr5.elim (fun h => Or.inr h.1) (fun h => Or.inl h.1)
      refine q_con hx hb dX3_actOften_27 ?_
      obtain ⟨t6, f7, hq1t6, hq2t6⟩ := fails_ex 0 r5 0 (by omega) (by omega) (by omega)
      have hmw : MWR θ S0 w s.heap r q dt sv th dn rf kn := ⟨hz, hu, hm, hd, hsv⟩
      refine c_M (w := w) (As := [.int (iI 0), .int (iI r5), .int (iI 0)]) (rest := []) (b := w 0) (C := RX3) fx hl (mw_fails θ l S0 _ w _ _ _ _ _ _ _ _ hmw 0 r5 0 t6 f7 (by omega) hq1t6 hq2t6) (ob_recv hK hm.1 rfl) dX3_actOften_28 k1119 k1121 ks10 k6 k1122 hd_X3_fails rfl ⟨by decide, by decide⟩ (Nat.le_of_ble_eq_true rfl) ⟨by dsimp only; omega, by dsimp only; omega⟩ hS (fun x hx => hx ▸ Or.inl (Or.inl rfl)) (fun H8 locs hmH8 hszH8 hk0H8 hS => ?_)
      have hkH8 : ∀ x : Nat, x < (s.heap).size → ¬ x = w 0 → H8[x]? = (s.heap)[x]? := hk0H8
      have hzH8 := hz0.at hAB hS
      have hltH8 := hmH8.lt
      refine q_ieq (tgt := 36) hx hb dX3_actOften_31 (by decide) (by omega) (fun c9 => ?_) (fun c9 => ?_)
      · refine lv_aload_n hx hb dX3_actOften_36 rfl (lv_at hl 0 rfl) ?_
        refine r_get (θ := θ) (C := RX3) (T := TX3) (N := 6) (ci := 9) hx hb hts gwX3 hown hK hmH8.1 rfl 4 (by decide) k1094 (fun _ h => h) (v := .ref (w 1)) rfl dX3_actOften_37 ?_
        refine lv_iload_n hx hb dX3_actOften_40 rfl (lv_at hl 1 rfl) ?_
        refine r_aald (θ := θ) hx hb hK hmH8.2.1 (i := a) (by omega) (by decide) dX3_actOften_41 ?_
        have rw10 := (hmH8.2.2.2.1 (a.toNat) (by omega)).1
        have rw10n := (hmH8.2.2.2.1 (a.toNat) (by omega)).2
        have rw10t := hd (a.toNat) (by omega)
        have rw10l := rw10.lt
        have rw10i := inR rw10t
        have rw10m := inM rw10i
        have rw10d := dI_b (dt a.toNat)
        refine lv_astore (lv' := [(4, .ref (r a.toNat)), (0, .ref (w 0)), (1, .int (iI a)), (2, .int (iI s1)), (3, .int (iI t))]) hx hb dX3_actOften_42 hl (by decide) rfl (fun ls hl => ?_)
        refine q_con hx hb dX3_actOften_44 ?_
        refine lv_istore (lv' := [(5, .int (iI 0)), (4, .ref (r a.toNat)), (0, .ref (w 0)), (1, .int (iI a)), (2, .int (iI s1)), (3, .int (iI t))]) hx hb dX3_actOften_45 hl (by decide) rfl (fun ls hl => ?_)
        refine w_loopH (nL := 6) (σ := Int × Nat × Int) (fun x => (t - x.1).toNat) (fun x H1 locs1 c9 s9 => ((0 ≤ x.1 ∧ x.1 ≤ t) ∧ (x.2.2 = itA (dt a.toNat) n (sv s1.toNat 2) x.1.toNat) ∧ (-4371587 - 14800000 * x.1 ≤ x.2.2 ∧ x.2.2 ≤ 2932896 + 14800000 * x.1) ∧ (Hid (x.2.1 = r a.toNat ∨ s.heap.size ≤ x.2.1))) ∧ MW θ w H1 r q dt sv t6 dn rf kn ∧ va_S (WA w s.heap.size) s.heap H1 locs1 ∧ c9 ≤ (2 * Int.toNat x.1) ∧ s9 ≤ (4 * Int.toNat x.1) ∧ DR θ H1 x.2.1 x.2.2 ∧ (x.2.1 ≠ w 0 ∧ x.2.1 ≠ w 1 ∧ x.2.1 ≠ w 2) ∧ x.2.1 < H1.size) (fun x => [(5, .int (iI x.1)), (4, .ref x.2.1), (0, .ref (w 0)), (1, .int (iI a)), (2, .int (iI s1)), (3, .int (iI t))]) ?_ ((0 : Int), (r a.toNat), (dt a.toNat : Int)) ⟨⟨by (try dsimp only); first | omega | exact Hid.mk (Or.inl rfl) | rfl, by (try dsimp only); first | omega | exact Hid.mk (Or.inl rfl) | rfl, by (try dsimp only); first | omega | exact Hid.mk (Or.inl rfl) | rfl, by (try dsimp only); first | omega | exact Hid.mk (Or.inl rfl) | rfl⟩, hmH8, hS, by (try dsimp only); omega, by (try dsimp only); omega, rw10, rw10n, rw10.lt⟩ (lv_sub hl [0, 1, 2, 3, 4, 5] rfl)
        intro x H11 locs cells slots hJ47 ih47 ls hl
        obtain ⟨j, at1, dd⟩ := x
        obtain ⟨hI47, hmH11, hS, hcH11, hsH11, hrH11, hnH11, hlH11⟩ := hJ47
        (try dsimp only at hI47 hcH11 hsH11 ih47 hl ⊢)
        (try dsimp only at hrH11 hnH11 hlH11)
        have hltH11 := hmH11.lt
        have hzH11 := hz0.at hAB hS
        have hsge9 := hS.1
        refine lv_iload hx hb dX3_actOften_47 (lv_at hl 0 rfl) ?_
        refine lv_iload_n hx hb dX3_actOften_49 rfl (lv_at hl 5 rfl) ?_
        refine q_cge (tgt := 70) hx hb dX3_actOften_50 (by decide) (by omega) (by omega) (fun c12 => ?_) (fun c12 => ?_)
        · obtain rfl : j = t := by omega
          have tdd := hI47.2.1
          subst tdd
          refine lv_aload_n hx hb dX3_actOften_70 rfl (lv_at hl 2 rfl) ?_
          refine lv_iload_n hx hb dX3_actOften_71 rfl (lv_at hl 3 rfl) ?_
          refine lv_aload hx hb dX3_actOften_72 (lv_at hl 1 rfl) ?_
          refine q_con hx hb dX3_actOften_74 ?_
          have hmw : MWR θ S0 w H11 r q dt sv t6 dn rf kn := ⟨hzH11, hu, hmH11, hd, hsv⟩
          refine c_M (w := w) (As := [.int (iI a), .ref at1, .int (iI 3)]) (rest := []) (b := w 0) (C := RX3) fx hl (mw_become_ok θ l S0 _ w _ _ _ _ _ _ _ _ hmw a at1 3 (itA (dt a.toNat) n (sv s1.toNat 2) j.toNat) hrH11 hnH11 (by omega) (by omega) (by omega)) (ob_recv hK hmH11.1 rfl) dX3_actOften_75 k1126 k1128 ks11 k6 k1129 hd_X3_become rfl ⟨by decide, by decide⟩ (Nat.le_of_ble_eq_true rfl) ⟨by dsimp only; omega, by dsimp only; omega⟩ hS (fun x hx => hx.elim (fun e => Or.inl (Or.inl e)) (fun e => Or.inl (Or.inr (Or.inl e)))) (fun H13 locs hmH13 hszH13 hk0H13 hS => ?_)
          have hkH13 : ∀ x : Nat, x < (H11).size → ¬ (x = w 0 ∨ x = w 1) → H13[x]? = (H11)[x]? := hk0H13
          have hrH11_H13 := hrH11.kept (hkH13 _ hrH11.lt (by omega))
          have hzH13 := hz0.at hAB hS
          have hltH13 := hmH13.lt
          refine q_ieq (tgt := 89) hx hb dX3_actOften_78 (by decide) (by omega) (fun c14 => ?_) (fun c14 => ?_)
          · exact (show False by omega).elim
          · refine lv_aload_n hx hb dX3_actOften_81 rfl (lv_at hl 2 rfl) ?_
            refine lv_iload_n hx hb dX3_actOften_82 rfl (lv_at hl 3 rfl) ?_
            have hmw : MWR θ S0 w H13 (up r (Int.toNat a) at1) q (up dt (Int.toNat a) (itA (dt a.toNat) n (sv s1.toNat 2) j.toNat)) sv t6 (dn + 1) rf kn := ⟨hzH13, hu, hmH13, (fun j hj => by have h9 := hd j hj; show -4371587 ≤ _ ∧ _; simp only [up]; (split <;> omega)), hsv⟩
            refine c_HV (As := [.int (iI a)]) (rest := []) (b := w 0) (C := RX3) fx hl (mr_became θ l S0 _ w _ _ _ _ _ _ _ _ hmw a (by omega)) (ob_recv hK hmH13.1 rfl) dX3_actOften_83 k1141 k1143 ks12 k6 k1144 hd_X3_became rfl ⟨by decide, by decide⟩ (Nat.le_of_ble_eq_true rfl) ⟨by dsimp only; omega, by dsimp only; omega⟩ ?_
            refine q_nm (fun z15 ez15 => ?_)
            refine lv_goto (tgt := 90) hx hb dX3_actOften_86 (by decide) ?_
            obtain rfl : t6 = 0 := by omega
            have hmw : MWR θ S0 w H13 (up r (Int.toNat a) at1) q (up dt (Int.toNat a) (itA (dt a.toNat) n (sv s1.toNat 2) j.toNat)) sv 0 (dn + 1) rf kn := ⟨hzH13, hu, hmH13, (fun j hj => by have h9 := hd j hj; show -4371587 ≤ _ ∧ _; simp only [up]; (split <;> omega)), hsv⟩
            exact e_i hx hb hr hlk hS dX3_actOften_90 (by first | exact Nat.le_of_ble_eq_true rfl | ((try dsimp only); omega)) (by first | exact Nat.le_of_ble_eq_true rfl | ((try dsimp only); omega)) ⟨ex_i (by subst_vars; first | omega | (simp only [up_s, tri_0, tri_1, tri_2, inI_self, inI_1, inI_31]; done) | (simp only [up_s, tri_0, tri_1, tri_2, inI_self, inI_1, inI_31]; omega) | (simp only [up_s, tri_0, tri_1, tri_2]; subst_vars; first | rfl | omega)), (up r (Int.toNat a) at1), q, by first | exact hmw | (subst_vars; exact hmw) | (simp only [inI_self, inI_1, inI_31] at hmw; subst_vars; exact hmw), by first | exact nw_rf | exact nw_up (by omega) | exact nw_up2 (by omega) | exact nw_up3 (i := a.toNat) (by omega) hI47.2.2.2.out, by first | exact nw_rf | exact nw_up (by omega) | exact nw_up2 (by omega) | exact nw_up3 (i := a.toNat) (by omega) hI47.2.2.2.out⟩
        · refine lv_aload_n hx hb dX3_actOften_53 rfl (lv_at hl 2 rfl) ?_
          refine lv_aload hx hb dX3_actOften_54 (lv_at hl 1 rfl) ?_
          refine lv_iload_n hx hb dX3_actOften_56 rfl (lv_at hl 4 rfl) ?_
          refine q_con hx hb dX3_actOften_57 ?_
          refine q_con hx hb dX3_actOften_58 ?_
          have hmw : MWR θ S0 w H11 r q dt sv t6 dn rf kn := ⟨hzH11, hu, hmH11, hd, hsv⟩
          refine c_MR (θ := θ) (d := (shI dd n + sv s1.toNat 2)) (As := [.ref at1, .int (iI s1), .int (iI 0), .int (iI 1)]) (rest := []) (b := w 0) (C := RX3) fx hl (mw_acted θ l S0 _ w _ _ _ _ _ _ _ _ hmw at1 s1 0 1 dd n (sv s1.toNat 2) (shI dd n + sv s1.toNat 2) hrH11 (by omega) (by omega) (by omega) (by omega) (Hid.mk (Or.inl ⟨rfl, h_3.out, rfl⟩)) (Hid.mk ⟨fun h => absurd h (by decide), fun _ => rfl⟩)) (ob_recv hK hmH11.1 rfl) dX3_actOften_59 k1210 k1212 ks13 k6 k1213 hd_X3_acted rfl ⟨by decide, by decide⟩ (Nat.le_of_ble_eq_true rfl) ⟨by dsimp only; omega, by dsimp only; omega⟩ hS (fun x hx => hAn x (Nat.le_trans hS.1 hx)) (fun q16 H17 locs hqH17 haH17 hszH17 hkH17 hS => ?_)
          have hrH11_H17 := hrH11.kept (hkH17 _ hrH11.lt)
          have hzH17 := hz0.at hAB hS
          have hmH17 := hmH11.kept hkH17
          have hltH17 := haH17.lt
          have hluH17 := hmH17.lt
          have tac1 := shI_bd dd n
          refine lv_astore (lv' := [(4, .ref q16), (5, .int (iI j)), (0, .ref (w 0)), (1, .int (iI a)), (2, .int (iI s1)), (3, .int (iI t))]) hx hb dX3_actOften_62 hl (by decide) rfl (fun ls hl => ?_)
          refine lv_iinc (v := iI (j + 1)) (lv' := [(5, .int (iI (j + 1))), (4, .ref q16), (0, .ref (w 0)), (1, .int (iI a)), (2, .int (iI s1)), (3, .int (iI t))]) hx hb dX3_actOften_64 hl (k := 1) rfl (iI_add _ _) (by decide) rfl (fun ls hl => ?_)
          refine lv_goto (tgt := 47) hx hb dX3_actOften_67 (by decide) ?_
          exact ih47 (j + 1, q16, (shI dd n + sv s1.toNat 2)) _ _ _ _ _ ⟨⟨by (try dsimp only); first | omega | exact Hid.mk (Or.inr (by omega)) | (rw [itA_s _ _ _ _ (by omega), ← hI47.2.1]), by (try dsimp only); first | omega | exact Hid.mk (Or.inr (by omega)) | (rw [itA_s _ _ _ _ (by omega), ← hI47.2.1]), by (try dsimp only); first | omega | exact Hid.mk (Or.inr (by omega)) | (rw [itA_s _ _ _ _ (by omega), ← hI47.2.1]), by (try dsimp only); first | omega | exact Hid.mk (Or.inr (by omega)) | (rw [itA_s _ _ _ _ (by omega), ← hI47.2.1])⟩, hmH17, hS, by (try dsimp only); omega, by (try dsimp only); omega, haH17, ⟨by (try dsimp only); omega, by (try dsimp only); omega, by (try dsimp only); omega⟩, haH17.lt⟩ (by (try dsimp only); omega) (lv_sub hl [0, 1, 2, 3, 4, 5] rfl)
      · exact (show False by omega).elim
    · exact (show False by omega).elim

set_option maxHeartbeats 4000000 in
set_option maxRecDepth 100000 in
theorem mno1_actOften (θ : TH) (l : Launch) (S0 : State) (H : Heap) (w : Nat → Nat) (r q : Nat → Nat) (dt : Nat → Int) (sv : Nat → Nat → Int) (th dn rf kn : Int) (hw : MWR θ S0 w H r q dt sv th dn rf kn) (a s1 t n : Int) (h_0 : -2147483648 ≤ a ∧ a < 2147483648) (h_1 : -2147483648 ≤ s1 ∧ s1 < 2147483648) (h_2 : -2147483648 ≤ t ∧ t < 2147483648) (h_3 : Hid (n = 12 * sv s1.toNat 0 + sv s1.toNat 1)) (h_4 : ¬ (0 ≤ a ∧ a < 6)) : CT l yX3_actOften cX3_actOften 6 (some .int) 2 42 0 0 [.ref (w 0), .int (iI a), .int (iI s1), .int (iI t)] S0 H (fun v9 H1 => v9 = some (.int (iI 0)) ∧ ∃ r1 q1 : Nat → Nat, MWR θ S0 w H1 r1 q1 dt sv 1 dn rf kn ∧ NW 6 H.size r r1 ∧ NW 3 H.size q q1) (fun _ _ => False) (WA w H.size) := by
  refine ct_of (by decide +kernel) (Nat.le_of_ble_eq_true rfl) ?_
  intro pg en s mi args below meth co ls fx hs hr hlk hxt hin hl
  subst hs
  obtain ⟨hx, hb, hml, hown, hts⟩ := id fx.1
  have hS : va_S (WA w s.heap.size) s.heap s.heap [] := va_S.rf
  obtain ⟨hz, hu, hm, hd, hsv⟩ := id hw
  have hAB : ∀ x : Nat, (WA w s.heap.size) x → θ.2.2.2 ≤ x := wa_b hu hz.2.1
  have hz0 := hz
  have hK := sz_K fx.2 hz
  have hlt0 := hm.lt
  have hu1 := hu.1
  have hAn : ∀ x : Nat, s.heap.size ≤ x → (WA w s.heap.size) x := fun _ h => Or.inr h
  have tb9 : (0 ≤ s1 ∧ s1 < 3) → -480000 ≤ n ∧ n ≤ 480000 ∧ -100000 ≤ sv s1.toNat 2 ∧ sv s1.toNat 2 ≤ 100000 := fun h => by have h9 := h_3.out; have h11 := hsv s1.toNat (by omega); omega
  refine lv_aload_n hx hb dX3_actOften_0 rfl (lv_at hl 0 rfl) ?_
  refine lv_iload_n hx hb dX3_actOften_1 rfl (lv_at hl 1 rfl) ?_
  obtain ⟨r1, hr1⟩ := bex (a < 0 ∨ 5 < a)
  refine c_P (As := [.int (iI a)]) (rest := [.ref (w 0)]) fx hl (pm_X3_isNo l a r1 hr1 (by omega)) dX3_actOften_2 k1113 k1114 k6 k1115 hd_X3_isNo rfl ⟨by decide, by decide⟩ (Nat.le_of_ble_eq_true rfl) ⟨by dsimp only; omega, by dsimp only; omega⟩ ?_
  have br1 : r1 = 0 ∨ r1 = 1 := hr1.elim (fun h => Or.inr h.1) (fun h => Or.inl h.1)
  refine q_ine (tgt := 15) hx hb dX3_actOften_5 (by decide) (by omega) (fun c2 => ?_) (fun c2 => ?_)
  · refine q_con hx hb dX3_actOften_15 ?_
    refine lv_goto (tgt := 20) hx hb dX3_actOften_16 (by decide) ?_
    refine lv_iload_n hx hb dX3_actOften_20 rfl (lv_at hl 3 rfl) ?_
    refine q_con hx hb dX3_actOften_21 ?_
    refine q_bip hx hb dX3_actOften_22 (by decide) ?_
    obtain ⟨r3, hr3⟩ := bex (t < 0 ∨ 24 < t)
    refine c_P (As := [.int (iI t), .int (iI 0), .int (iI 24)]) (rest := [.int (iI 1), .ref (w 0)]) fx hl (pm_X3_isOut l t 0 24 r3 hr3 (by omega) (by omega) (by omega)) dX3_actOften_24 k1116 k1117 k6 k1118 hd_X3_isOut rfl ⟨by decide, by decide⟩ (Nat.le_of_ble_eq_true rfl) ⟨by dsimp only; omega, by dsimp only; omega⟩ ?_
    have br3 : r3 = 0 ∨ r3 = 1 := hr3.elim (fun h => Or.inr h.1) (fun h => Or.inl h.1)
    refine q_con hx hb dX3_actOften_27 ?_
    obtain ⟨t4, f5, hq1t4, hq2t4⟩ := fails_ex 1 r3 0 (by omega) (by omega) (by omega)
    have hmw : MWR θ S0 w s.heap r q dt sv th dn rf kn := ⟨hz, hu, hm, hd, hsv⟩
    refine c_M (w := w) (As := [.int (iI 1), .int (iI r3), .int (iI 0)]) (rest := []) (b := w 0) (C := RX3) fx hl (mw_fails θ l S0 _ w _ _ _ _ _ _ _ _ hmw 1 r3 0 t4 f5 (by omega) hq1t4 hq2t4) (ob_recv hK hm.1 rfl) dX3_actOften_28 k1119 k1121 ks10 k6 k1122 hd_X3_fails rfl ⟨by decide, by decide⟩ (Nat.le_of_ble_eq_true rfl) ⟨by dsimp only; omega, by dsimp only; omega⟩ hS (fun x hx => hx ▸ Or.inl (Or.inl rfl)) (fun H6 locs hmH6 hszH6 hk0H6 hS => ?_)
    have hkH6 : ∀ x : Nat, x < (s.heap).size → ¬ x = w 0 → H6[x]? = (s.heap)[x]? := hk0H6
    have hzH6 := hz0.at hAB hS
    have hltH6 := hmH6.lt
    refine q_ieq (tgt := 36) hx hb dX3_actOften_31 (by decide) (by omega) (fun c7 => ?_) (fun c7 => ?_)
    · exact (show False by omega).elim
    · refine q_con hx hb dX3_actOften_34 ?_
      obtain rfl : t4 = 1 := by omega
      have hmw : MWR θ S0 w H6 r q dt sv 1 dn rf kn := ⟨hzH6, hu, hmH6, hd, hsv⟩
      exact e_i hx hb hr hlk hS dX3_actOften_35 (Nat.le_of_ble_eq_true rfl) (Nat.le_of_ble_eq_true rfl) ⟨ex_i (by omega), r, q, by first | exact hmw | (subst_vars; exact hmw) | (simp only [inI_self, inI_1, inI_31] at hmw; subst_vars; exact hmw), by first | exact nw_rf | exact nw_up (by omega) | exact nw_up2 (by omega) | exact nw_up3 (i := a.toNat) (by omega) hI47.2.2.2.out, by first | exact nw_rf | exact nw_up (by omega) | exact nw_up2 (by omega) | exact nw_up3 (i := a.toNat) (by omega) hI47.2.2.2.out⟩
  · exact (show False by omega).elim

set_option maxHeartbeats 4000000 in
set_option maxRecDepth 100000 in
theorem mno2_actOften (θ : TH) (l : Launch) (S0 : State) (H : Heap) (w : Nat → Nat) (r q : Nat → Nat) (dt : Nat → Int) (sv : Nat → Nat → Int) (th dn rf kn : Int) (hw : MWR θ S0 w H r q dt sv th dn rf kn) (a s1 t n : Int) (h_0 : -2147483648 ≤ a ∧ a < 2147483648) (h_1 : -2147483648 ≤ s1 ∧ s1 < 2147483648) (h_2 : -2147483648 ≤ t ∧ t < 2147483648) (h_3 : Hid (n = 12 * sv s1.toNat 0 + sv s1.toNat 1)) (h_4 : 0 ≤ a ∧ a < 6) (h_5 : ¬ (0 ≤ s1 ∧ s1 < 3)) : CT l yX3_actOften cX3_actOften 6 (some .int) 2 42 0 0 [.ref (w 0), .int (iI a), .int (iI s1), .int (iI t)] S0 H (fun v9 H1 => v9 = some (.int (iI 0)) ∧ ∃ r1 q1 : Nat → Nat, MWR θ S0 w H1 r1 q1 dt sv 1 dn rf kn ∧ NW 6 H.size r r1 ∧ NW 3 H.size q q1) (fun _ _ => False) (WA w H.size) := by
  refine ct_of (by decide +kernel) (Nat.le_of_ble_eq_true rfl) ?_
  intro pg en s mi args below meth co ls fx hs hr hlk hxt hin hl
  subst hs
  obtain ⟨hx, hb, hml, hown, hts⟩ := id fx.1
  have hS : va_S (WA w s.heap.size) s.heap s.heap [] := va_S.rf
  obtain ⟨hz, hu, hm, hd, hsv⟩ := id hw
  have hAB : ∀ x : Nat, (WA w s.heap.size) x → θ.2.2.2 ≤ x := wa_b hu hz.2.1
  have hz0 := hz
  have hK := sz_K fx.2 hz
  have hlt0 := hm.lt
  have hu1 := hu.1
  have hAn : ∀ x : Nat, s.heap.size ≤ x → (WA w s.heap.size) x := fun _ h => Or.inr h
  have tb9 : (0 ≤ s1 ∧ s1 < 3) → -480000 ≤ n ∧ n ≤ 480000 ∧ -100000 ≤ sv s1.toNat 2 ∧ sv s1.toNat 2 ≤ 100000 := fun h => by have h9 := h_3.out; have h11 := hsv s1.toNat (by omega); omega
  refine lv_aload_n hx hb dX3_actOften_0 rfl (lv_at hl 0 rfl) ?_
  refine lv_iload_n hx hb dX3_actOften_1 rfl (lv_at hl 1 rfl) ?_
  obtain ⟨r1, hr1⟩ := bex (a < 0 ∨ 5 < a)
  refine c_P (As := [.int (iI a)]) (rest := [.ref (w 0)]) fx hl (pm_X3_isNo l a r1 hr1 (by omega)) dX3_actOften_2 k1113 k1114 k6 k1115 hd_X3_isNo rfl ⟨by decide, by decide⟩ (Nat.le_of_ble_eq_true rfl) ⟨by dsimp only; omega, by dsimp only; omega⟩ ?_
  have br1 : r1 = 0 ∨ r1 = 1 := hr1.elim (fun h => Or.inr h.1) (fun h => Or.inl h.1)
  refine q_ine (tgt := 15) hx hb dX3_actOften_5 (by decide) (by omega) (fun c2 => ?_) (fun c2 => ?_)
  · exact (show False by omega).elim
  · refine lv_iload_n hx hb dX3_actOften_8 rfl (lv_at hl 2 rfl) ?_
    obtain ⟨r3, hr3⟩ := bex (s1 < 0 ∨ 2 < s1)
    refine c_P (As := [.int (iI s1)]) (rest := [.ref (w 0)]) fx hl (pm_X3_isNoSpan l s1 r3 hr3 (by omega)) dX3_actOften_9 k1207 k1208 k6 k1209 hd_X3_isNoSpan rfl ⟨by decide, by decide⟩ (Nat.le_of_ble_eq_true rfl) ⟨by dsimp only; omega, by dsimp only; omega⟩ ?_
    have br3 : r3 = 0 ∨ r3 = 1 := hr3.elim (fun h => Or.inr h.1) (fun h => Or.inl h.1)
    refine q_ieq (tgt := 19) hx hb dX3_actOften_12 (by decide) (by omega) (fun c4 => ?_) (fun c4 => ?_)
    · exact (show False by omega).elim
    · refine q_con hx hb dX3_actOften_15 ?_
      refine lv_goto (tgt := 20) hx hb dX3_actOften_16 (by decide) ?_
      refine lv_iload_n hx hb dX3_actOften_20 rfl (lv_at hl 3 rfl) ?_
      refine q_con hx hb dX3_actOften_21 ?_
      refine q_bip hx hb dX3_actOften_22 (by decide) ?_
      obtain ⟨r5, hr5⟩ := bex (t < 0 ∨ 24 < t)
      refine c_P (As := [.int (iI t), .int (iI 0), .int (iI 24)]) (rest := [.int (iI 1), .ref (w 0)]) fx hl (pm_X3_isOut l t 0 24 r5 hr5 (by omega) (by omega) (by omega)) dX3_actOften_24 k1116 k1117 k6 k1118 hd_X3_isOut rfl ⟨by decide, by decide⟩ (Nat.le_of_ble_eq_true rfl) ⟨by dsimp only; omega, by dsimp only; omega⟩ ?_
      have br5 : r5 = 0 ∨ r5 = 1 := hr5.elim (fun h => Or.inr h.1) (fun h => Or.inl h.1)
      refine q_con hx hb dX3_actOften_27 ?_
      obtain ⟨t6, f7, hq1t6, hq2t6⟩ := fails_ex 1 r5 0 (by omega) (by omega) (by omega)
      have hmw : MWR θ S0 w s.heap r q dt sv th dn rf kn := ⟨hz, hu, hm, hd, hsv⟩
      refine c_M (w := w) (As := [.int (iI 1), .int (iI r5), .int (iI 0)]) (rest := []) (b := w 0) (C := RX3) fx hl (mw_fails θ l S0 _ w _ _ _ _ _ _ _ _ hmw 1 r5 0 t6 f7 (by omega) hq1t6 hq2t6) (ob_recv hK hm.1 rfl) dX3_actOften_28 k1119 k1121 ks10 k6 k1122 hd_X3_fails rfl ⟨by decide, by decide⟩ (Nat.le_of_ble_eq_true rfl) ⟨by dsimp only; omega, by dsimp only; omega⟩ hS (fun x hx => hx ▸ Or.inl (Or.inl rfl)) (fun H8 locs hmH8 hszH8 hk0H8 hS => ?_)
      have hkH8 : ∀ x : Nat, x < (s.heap).size → ¬ x = w 0 → H8[x]? = (s.heap)[x]? := hk0H8
      have hzH8 := hz0.at hAB hS
      have hltH8 := hmH8.lt
      refine q_ieq (tgt := 36) hx hb dX3_actOften_31 (by decide) (by omega) (fun c9 => ?_) (fun c9 => ?_)
      · exact (show False by omega).elim
      · refine q_con hx hb dX3_actOften_34 ?_
        obtain rfl : t6 = 1 := by omega
        have hmw : MWR θ S0 w H8 r q dt sv 1 dn rf kn := ⟨hzH8, hu, hmH8, hd, hsv⟩
        exact e_i hx hb hr hlk hS dX3_actOften_35 (Nat.le_of_ble_eq_true rfl) (Nat.le_of_ble_eq_true rfl) ⟨ex_i (by omega), r, q, by first | exact hmw | (subst_vars; exact hmw) | (simp only [inI_self, inI_1, inI_31] at hmw; subst_vars; exact hmw), by first | exact nw_rf | exact nw_up (by omega) | exact nw_up2 (by omega) | exact nw_up3 (i := a.toNat) (by omega) hI47.2.2.2.out, by first | exact nw_rf | exact nw_up (by omega) | exact nw_up2 (by omega) | exact nw_up3 (i := a.toNat) (by omega) hI47.2.2.2.out⟩

set_option maxHeartbeats 4000000 in
set_option maxRecDepth 100000 in
theorem mno3_actOften (θ : TH) (l : Launch) (S0 : State) (H : Heap) (w : Nat → Nat) (r q : Nat → Nat) (dt : Nat → Int) (sv : Nat → Nat → Int) (th dn rf kn : Int) (hw : MWR θ S0 w H r q dt sv th dn rf kn) (a s1 t n : Int) (h_0 : -2147483648 ≤ a ∧ a < 2147483648) (h_1 : -2147483648 ≤ s1 ∧ s1 < 2147483648) (h_2 : -2147483648 ≤ t ∧ t < 2147483648) (h_3 : Hid (n = 12 * sv s1.toNat 0 + sv s1.toNat 1)) (h_4 : 0 ≤ a ∧ a < 6) (h_5 : 0 ≤ s1 ∧ s1 < 3) (h_6 : ¬ (0 ≤ t ∧ t ≤ 24)) : CT l yX3_actOften cX3_actOften 6 (some .int) 2 42 0 0 [.ref (w 0), .int (iI a), .int (iI s1), .int (iI t)] S0 H (fun v9 H1 => v9 = some (.int (iI 0)) ∧ ∃ r1 q1 : Nat → Nat, MWR θ S0 w H1 r1 q1 dt sv 2 dn rf kn ∧ NW 6 H.size r r1 ∧ NW 3 H.size q q1) (fun _ _ => False) (WA w H.size) := by
  refine ct_of (by decide +kernel) (Nat.le_of_ble_eq_true rfl) ?_
  intro pg en s mi args below meth co ls fx hs hr hlk hxt hin hl
  subst hs
  obtain ⟨hx, hb, hml, hown, hts⟩ := id fx.1
  have hS : va_S (WA w s.heap.size) s.heap s.heap [] := va_S.rf
  obtain ⟨hz, hu, hm, hd, hsv⟩ := id hw
  have hAB : ∀ x : Nat, (WA w s.heap.size) x → θ.2.2.2 ≤ x := wa_b hu hz.2.1
  have hz0 := hz
  have hK := sz_K fx.2 hz
  have hlt0 := hm.lt
  have hu1 := hu.1
  have hAn : ∀ x : Nat, s.heap.size ≤ x → (WA w s.heap.size) x := fun _ h => Or.inr h
  have tb9 : (0 ≤ s1 ∧ s1 < 3) → -480000 ≤ n ∧ n ≤ 480000 ∧ -100000 ≤ sv s1.toNat 2 ∧ sv s1.toNat 2 ≤ 100000 := fun h => by have h9 := h_3.out; have h11 := hsv s1.toNat (by omega); omega
  refine lv_aload_n hx hb dX3_actOften_0 rfl (lv_at hl 0 rfl) ?_
  refine lv_iload_n hx hb dX3_actOften_1 rfl (lv_at hl 1 rfl) ?_
  obtain ⟨r1, hr1⟩ := bex (a < 0 ∨ 5 < a)
  refine c_P (As := [.int (iI a)]) (rest := [.ref (w 0)]) fx hl (pm_X3_isNo l a r1 hr1 (by omega)) dX3_actOften_2 k1113 k1114 k6 k1115 hd_X3_isNo rfl ⟨by decide, by decide⟩ (Nat.le_of_ble_eq_true rfl) ⟨by dsimp only; omega, by dsimp only; omega⟩ ?_
  have br1 : r1 = 0 ∨ r1 = 1 := hr1.elim (fun h => Or.inr h.1) (fun h => Or.inl h.1)
  refine q_ine (tgt := 15) hx hb dX3_actOften_5 (by decide) (by omega) (fun c2 => ?_) (fun c2 => ?_)
  · exact (show False by omega).elim
  · refine lv_iload_n hx hb dX3_actOften_8 rfl (lv_at hl 2 rfl) ?_
    obtain ⟨r3, hr3⟩ := bex (s1 < 0 ∨ 2 < s1)
    refine c_P (As := [.int (iI s1)]) (rest := [.ref (w 0)]) fx hl (pm_X3_isNoSpan l s1 r3 hr3 (by omega)) dX3_actOften_9 k1207 k1208 k6 k1209 hd_X3_isNoSpan rfl ⟨by decide, by decide⟩ (Nat.le_of_ble_eq_true rfl) ⟨by dsimp only; omega, by dsimp only; omega⟩ ?_
    have br3 : r3 = 0 ∨ r3 = 1 := hr3.elim (fun h => Or.inr h.1) (fun h => Or.inl h.1)
    refine q_ieq (tgt := 19) hx hb dX3_actOften_12 (by decide) (by omega) (fun c4 => ?_) (fun c4 => ?_)
    · refine q_con hx hb dX3_actOften_19 ?_
      refine lv_iload_n hx hb dX3_actOften_20 rfl (lv_at hl 3 rfl) ?_
      refine q_con hx hb dX3_actOften_21 ?_
      refine q_bip hx hb dX3_actOften_22 (by decide) ?_
      obtain ⟨r5, hr5⟩ := bex (t < 0 ∨ 24 < t)
      refine c_P (As := [.int (iI t), .int (iI 0), .int (iI 24)]) (rest := [.int (iI 0), .ref (w 0)]) fx hl (pm_X3_isOut l t 0 24 r5 hr5 (by omega) (by omega) (by omega)) dX3_actOften_24 k1116 k1117 k6 k1118 hd_X3_isOut rfl ⟨by decide, by decide⟩ (Nat.le_of_ble_eq_true rfl) ⟨by dsimp only; omega, by dsimp only; omega⟩ ?_
      have br5 : r5 = 0 ∨ r5 = 1 := hr5.elim (fun h => Or.inr h.1) (fun h => Or.inl h.1)
      refine q_con hx hb dX3_actOften_27 ?_
      obtain ⟨t6, f7, hq1t6, hq2t6⟩ := fails_ex 0 r5 0 (by omega) (by omega) (by omega)
      have hmw : MWR θ S0 w s.heap r q dt sv th dn rf kn := ⟨hz, hu, hm, hd, hsv⟩
      refine c_M (w := w) (As := [.int (iI 0), .int (iI r5), .int (iI 0)]) (rest := []) (b := w 0) (C := RX3) fx hl (mw_fails θ l S0 _ w _ _ _ _ _ _ _ _ hmw 0 r5 0 t6 f7 (by omega) hq1t6 hq2t6) (ob_recv hK hm.1 rfl) dX3_actOften_28 k1119 k1121 ks10 k6 k1122 hd_X3_fails rfl ⟨by decide, by decide⟩ (Nat.le_of_ble_eq_true rfl) ⟨by dsimp only; omega, by dsimp only; omega⟩ hS (fun x hx => hx ▸ Or.inl (Or.inl rfl)) (fun H8 locs hmH8 hszH8 hk0H8 hS => ?_)
      have hkH8 : ∀ x : Nat, x < (s.heap).size → ¬ x = w 0 → H8[x]? = (s.heap)[x]? := hk0H8
      have hzH8 := hz0.at hAB hS
      have hltH8 := hmH8.lt
      refine q_ieq (tgt := 36) hx hb dX3_actOften_31 (by decide) (by omega) (fun c9 => ?_) (fun c9 => ?_)
      · exact (show False by omega).elim
      · refine q_con hx hb dX3_actOften_34 ?_
        obtain rfl : t6 = 2 := by omega
        have hmw : MWR θ S0 w H8 r q dt sv 2 dn rf kn := ⟨hzH8, hu, hmH8, hd, hsv⟩
        exact e_i hx hb hr hlk hS dX3_actOften_35 (Nat.le_of_ble_eq_true rfl) (Nat.le_of_ble_eq_true rfl) ⟨ex_i (by omega), r, q, by first | exact hmw | (subst_vars; exact hmw) | (simp only [inI_self, inI_1, inI_31] at hmw; subst_vars; exact hmw), by first | exact nw_rf | exact nw_up (by omega) | exact nw_up2 (by omega) | exact nw_up3 (i := a.toNat) (by omega) hI47.2.2.2.out, by first | exact nw_rf | exact nw_up (by omega) | exact nw_up2 (by omega) | exact nw_up3 (i := a.toNat) (by omega) hI47.2.2.2.out⟩
    · exact (show False by omega).elim

set_option maxHeartbeats 4000000 in
set_option maxRecDepth 100000 in
theorem mno4_actOften (θ : TH) (l : Launch) (S0 : State) (H : Heap) (w : Nat → Nat) (r q : Nat → Nat) (dt : Nat → Int) (sv : Nat → Nat → Int) (th dn rf kn : Int) (hw : MWR θ S0 w H r q dt sv th dn rf kn) (a s1 t n : Int) (h_0 : -2147483648 ≤ a ∧ a < 2147483648) (h_1 : -2147483648 ≤ s1 ∧ s1 < 2147483648) (h_2 : -2147483648 ≤ t ∧ t < 2147483648) (h_3 : Hid (n = 12 * sv s1.toNat 0 + sv s1.toNat 1)) (h_4 : 0 ≤ a ∧ a < 6) (h_5 : 0 ≤ s1 ∧ s1 < 3) (h_6 : 0 ≤ t ∧ t ≤ 24) (h_7 : ¬ (-4371587 ≤ (itA (dt a.toNat) n (sv s1.toNat 2) t.toNat) ∧ (itA (dt a.toNat) n (sv s1.toNat 2) t.toNat) ≤ 2932896)) : CT l yX3_actOften cX3_actOften 6 (some .int) 8 174 48 96 [.ref (w 0), .int (iI a), .int (iI s1), .int (iI t)] S0 H (fun v9 H1 => v9 = some (.int (iI 0)) ∧ ∃ r1 q1 : Nat → Nat, MWR θ S0 w H1 r1 q1 dt sv 3 dn rf kn ∧ NW 6 H.size r r1 ∧ NW 3 H.size q q1) (fun _ _ => False) (WA w H.size) := by
  refine ct_of (by decide +kernel) (Nat.le_of_ble_eq_true rfl) ?_
  intro pg en s mi args below meth co ls fx hs hr hlk hxt hin hl
  subst hs
  obtain ⟨hx, hb, hml, hown, hts⟩ := id fx.1
  have hS : va_S (WA w s.heap.size) s.heap s.heap [] := va_S.rf
  obtain ⟨hz, hu, hm, hd, hsv⟩ := id hw
  have hAB : ∀ x : Nat, (WA w s.heap.size) x → θ.2.2.2 ≤ x := wa_b hu hz.2.1
  have hz0 := hz
  have hK := sz_K fx.2 hz
  have hlt0 := hm.lt
  have hu1 := hu.1
  have hAn : ∀ x : Nat, s.heap.size ≤ x → (WA w s.heap.size) x := fun _ h => Or.inr h
  have tb9 : (0 ≤ s1 ∧ s1 < 3) → -480000 ≤ n ∧ n ≤ 480000 ∧ -100000 ≤ sv s1.toNat 2 ∧ sv s1.toNat 2 ≤ 100000 := fun h => by have h9 := h_3.out; have h11 := hsv s1.toNat (by omega); omega
  refine lv_aload_n hx hb dX3_actOften_0 rfl (lv_at hl 0 rfl) ?_
  refine lv_iload_n hx hb dX3_actOften_1 rfl (lv_at hl 1 rfl) ?_
  obtain ⟨r1, hr1⟩ := bex (a < 0 ∨ 5 < a)
  refine c_P (As := [.int (iI a)]) (rest := [.ref (w 0)]) fx hl (pm_X3_isNo l a r1 hr1 (by omega)) dX3_actOften_2 k1113 k1114 k6 k1115 hd_X3_isNo rfl ⟨by decide, by decide⟩ (Nat.le_of_ble_eq_true rfl) ⟨by dsimp only; omega, by dsimp only; omega⟩ ?_
  have br1 : r1 = 0 ∨ r1 = 1 := hr1.elim (fun h => Or.inr h.1) (fun h => Or.inl h.1)
  refine q_ine (tgt := 15) hx hb dX3_actOften_5 (by decide) (by omega) (fun c2 => ?_) (fun c2 => ?_)
  · exact (show False by omega).elim
  · refine lv_iload_n hx hb dX3_actOften_8 rfl (lv_at hl 2 rfl) ?_
    obtain ⟨r3, hr3⟩ := bex (s1 < 0 ∨ 2 < s1)
    refine c_P (As := [.int (iI s1)]) (rest := [.ref (w 0)]) fx hl (pm_X3_isNoSpan l s1 r3 hr3 (by omega)) dX3_actOften_9 k1207 k1208 k6 k1209 hd_X3_isNoSpan rfl ⟨by decide, by decide⟩ (Nat.le_of_ble_eq_true rfl) ⟨by dsimp only; omega, by dsimp only; omega⟩ ?_
    have br3 : r3 = 0 ∨ r3 = 1 := hr3.elim (fun h => Or.inr h.1) (fun h => Or.inl h.1)
    refine q_ieq (tgt := 19) hx hb dX3_actOften_12 (by decide) (by omega) (fun c4 => ?_) (fun c4 => ?_)
    · refine q_con hx hb dX3_actOften_19 ?_
      refine lv_iload_n hx hb dX3_actOften_20 rfl (lv_at hl 3 rfl) ?_
      refine q_con hx hb dX3_actOften_21 ?_
      refine q_bip hx hb dX3_actOften_22 (by decide) ?_
      obtain ⟨r5, hr5⟩ := bex (t < 0 ∨ 24 < t)
      refine c_P (As := [.int (iI t), .int (iI 0), .int (iI 24)]) (rest := [.int (iI 0), .ref (w 0)]) fx hl (pm_X3_isOut l t 0 24 r5 hr5 (by omega) (by omega) (by omega)) dX3_actOften_24 k1116 k1117 k6 k1118 hd_X3_isOut rfl ⟨by decide, by decide⟩ (Nat.le_of_ble_eq_true rfl) ⟨by dsimp only; omega, by dsimp only; omega⟩ ?_
      have br5 : r5 = 0 ∨ r5 = 1 := hr5.elim (fun h => Or.inr h.1) (fun h => Or.inl h.1)
      refine q_con hx hb dX3_actOften_27 ?_
      obtain ⟨t6, f7, hq1t6, hq2t6⟩ := fails_ex 0 r5 0 (by omega) (by omega) (by omega)
      have hmw : MWR θ S0 w s.heap r q dt sv th dn rf kn := ⟨hz, hu, hm, hd, hsv⟩
      refine c_M (w := w) (As := [.int (iI 0), .int (iI r5), .int (iI 0)]) (rest := []) (b := w 0) (C := RX3) fx hl (mw_fails θ l S0 _ w _ _ _ _ _ _ _ _ hmw 0 r5 0 t6 f7 (by omega) hq1t6 hq2t6) (ob_recv hK hm.1 rfl) dX3_actOften_28 k1119 k1121 ks10 k6 k1122 hd_X3_fails rfl ⟨by decide, by decide⟩ (Nat.le_of_ble_eq_true rfl) ⟨by dsimp only; omega, by dsimp only; omega⟩ hS (fun x hx => hx ▸ Or.inl (Or.inl rfl)) (fun H8 locs hmH8 hszH8 hk0H8 hS => ?_)
      have hkH8 : ∀ x : Nat, x < (s.heap).size → ¬ x = w 0 → H8[x]? = (s.heap)[x]? := hk0H8
      have hzH8 := hz0.at hAB hS
      have hltH8 := hmH8.lt
      refine q_ieq (tgt := 36) hx hb dX3_actOften_31 (by decide) (by omega) (fun c9 => ?_) (fun c9 => ?_)
      · refine lv_aload_n hx hb dX3_actOften_36 rfl (lv_at hl 0 rfl) ?_
        refine r_get (θ := θ) (C := RX3) (T := TX3) (N := 6) (ci := 9) hx hb hts gwX3 hown hK hmH8.1 rfl 4 (by decide) k1094 (fun _ h => h) (v := .ref (w 1)) rfl dX3_actOften_37 ?_
        refine lv_iload_n hx hb dX3_actOften_40 rfl (lv_at hl 1 rfl) ?_
        refine r_aald (θ := θ) hx hb hK hmH8.2.1 (i := a) (by omega) (by decide) dX3_actOften_41 ?_
        have rw10 := (hmH8.2.2.2.1 (a.toNat) (by omega)).1
        have rw10n := (hmH8.2.2.2.1 (a.toNat) (by omega)).2
        have rw10t := hd (a.toNat) (by omega)
        have rw10l := rw10.lt
        have rw10i := inR rw10t
        have rw10m := inM rw10i
        have rw10d := dI_b (dt a.toNat)
        refine lv_astore (lv' := [(4, .ref (r a.toNat)), (0, .ref (w 0)), (1, .int (iI a)), (2, .int (iI s1)), (3, .int (iI t))]) hx hb dX3_actOften_42 hl (by decide) rfl (fun ls hl => ?_)
        refine q_con hx hb dX3_actOften_44 ?_
        refine lv_istore (lv' := [(5, .int (iI 0)), (4, .ref (r a.toNat)), (0, .ref (w 0)), (1, .int (iI a)), (2, .int (iI s1)), (3, .int (iI t))]) hx hb dX3_actOften_45 hl (by decide) rfl (fun ls hl => ?_)
        refine w_loopH (nL := 6) (σ := Int × Nat × Int) (fun x => (t - x.1).toNat) (fun x H1 locs1 c9 s9 => ((0 ≤ x.1 ∧ x.1 ≤ t) ∧ (x.2.2 = itA (dt a.toNat) n (sv s1.toNat 2) x.1.toNat) ∧ (-4371587 - 14800000 * x.1 ≤ x.2.2 ∧ x.2.2 ≤ 2932896 + 14800000 * x.1) ∧ (Hid (x.2.1 = r a.toNat ∨ s.heap.size ≤ x.2.1))) ∧ MW θ w H1 r q dt sv t6 dn rf kn ∧ va_S (WA w s.heap.size) s.heap H1 locs1 ∧ c9 ≤ (2 * Int.toNat x.1) ∧ s9 ≤ (4 * Int.toNat x.1) ∧ DR θ H1 x.2.1 x.2.2 ∧ (x.2.1 ≠ w 0 ∧ x.2.1 ≠ w 1 ∧ x.2.1 ≠ w 2) ∧ x.2.1 < H1.size) (fun x => [(5, .int (iI x.1)), (4, .ref x.2.1), (0, .ref (w 0)), (1, .int (iI a)), (2, .int (iI s1)), (3, .int (iI t))]) ?_ ((0 : Int), (r a.toNat), (dt a.toNat : Int)) ⟨⟨by (try dsimp only); first | omega | exact Hid.mk (Or.inl rfl) | rfl, by (try dsimp only); first | omega | exact Hid.mk (Or.inl rfl) | rfl, by (try dsimp only); first | omega | exact Hid.mk (Or.inl rfl) | rfl, by (try dsimp only); first | omega | exact Hid.mk (Or.inl rfl) | rfl⟩, hmH8, hS, by (try dsimp only); omega, by (try dsimp only); omega, rw10, rw10n, rw10.lt⟩ (lv_sub hl [0, 1, 2, 3, 4, 5] rfl)
        intro x H11 locs cells slots hJ47 ih47 ls hl
        obtain ⟨j, at1, dd⟩ := x
        obtain ⟨hI47, hmH11, hS, hcH11, hsH11, hrH11, hnH11, hlH11⟩ := hJ47
        (try dsimp only at hI47 hcH11 hsH11 ih47 hl ⊢)
        (try dsimp only at hrH11 hnH11 hlH11)
        have hltH11 := hmH11.lt
        have hzH11 := hz0.at hAB hS
        have hsge9 := hS.1
        refine lv_iload hx hb dX3_actOften_47 (lv_at hl 0 rfl) ?_
        refine lv_iload_n hx hb dX3_actOften_49 rfl (lv_at hl 5 rfl) ?_
        refine q_cge (tgt := 70) hx hb dX3_actOften_50 (by decide) (by omega) (by omega) (fun c12 => ?_) (fun c12 => ?_)
        · obtain rfl : j = t := by omega
          have tdd := hI47.2.1
          subst tdd
          refine lv_aload_n hx hb dX3_actOften_70 rfl (lv_at hl 2 rfl) ?_
          refine lv_iload_n hx hb dX3_actOften_71 rfl (lv_at hl 3 rfl) ?_
          refine lv_aload hx hb dX3_actOften_72 (lv_at hl 1 rfl) ?_
          refine q_con hx hb dX3_actOften_74 ?_
          have hmw : MWR θ S0 w H11 r q dt sv t6 dn rf kn := ⟨hzH11, hu, hmH11, hd, hsv⟩
          refine c_M (w := w) (As := [.int (iI a), .ref at1, .int (iI 3)]) (rest := []) (b := w 0) (C := RX3) fx hl (mw_become_no θ l S0 _ w _ _ _ _ _ _ _ _ hmw a at1 3 (itA (dt a.toNat) n (sv s1.toNat 2) j.toNat) hrH11 hnH11 (by omega) (by omega) (by omega)) (ob_recv hK hmH11.1 rfl) dX3_actOften_75 k1126 k1128 ks11 k6 k1129 hd_X3_become rfl ⟨by decide, by decide⟩ (Nat.le_of_ble_eq_true rfl) ⟨by dsimp only; omega, by dsimp only; omega⟩ hS (fun x hx => hx.elim (fun e => Or.inl (Or.inl e)) (fun e => Or.inl (Or.inr (Or.inl e)))) (fun H13 locs hmH13 hszH13 hk0H13 hS => ?_)
          have hkH13 : ∀ x : Nat, x < (H11).size → ¬ (x = w 0 ∨ x = w 1) → H13[x]? = (H11)[x]? := hk0H13
          have hrH11_H13 := hrH11.kept (hkH13 _ hrH11.lt (by omega))
          have hzH13 := hz0.at hAB hS
          have hltH13 := hmH13.lt
          refine q_ieq (tgt := 89) hx hb dX3_actOften_78 (by decide) (by omega) (fun c14 => ?_) (fun c14 => ?_)
          · refine q_con hx hb dX3_actOften_89 ?_
            have hmw : MWR θ S0 w H13 r q dt sv 3 dn rf kn := ⟨hzH13, hu, hmH13, hd, hsv⟩
            exact e_i hx hb hr hlk hS dX3_actOften_90 (by first | exact Nat.le_of_ble_eq_true rfl | ((try dsimp only); omega)) (by first | exact Nat.le_of_ble_eq_true rfl | ((try dsimp only); omega)) ⟨ex_i (by omega), r, q, by first | exact hmw | (subst_vars; exact hmw) | (simp only [inI_self, inI_1, inI_31] at hmw; subst_vars; exact hmw), by first | exact nw_rf | exact nw_up (by omega) | exact nw_up2 (by omega) | exact nw_up3 (i := a.toNat) (by omega) hI47.2.2.2.out, by first | exact nw_rf | exact nw_up (by omega) | exact nw_up2 (by omega) | exact nw_up3 (i := a.toNat) (by omega) hI47.2.2.2.out⟩
          · exact (show False by omega).elim
        · refine lv_aload_n hx hb dX3_actOften_53 rfl (lv_at hl 2 rfl) ?_
          refine lv_aload hx hb dX3_actOften_54 (lv_at hl 1 rfl) ?_
          refine lv_iload_n hx hb dX3_actOften_56 rfl (lv_at hl 4 rfl) ?_
          refine q_con hx hb dX3_actOften_57 ?_
          refine q_con hx hb dX3_actOften_58 ?_
          have hmw : MWR θ S0 w H11 r q dt sv t6 dn rf kn := ⟨hzH11, hu, hmH11, hd, hsv⟩
          refine c_MR (θ := θ) (d := (shI dd n + sv s1.toNat 2)) (As := [.ref at1, .int (iI s1), .int (iI 0), .int (iI 1)]) (rest := []) (b := w 0) (C := RX3) fx hl (mw_acted θ l S0 _ w _ _ _ _ _ _ _ _ hmw at1 s1 0 1 dd n (sv s1.toNat 2) (shI dd n + sv s1.toNat 2) hrH11 (by omega) (by omega) (by omega) (by omega) (Hid.mk (Or.inl ⟨rfl, h_3.out, rfl⟩)) (Hid.mk ⟨fun h => absurd h (by decide), fun _ => rfl⟩)) (ob_recv hK hmH11.1 rfl) dX3_actOften_59 k1210 k1212 ks13 k6 k1213 hd_X3_acted rfl ⟨by decide, by decide⟩ (Nat.le_of_ble_eq_true rfl) ⟨by dsimp only; omega, by dsimp only; omega⟩ hS (fun x hx => hAn x (Nat.le_trans hS.1 hx)) (fun q15 H16 locs hqH16 haH16 hszH16 hkH16 hS => ?_)
          have hrH11_H16 := hrH11.kept (hkH16 _ hrH11.lt)
          have hzH16 := hz0.at hAB hS
          have hmH16 := hmH11.kept hkH16
          have hltH16 := haH16.lt
          have hluH16 := hmH16.lt
          have tac1 := shI_bd dd n
          refine lv_astore (lv' := [(4, .ref q15), (5, .int (iI j)), (0, .ref (w 0)), (1, .int (iI a)), (2, .int (iI s1)), (3, .int (iI t))]) hx hb dX3_actOften_62 hl (by decide) rfl (fun ls hl => ?_)
          refine lv_iinc (v := iI (j + 1)) (lv' := [(5, .int (iI (j + 1))), (4, .ref q15), (0, .ref (w 0)), (1, .int (iI a)), (2, .int (iI s1)), (3, .int (iI t))]) hx hb dX3_actOften_64 hl (k := 1) rfl (iI_add _ _) (by decide) rfl (fun ls hl => ?_)
          refine lv_goto (tgt := 47) hx hb dX3_actOften_67 (by decide) ?_
          exact ih47 (j + 1, q15, (shI dd n + sv s1.toNat 2)) _ _ _ _ _ ⟨⟨by (try dsimp only); first | omega | exact Hid.mk (Or.inr (by omega)) | (rw [itA_s _ _ _ _ (by omega), ← hI47.2.1]), by (try dsimp only); first | omega | exact Hid.mk (Or.inr (by omega)) | (rw [itA_s _ _ _ _ (by omega), ← hI47.2.1]), by (try dsimp only); first | omega | exact Hid.mk (Or.inr (by omega)) | (rw [itA_s _ _ _ _ (by omega), ← hI47.2.1]), by (try dsimp only); first | omega | exact Hid.mk (Or.inr (by omega)) | (rw [itA_s _ _ _ _ (by omega), ← hI47.2.1])⟩, hmH16, hS, by (try dsimp only); omega, by (try dsimp only); omega, haH16, ⟨by (try dsimp only); omega, by (try dsimp only); omega, by (try dsimp only); omega⟩, haH16.lt⟩ (by (try dsimp only); omega) (lv_sub hl [0, 1, 2, 3, 4, 5] rfl)
      · exact (show False by omega).elim
    · exact (show False by omega).elim

set_option maxHeartbeats 4000000 in
set_option maxRecDepth 100000 in
theorem mok_recurs (θ : TH) (l : Launch) (S0 : State) (H : Heap) (w : Nat → Nat) (r q : Nat → Nat) (dt : Nat → Int) (sv : Nat → Nat → Int) (th dn rf kn : Int) (hw : MWR θ S0 w H r q dt sv th dn rf kn) (a wd k : Int) (h_0 : -2147483648 ≤ a ∧ a < 2147483648) (h_1 : -2147483648 ≤ wd ∧ wd < 2147483648) (h_2 : -2147483648 ≤ k ∧ k < 2147483648) (h_3 : 0 ≤ a ∧ a < 6) (h_4 : 1 ≤ wd ∧ wd ≤ 7) (h_5 : 0 ≤ k ∧ k ≤ 48) : CT l yX3_recurs cX3_recurs 6 (some .int) 6 127 48 96 [.ref (w 0), .int (iI a), .int (iI wd), .int (iI k)] S0 H (fun v9 H1 => (∃ z : Int, v9 = some (.int (iI z))) ∧ ∃ r1 q1 : Nat → Nat, MWR θ S0 w H1 r1 q1 dt sv 0 dn rf kn ∧ NW 6 H.size r r1 ∧ NW 3 H.size q q1) (fun _ _ => False) (WA w H.size) := by
  refine ct_of (by decide +kernel) (Nat.le_of_ble_eq_true rfl) ?_
  intro pg en s mi args below meth co ls fx hs hr hlk hxt hin hl
  subst hs
  obtain ⟨hx, hb, hml, hown, hts⟩ := id fx.1
  have hS : va_S (WA w s.heap.size) s.heap s.heap [] := va_S.rf
  obtain ⟨hz, hu, hm, hd, hsv⟩ := id hw
  have hAB : ∀ x : Nat, (WA w s.heap.size) x → θ.2.2.2 ≤ x := wa_b hu hz.2.1
  have hz0 := hz
  have hK := sz_K fx.2 hz
  have hlt0 := hm.lt
  have hu1 := hu.1
  have hAn : ∀ x : Nat, s.heap.size ≤ x → (WA w s.heap.size) x := fun _ h => Or.inr h
  refine lv_aload_n hx hb dX3_recurs_0 rfl (lv_at hl 0 rfl) ?_
  refine lv_iload_n hx hb dX3_recurs_1 rfl (lv_at hl 1 rfl) ?_
  obtain ⟨r1, hr1⟩ := bex (a < 0 ∨ 5 < a)
  refine c_P (As := [.int (iI a)]) (rest := [.ref (w 0)]) fx hl (pm_X3_isNo l a r1 hr1 (by omega)) dX3_recurs_2 k1113 k1114 k6 k1115 hd_X3_isNo rfl ⟨by decide, by decide⟩ (Nat.le_of_ble_eq_true rfl) ⟨by dsimp only; omega, by dsimp only; omega⟩ ?_
  have br1 : r1 = 0 ∨ r1 = 1 := hr1.elim (fun h => Or.inr h.1) (fun h => Or.inl h.1)
  refine lv_iload_n hx hb dX3_recurs_5 rfl (lv_at hl 2 rfl) ?_
  refine q_con hx hb dX3_recurs_6 ?_
  refine q_bip hx hb dX3_recurs_7 (by decide) ?_
  obtain ⟨r2, hr2⟩ := bex (wd < 1 ∨ 7 < wd)
  refine c_P (As := [.int (iI wd), .int (iI 1), .int (iI 7)]) (rest := [.int (iI r1), .ref (w 0)]) fx hl (pm_X3_isOut l wd 1 7 r2 hr2 (by omega) (by omega) (by omega)) dX3_recurs_9 k1116 k1117 k6 k1118 hd_X3_isOut rfl ⟨by decide, by decide⟩ (Nat.le_of_ble_eq_true rfl) ⟨by dsimp only; omega, by dsimp only; omega⟩ ?_
  have br2 : r2 = 0 ∨ r2 = 1 := hr2.elim (fun h => Or.inr h.1) (fun h => Or.inl h.1)
  refine q_ine (tgt := 25) hx hb dX3_recurs_12 (by decide) (by omega) (fun c3 => ?_) (fun c3 => ?_)
  · exact (show False by omega).elim
  · refine lv_iload_n hx hb dX3_recurs_15 rfl (lv_at hl 3 rfl) ?_
    refine q_con hx hb dX3_recurs_16 ?_
    refine q_bip hx hb dX3_recurs_17 (by decide) ?_
    obtain ⟨r4, hr4⟩ := bex (k < 0 ∨ 48 < k)
    refine c_P (As := [.int (iI k), .int (iI 0), .int (iI 48)]) (rest := [.int (iI r1), .ref (w 0)]) fx hl (pm_X3_isOut l k 0 48 r4 hr4 (by omega) (by omega) (by omega)) dX3_recurs_19 k1116 k1117 k6 k1118 hd_X3_isOut rfl ⟨by decide, by decide⟩ (Nat.le_of_ble_eq_true rfl) ⟨by dsimp only; omega, by dsimp only; omega⟩ ?_
    have br4 : r4 = 0 ∨ r4 = 1 := hr4.elim (fun h => Or.inr h.1) (fun h => Or.inl h.1)
    refine q_ieq (tgt := 29) hx hb dX3_recurs_22 (by decide) (by omega) (fun c5 => ?_) (fun c5 => ?_)
    · refine q_con hx hb dX3_recurs_29 ?_
      refine q_con hx hb dX3_recurs_30 ?_
      obtain ⟨t6, f7, hq1t6, hq2t6⟩ := fails_ex r1 0 0 (by omega) (by omega) (by omega)
      have hmw : MWR θ S0 w s.heap r q dt sv th dn rf kn := ⟨hz, hu, hm, hd, hsv⟩
      refine c_M (w := w) (As := [.int (iI r1), .int (iI 0), .int (iI 0)]) (rest := []) (b := w 0) (C := RX3) fx hl (mw_fails θ l S0 _ w _ _ _ _ _ _ _ _ hmw r1 0 0 t6 f7 (by omega) hq1t6 hq2t6) (ob_recv hK hm.1 rfl) dX3_recurs_31 k1119 k1121 ks10 k6 k1122 hd_X3_fails rfl ⟨by decide, by decide⟩ (Nat.le_of_ble_eq_true rfl) ⟨by dsimp only; omega, by dsimp only; omega⟩ hS (fun x hx => hx ▸ Or.inl (Or.inl rfl)) (fun H8 locs hmH8 hszH8 hk0H8 hS => ?_)
      have hkH8 : ∀ x : Nat, x < (s.heap).size → ¬ x = w 0 → H8[x]? = (s.heap)[x]? := hk0H8
      have hzH8 := hz0.at hAB hS
      have hltH8 := hmH8.lt
      refine q_ieq (tgt := 39) hx hb dX3_recurs_34 (by decide) (by omega) (fun c9 => ?_) (fun c9 => ?_)
      · refine q_con hx hb dX3_recurs_39 ?_
        refine lv_istore (lv' := [(4, .int (iI 0)), (0, .ref (w 0)), (1, .int (iI a)), (2, .int (iI wd)), (3, .int (iI k))]) hx hb dX3_recurs_40 hl (by decide) rfl (fun ls hl => ?_)
        refine q_con hx hb dX3_recurs_42 ?_
        refine lv_istore (lv' := [(5, .int (iI 1)), (4, .int (iI 0)), (0, .ref (w 0)), (1, .int (iI a)), (2, .int (iI wd)), (3, .int (iI k))]) hx hb dX3_recurs_43 hl (by decide) rfl (fun ls hl => ?_)
        refine w_loopH (nL := 6) (σ := Int × Int) (fun x => (k + 1 - x.2).toNat) (fun x H1 locs1 c9 s9 => ((1 ≤ x.2 ∧ x.2 ≤ k + 1) ∧ (0 ≤ x.1 ∧ x.1 < x.2)) ∧ MW θ w H1 r q dt sv t6 dn rf kn ∧ va_S (WA w s.heap.size) s.heap H1 locs1 ∧ c9 ≤ (Int.toNat x.2 - 1) ∧ s9 ≤ (2 * (Int.toNat x.2 - 1))) (fun x => [(4, .int (iI x.1)), (5, .int (iI x.2)), (0, .ref (w 0)), (1, .int (iI a)), (2, .int (iI wd)), (3, .int (iI k))]) ?_ ((0 : Int), (1 : Int)) ⟨⟨by (try dsimp only); omega, by (try dsimp only); omega⟩, hmH8, hS, by (try dsimp only); omega, by (try dsimp only); omega⟩ (lv_sub hl [1, 0, 2, 3, 4, 5] rfl)
        intro x H10 locs cells slots hJ45 ih45 ls hl
        obtain ⟨f, j⟩ := x
        obtain ⟨hI45, hmH10, hS, hcH10, hsH10⟩ := hJ45
        (try dsimp only at hI45 hcH10 hsH10 ih45 hl ⊢)
        have hltH10 := hmH10.lt
        have hzH10 := hz0.at hAB hS
        refine lv_iload hx hb dX3_recurs_45 (lv_at hl 1 rfl) ?_
        refine lv_iload_n hx hb dX3_recurs_47 rfl (lv_at hl 5 rfl) ?_
        refine q_cgt (tgt := 94) hx hb dX3_recurs_48 (by decide) (by omega) (by omega) (fun c11 => ?_) (fun c11 => ?_)
        · refine lv_iload hx hb dX3_recurs_94 (lv_at hl 0 rfl) ?_
          obtain rfl : t6 = 0 := by omega
          have hmw : MWR θ S0 w H10 r q dt sv 0 dn rf kn := ⟨hzH10, hu, hmH10, hd, hsv⟩
          exact e_i hx hb hr hlk hS dX3_recurs_96 (by first | exact Nat.le_of_ble_eq_true rfl | ((try dsimp only); omega)) (by first | exact Nat.le_of_ble_eq_true rfl | ((try dsimp only); omega)) ⟨⟨_, rfl⟩, r, q, by first | exact hmw | (subst_vars; exact hmw) | (simp only [inI_self, inI_1, inI_31] at hmw; subst_vars; exact hmw), by first | exact nw_rf | exact nw_up (by omega) | exact nw_up2 (by omega), by first | exact nw_rf | exact nw_up (by omega) | exact nw_up2 (by omega)⟩
        · refine lv_iload hx hb dX3_recurs_51 (lv_at hl 0 rfl) ?_
          refine lv_aload_n hx hb dX3_recurs_53 rfl (lv_at hl 2 rfl) ?_
          refine r_get (θ := θ) (C := RX3) (T := TX3) (N := 6) (ci := 9) hx hb hts gwX3 hown hK hmH10.1 rfl 4 (by decide) k1094 (fun _ h => h) (v := .ref (w 1)) rfl dX3_recurs_54 ?_
          refine lv_iload_n hx hb dX3_recurs_57 rfl (lv_at hl 3 rfl) ?_
          refine r_aald (θ := θ) hx hb hK hmH10.2.1 (i := a) (by omega) (by decide) dX3_recurs_58 ?_
          have rw12 := (hmH10.2.2.2.1 (a.toNat) (by omega)).1
          have rw12n := (hmH10.2.2.2.1 (a.toNat) (by omega)).2
          have rw12t := hd (a.toNat) (by omega)
          have rw12l := rw12.lt
          have rw12i := inR rw12t
          have rw12m := inM rw12i
          have rw12d := dI_b (dt a.toNat)
          refine q_bip hx hb dX3_recurs_59 (by decide) ?_
          refine lv_iload hx hb dX3_recurs_61 (lv_at hl 1 rfl) ?_
          refine q_mul hx hb dX3_recurs_63 ?_
          refine c_NR (θ := θ) (As := [.ref (r a.toNat), .int (iI (12 * j))]) (rest := [.int (iI f)]) fx hl (pm_X3_shifted θ l S0 _ hzH10 (r a.toNat) (12 * j) (dt a.toNat) rw12 (by omega) (by omega)) dX3_recurs_64 k1183 k1184 k6 k1185 hd_X3_shifted rfl ⟨by decide, by decide⟩ (Nat.le_of_ble_eq_true rfl) ⟨by dsimp only; omega, by dsimp only; omega⟩ hS (fun x hx => hAn x (Nat.le_trans hS.1 hx)) (fun q14 H13 locs hqH13 haH13 hszH13 hkH13 hS => ?_)
          have rw12_H13 := rw12.kept (hkH13 _ rw12.lt)
          have hzH13 := hz0.at hAB hS
          have hmH13 := hmH10.kept hkH13
          have hltH13 := haH13.lt
          have t0q14 := shI_s (dt a.toNat) (12 * j)
          have t1q14 := shI_bd (dt a.toNat) (12 * j)
          refine c_H (As := [.ref q14]) (rest := [.int (iI f)]) fx hl (pm_X3_numberOf θ l S0 _ hzH13 q14 (shI (dt a.toNat) (12 * j)) haH13 (by omega)) dX3_recurs_67 k1133 k1134 k6 k1135 hd_X3_numberOf rfl ⟨by decide, by decide⟩ (Nat.le_of_ble_eq_true rfl) ⟨by dsimp only; omega, by dsimp only; omega⟩ ?_
          refine c_P (As := [.int (iI (shI (dt a.toNat) (12 * j)))]) (rest := [.int (iI f)]) fx hl (pm_X3_weekdayOf l (shI (dt a.toNat) (12 * j)) (by omega)) dX3_recurs_70 k1149 k1150 k6 k1151 hd_X3_weekdayOf rfl ⟨by decide, by decide⟩ (Nat.le_of_ble_eq_true rfl) ⟨by dsimp only; omega, by dsimp only; omega⟩ ?_
          have t0z16 := wI_b (shI (dt a.toNat) (12 * j))
          refine lv_iload_n hx hb dX3_recurs_73 rfl (lv_at hl 4 rfl) ?_
          refine q_cne (tgt := 81) hx hb dX3_recurs_74 (by decide) (by omega) (by omega) (fun c17 => ?_) (fun c17 => ?_)
          · refine q_con hx hb dX3_recurs_81 ?_
            refine c_P (As := [.int (iI 0)]) (rest := [.int (iI f)]) fx hl (pm_X3_one l 0 (by omega)) dX3_recurs_82 k1239 k1240 k6 k1241 hd_X3_one rfl ⟨by decide, by decide⟩ (Nat.le_of_ble_eq_true rfl) ⟨by dsimp only; omega, by dsimp only; omega⟩ ?_
            refine q_add hx hb dX3_recurs_85 ?_
            refine q_nm (fun z19 ez19 => ?_)
            refine lv_istore (lv' := [(4, .int (iI z19)), (5, .int (iI j)), (0, .ref (w 0)), (1, .int (iI a)), (2, .int (iI wd)), (3, .int (iI k))]) hx hb dX3_recurs_86 hl (by decide) rfl (fun ls hl => ?_)
            refine lv_iinc (v := iI (j + 1)) (lv' := [(5, .int (iI (j + 1))), (4, .int (iI z19)), (0, .ref (w 0)), (1, .int (iI a)), (2, .int (iI wd)), (3, .int (iI k))]) hx hb dX3_recurs_88 hl (k := 1) rfl (iI_add _ _) (by decide) rfl (fun ls hl => ?_)
            refine lv_goto (tgt := 45) hx hb dX3_recurs_91 (by decide) ?_
            exact ih45 (z19, j + 1) _ _ _ _ _ ⟨⟨by (try dsimp only); omega, by (try dsimp only); omega⟩, hmH13, hS, by (try dsimp only); omega, by (try dsimp only); omega⟩ (by (try dsimp only); omega) (lv_sub hl [1, 0, 2, 3, 4, 5] rfl)
          · refine q_con hx hb dX3_recurs_77 ?_
            refine lv_goto (tgt := 82) hx hb dX3_recurs_78 (by decide) ?_
            refine c_P (As := [.int (iI 1)]) (rest := [.int (iI f)]) fx hl (pm_X3_one l 1 (by omega)) dX3_recurs_82 k1239 k1240 k6 k1241 hd_X3_one rfl ⟨by decide, by decide⟩ (Nat.le_of_ble_eq_true rfl) ⟨by dsimp only; omega, by dsimp only; omega⟩ ?_
            refine q_add hx hb dX3_recurs_85 ?_
            refine q_nm (fun z21 ez21 => ?_)
            refine lv_istore (lv' := [(4, .int (iI z21)), (5, .int (iI j)), (0, .ref (w 0)), (1, .int (iI a)), (2, .int (iI wd)), (3, .int (iI k))]) hx hb dX3_recurs_86 hl (by decide) rfl (fun ls hl => ?_)
            refine lv_iinc (v := iI (j + 1)) (lv' := [(5, .int (iI (j + 1))), (4, .int (iI z21)), (0, .ref (w 0)), (1, .int (iI a)), (2, .int (iI wd)), (3, .int (iI k))]) hx hb dX3_recurs_88 hl (k := 1) rfl (iI_add _ _) (by decide) rfl (fun ls hl => ?_)
            refine lv_goto (tgt := 45) hx hb dX3_recurs_91 (by decide) ?_
            exact ih45 (z21, j + 1) _ _ _ _ _ ⟨⟨by (try dsimp only); omega, by (try dsimp only); omega⟩, hmH13, hS, by (try dsimp only); omega, by (try dsimp only); omega⟩ (by (try dsimp only); omega) (lv_sub hl [1, 0, 2, 3, 4, 5] rfl)
      · exact (show False by omega).elim
    · exact (show False by omega).elim

set_option maxHeartbeats 4000000 in
set_option maxRecDepth 100000 in
theorem mno1_recurs (θ : TH) (l : Launch) (S0 : State) (H : Heap) (w : Nat → Nat) (r q : Nat → Nat) (dt : Nat → Int) (sv : Nat → Nat → Int) (th dn rf kn : Int) (hw : MWR θ S0 w H r q dt sv th dn rf kn) (a wd k : Int) (h_0 : -2147483648 ≤ a ∧ a < 2147483648) (h_1 : -2147483648 ≤ wd ∧ wd < 2147483648) (h_2 : -2147483648 ≤ k ∧ k < 2147483648) (h_3 : ¬ (0 ≤ a ∧ a < 6)) : CT l yX3_recurs cX3_recurs 6 (some .int) 2 42 0 0 [.ref (w 0), .int (iI a), .int (iI wd), .int (iI k)] S0 H (fun v9 H1 => v9 = some (.int (iI 0)) ∧ ∃ r1 q1 : Nat → Nat, MWR θ S0 w H1 r1 q1 dt sv 1 dn rf kn ∧ NW 6 H.size r r1 ∧ NW 3 H.size q q1) (fun _ _ => False) (WA w H.size) := by
  refine ct_of (by decide +kernel) (Nat.le_of_ble_eq_true rfl) ?_
  intro pg en s mi args below meth co ls fx hs hr hlk hxt hin hl
  subst hs
  obtain ⟨hx, hb, hml, hown, hts⟩ := id fx.1
  have hS : va_S (WA w s.heap.size) s.heap s.heap [] := va_S.rf
  obtain ⟨hz, hu, hm, hd, hsv⟩ := id hw
  have hAB : ∀ x : Nat, (WA w s.heap.size) x → θ.2.2.2 ≤ x := wa_b hu hz.2.1
  have hz0 := hz
  have hK := sz_K fx.2 hz
  have hlt0 := hm.lt
  have hu1 := hu.1
  have hAn : ∀ x : Nat, s.heap.size ≤ x → (WA w s.heap.size) x := fun _ h => Or.inr h
  refine lv_aload_n hx hb dX3_recurs_0 rfl (lv_at hl 0 rfl) ?_
  refine lv_iload_n hx hb dX3_recurs_1 rfl (lv_at hl 1 rfl) ?_
  obtain ⟨r1, hr1⟩ := bex (a < 0 ∨ 5 < a)
  refine c_P (As := [.int (iI a)]) (rest := [.ref (w 0)]) fx hl (pm_X3_isNo l a r1 hr1 (by omega)) dX3_recurs_2 k1113 k1114 k6 k1115 hd_X3_isNo rfl ⟨by decide, by decide⟩ (Nat.le_of_ble_eq_true rfl) ⟨by dsimp only; omega, by dsimp only; omega⟩ ?_
  have br1 : r1 = 0 ∨ r1 = 1 := hr1.elim (fun h => Or.inr h.1) (fun h => Or.inl h.1)
  refine lv_iload_n hx hb dX3_recurs_5 rfl (lv_at hl 2 rfl) ?_
  refine q_con hx hb dX3_recurs_6 ?_
  refine q_bip hx hb dX3_recurs_7 (by decide) ?_
  obtain ⟨r2, hr2⟩ := bex (wd < 1 ∨ 7 < wd)
  refine c_P (As := [.int (iI wd), .int (iI 1), .int (iI 7)]) (rest := [.int (iI r1), .ref (w 0)]) fx hl (pm_X3_isOut l wd 1 7 r2 hr2 (by omega) (by omega) (by omega)) dX3_recurs_9 k1116 k1117 k6 k1118 hd_X3_isOut rfl ⟨by decide, by decide⟩ (Nat.le_of_ble_eq_true rfl) ⟨by dsimp only; omega, by dsimp only; omega⟩ ?_
  have br2 : r2 = 0 ∨ r2 = 1 := hr2.elim (fun h => Or.inr h.1) (fun h => Or.inl h.1)
  refine q_ine (tgt := 25) hx hb dX3_recurs_12 (by decide) (by omega) (fun c3 => ?_) (fun c3 => ?_)
  · refine q_con hx hb dX3_recurs_25 ?_
    refine lv_goto (tgt := 30) hx hb dX3_recurs_26 (by decide) ?_
    refine q_con hx hb dX3_recurs_30 ?_
    obtain ⟨t4, f5, hq1t4, hq2t4⟩ := fails_ex r1 1 0 (by omega) (by omega) (by omega)
    have hmw : MWR θ S0 w s.heap r q dt sv th dn rf kn := ⟨hz, hu, hm, hd, hsv⟩
    refine c_M (w := w) (As := [.int (iI r1), .int (iI 1), .int (iI 0)]) (rest := []) (b := w 0) (C := RX3) fx hl (mw_fails θ l S0 _ w _ _ _ _ _ _ _ _ hmw r1 1 0 t4 f5 (by omega) hq1t4 hq2t4) (ob_recv hK hm.1 rfl) dX3_recurs_31 k1119 k1121 ks10 k6 k1122 hd_X3_fails rfl ⟨by decide, by decide⟩ (Nat.le_of_ble_eq_true rfl) ⟨by dsimp only; omega, by dsimp only; omega⟩ hS (fun x hx => hx ▸ Or.inl (Or.inl rfl)) (fun H6 locs hmH6 hszH6 hk0H6 hS => ?_)
    have hkH6 : ∀ x : Nat, x < (s.heap).size → ¬ x = w 0 → H6[x]? = (s.heap)[x]? := hk0H6
    have hzH6 := hz0.at hAB hS
    have hltH6 := hmH6.lt
    refine q_ieq (tgt := 39) hx hb dX3_recurs_34 (by decide) (by omega) (fun c7 => ?_) (fun c7 => ?_)
    · exact (show False by omega).elim
    · refine q_con hx hb dX3_recurs_37 ?_
      obtain rfl : t4 = 1 := by omega
      have hmw : MWR θ S0 w H6 r q dt sv 1 dn rf kn := ⟨hzH6, hu, hmH6, hd, hsv⟩
      exact e_i hx hb hr hlk hS dX3_recurs_38 (Nat.le_of_ble_eq_true rfl) (Nat.le_of_ble_eq_true rfl) ⟨ex_i (by omega), r, q, by first | exact hmw | (subst_vars; exact hmw) | (simp only [inI_self, inI_1, inI_31] at hmw; subst_vars; exact hmw), by first | exact nw_rf | exact nw_up (by omega) | exact nw_up2 (by omega), by first | exact nw_rf | exact nw_up (by omega) | exact nw_up2 (by omega)⟩
  · refine lv_iload_n hx hb dX3_recurs_15 rfl (lv_at hl 3 rfl) ?_
    refine q_con hx hb dX3_recurs_16 ?_
    refine q_bip hx hb dX3_recurs_17 (by decide) ?_
    obtain ⟨r8, hr8⟩ := bex (k < 0 ∨ 48 < k)
    refine c_P (As := [.int (iI k), .int (iI 0), .int (iI 48)]) (rest := [.int (iI r1), .ref (w 0)]) fx hl (pm_X3_isOut l k 0 48 r8 hr8 (by omega) (by omega) (by omega)) dX3_recurs_19 k1116 k1117 k6 k1118 hd_X3_isOut rfl ⟨by decide, by decide⟩ (Nat.le_of_ble_eq_true rfl) ⟨by dsimp only; omega, by dsimp only; omega⟩ ?_
    have br8 : r8 = 0 ∨ r8 = 1 := hr8.elim (fun h => Or.inr h.1) (fun h => Or.inl h.1)
    refine q_ieq (tgt := 29) hx hb dX3_recurs_22 (by decide) (by omega) (fun c9 => ?_) (fun c9 => ?_)
    · refine q_con hx hb dX3_recurs_29 ?_
      refine q_con hx hb dX3_recurs_30 ?_
      obtain ⟨t10, f11, hq1t10, hq2t10⟩ := fails_ex r1 0 0 (by omega) (by omega) (by omega)
      have hmw : MWR θ S0 w s.heap r q dt sv th dn rf kn := ⟨hz, hu, hm, hd, hsv⟩
      refine c_M (w := w) (As := [.int (iI r1), .int (iI 0), .int (iI 0)]) (rest := []) (b := w 0) (C := RX3) fx hl (mw_fails θ l S0 _ w _ _ _ _ _ _ _ _ hmw r1 0 0 t10 f11 (by omega) hq1t10 hq2t10) (ob_recv hK hm.1 rfl) dX3_recurs_31 k1119 k1121 ks10 k6 k1122 hd_X3_fails rfl ⟨by decide, by decide⟩ (Nat.le_of_ble_eq_true rfl) ⟨by dsimp only; omega, by dsimp only; omega⟩ hS (fun x hx => hx ▸ Or.inl (Or.inl rfl)) (fun H12 locs hmH12 hszH12 hk0H12 hS => ?_)
      have hkH12 : ∀ x : Nat, x < (s.heap).size → ¬ x = w 0 → H12[x]? = (s.heap)[x]? := hk0H12
      have hzH12 := hz0.at hAB hS
      have hltH12 := hmH12.lt
      refine q_ieq (tgt := 39) hx hb dX3_recurs_34 (by decide) (by omega) (fun c13 => ?_) (fun c13 => ?_)
      · exact (show False by omega).elim
      · refine q_con hx hb dX3_recurs_37 ?_
        obtain rfl : t10 = 1 := by omega
        have hmw : MWR θ S0 w H12 r q dt sv 1 dn rf kn := ⟨hzH12, hu, hmH12, hd, hsv⟩
        exact e_i hx hb hr hlk hS dX3_recurs_38 (Nat.le_of_ble_eq_true rfl) (Nat.le_of_ble_eq_true rfl) ⟨ex_i (by omega), r, q, by first | exact hmw | (subst_vars; exact hmw) | (simp only [inI_self, inI_1, inI_31] at hmw; subst_vars; exact hmw), by first | exact nw_rf | exact nw_up (by omega) | exact nw_up2 (by omega), by first | exact nw_rf | exact nw_up (by omega) | exact nw_up2 (by omega)⟩
    · refine q_con hx hb dX3_recurs_25 ?_
      refine lv_goto (tgt := 30) hx hb dX3_recurs_26 (by decide) ?_
      refine q_con hx hb dX3_recurs_30 ?_
      obtain ⟨t14, f15, hq1t14, hq2t14⟩ := fails_ex r1 1 0 (by omega) (by omega) (by omega)
      have hmw : MWR θ S0 w s.heap r q dt sv th dn rf kn := ⟨hz, hu, hm, hd, hsv⟩
      refine c_M (w := w) (As := [.int (iI r1), .int (iI 1), .int (iI 0)]) (rest := []) (b := w 0) (C := RX3) fx hl (mw_fails θ l S0 _ w _ _ _ _ _ _ _ _ hmw r1 1 0 t14 f15 (by omega) hq1t14 hq2t14) (ob_recv hK hm.1 rfl) dX3_recurs_31 k1119 k1121 ks10 k6 k1122 hd_X3_fails rfl ⟨by decide, by decide⟩ (Nat.le_of_ble_eq_true rfl) ⟨by dsimp only; omega, by dsimp only; omega⟩ hS (fun x hx => hx ▸ Or.inl (Or.inl rfl)) (fun H16 locs hmH16 hszH16 hk0H16 hS => ?_)
      have hkH16 : ∀ x : Nat, x < (s.heap).size → ¬ x = w 0 → H16[x]? = (s.heap)[x]? := hk0H16
      have hzH16 := hz0.at hAB hS
      have hltH16 := hmH16.lt
      refine q_ieq (tgt := 39) hx hb dX3_recurs_34 (by decide) (by omega) (fun c17 => ?_) (fun c17 => ?_)
      · exact (show False by omega).elim
      · refine q_con hx hb dX3_recurs_37 ?_
        obtain rfl : t14 = 1 := by omega
        have hmw : MWR θ S0 w H16 r q dt sv 1 dn rf kn := ⟨hzH16, hu, hmH16, hd, hsv⟩
        exact e_i hx hb hr hlk hS dX3_recurs_38 (Nat.le_of_ble_eq_true rfl) (Nat.le_of_ble_eq_true rfl) ⟨ex_i (by omega), r, q, by first | exact hmw | (subst_vars; exact hmw) | (simp only [inI_self, inI_1, inI_31] at hmw; subst_vars; exact hmw), by first | exact nw_rf | exact nw_up (by omega) | exact nw_up2 (by omega), by first | exact nw_rf | exact nw_up (by omega) | exact nw_up2 (by omega)⟩

set_option maxHeartbeats 4000000 in
set_option maxRecDepth 100000 in
theorem mno2_recurs (θ : TH) (l : Launch) (S0 : State) (H : Heap) (w : Nat → Nat) (r q : Nat → Nat) (dt : Nat → Int) (sv : Nat → Nat → Int) (th dn rf kn : Int) (hw : MWR θ S0 w H r q dt sv th dn rf kn) (a wd k : Int) (h_0 : -2147483648 ≤ a ∧ a < 2147483648) (h_1 : -2147483648 ≤ wd ∧ wd < 2147483648) (h_2 : -2147483648 ≤ k ∧ k < 2147483648) (h_3 : 0 ≤ a ∧ a < 6) (h_4 : ¬ (1 ≤ wd ∧ wd ≤ 7)) : CT l yX3_recurs cX3_recurs 6 (some .int) 2 42 0 0 [.ref (w 0), .int (iI a), .int (iI wd), .int (iI k)] S0 H (fun v9 H1 => v9 = some (.int (iI 0)) ∧ ∃ r1 q1 : Nat → Nat, MWR θ S0 w H1 r1 q1 dt sv 2 dn rf kn ∧ NW 6 H.size r r1 ∧ NW 3 H.size q q1) (fun _ _ => False) (WA w H.size) := by
  refine ct_of (by decide +kernel) (Nat.le_of_ble_eq_true rfl) ?_
  intro pg en s mi args below meth co ls fx hs hr hlk hxt hin hl
  subst hs
  obtain ⟨hx, hb, hml, hown, hts⟩ := id fx.1
  have hS : va_S (WA w s.heap.size) s.heap s.heap [] := va_S.rf
  obtain ⟨hz, hu, hm, hd, hsv⟩ := id hw
  have hAB : ∀ x : Nat, (WA w s.heap.size) x → θ.2.2.2 ≤ x := wa_b hu hz.2.1
  have hz0 := hz
  have hK := sz_K fx.2 hz
  have hlt0 := hm.lt
  have hu1 := hu.1
  have hAn : ∀ x : Nat, s.heap.size ≤ x → (WA w s.heap.size) x := fun _ h => Or.inr h
  refine lv_aload_n hx hb dX3_recurs_0 rfl (lv_at hl 0 rfl) ?_
  refine lv_iload_n hx hb dX3_recurs_1 rfl (lv_at hl 1 rfl) ?_
  obtain ⟨r1, hr1⟩ := bex (a < 0 ∨ 5 < a)
  refine c_P (As := [.int (iI a)]) (rest := [.ref (w 0)]) fx hl (pm_X3_isNo l a r1 hr1 (by omega)) dX3_recurs_2 k1113 k1114 k6 k1115 hd_X3_isNo rfl ⟨by decide, by decide⟩ (Nat.le_of_ble_eq_true rfl) ⟨by dsimp only; omega, by dsimp only; omega⟩ ?_
  have br1 : r1 = 0 ∨ r1 = 1 := hr1.elim (fun h => Or.inr h.1) (fun h => Or.inl h.1)
  refine lv_iload_n hx hb dX3_recurs_5 rfl (lv_at hl 2 rfl) ?_
  refine q_con hx hb dX3_recurs_6 ?_
  refine q_bip hx hb dX3_recurs_7 (by decide) ?_
  obtain ⟨r2, hr2⟩ := bex (wd < 1 ∨ 7 < wd)
  refine c_P (As := [.int (iI wd), .int (iI 1), .int (iI 7)]) (rest := [.int (iI r1), .ref (w 0)]) fx hl (pm_X3_isOut l wd 1 7 r2 hr2 (by omega) (by omega) (by omega)) dX3_recurs_9 k1116 k1117 k6 k1118 hd_X3_isOut rfl ⟨by decide, by decide⟩ (Nat.le_of_ble_eq_true rfl) ⟨by dsimp only; omega, by dsimp only; omega⟩ ?_
  have br2 : r2 = 0 ∨ r2 = 1 := hr2.elim (fun h => Or.inr h.1) (fun h => Or.inl h.1)
  refine q_ine (tgt := 25) hx hb dX3_recurs_12 (by decide) (by omega) (fun c3 => ?_) (fun c3 => ?_)
  · refine q_con hx hb dX3_recurs_25 ?_
    refine lv_goto (tgt := 30) hx hb dX3_recurs_26 (by decide) ?_
    refine q_con hx hb dX3_recurs_30 ?_
    obtain ⟨t4, f5, hq1t4, hq2t4⟩ := fails_ex r1 1 0 (by omega) (by omega) (by omega)
    have hmw : MWR θ S0 w s.heap r q dt sv th dn rf kn := ⟨hz, hu, hm, hd, hsv⟩
    refine c_M (w := w) (As := [.int (iI r1), .int (iI 1), .int (iI 0)]) (rest := []) (b := w 0) (C := RX3) fx hl (mw_fails θ l S0 _ w _ _ _ _ _ _ _ _ hmw r1 1 0 t4 f5 (by omega) hq1t4 hq2t4) (ob_recv hK hm.1 rfl) dX3_recurs_31 k1119 k1121 ks10 k6 k1122 hd_X3_fails rfl ⟨by decide, by decide⟩ (Nat.le_of_ble_eq_true rfl) ⟨by dsimp only; omega, by dsimp only; omega⟩ hS (fun x hx => hx ▸ Or.inl (Or.inl rfl)) (fun H6 locs hmH6 hszH6 hk0H6 hS => ?_)
    have hkH6 : ∀ x : Nat, x < (s.heap).size → ¬ x = w 0 → H6[x]? = (s.heap)[x]? := hk0H6
    have hzH6 := hz0.at hAB hS
    have hltH6 := hmH6.lt
    refine q_ieq (tgt := 39) hx hb dX3_recurs_34 (by decide) (by omega) (fun c7 => ?_) (fun c7 => ?_)
    · exact (show False by omega).elim
    · refine q_con hx hb dX3_recurs_37 ?_
      obtain rfl : t4 = 2 := by omega
      have hmw : MWR θ S0 w H6 r q dt sv 2 dn rf kn := ⟨hzH6, hu, hmH6, hd, hsv⟩
      exact e_i hx hb hr hlk hS dX3_recurs_38 (Nat.le_of_ble_eq_true rfl) (Nat.le_of_ble_eq_true rfl) ⟨ex_i (by omega), r, q, by first | exact hmw | (subst_vars; exact hmw) | (simp only [inI_self, inI_1, inI_31] at hmw; subst_vars; exact hmw), by first | exact nw_rf | exact nw_up (by omega) | exact nw_up2 (by omega), by first | exact nw_rf | exact nw_up (by omega) | exact nw_up2 (by omega)⟩
  · exact (show False by omega).elim

set_option maxHeartbeats 4000000 in
set_option maxRecDepth 100000 in
theorem mno3_recurs (θ : TH) (l : Launch) (S0 : State) (H : Heap) (w : Nat → Nat) (r q : Nat → Nat) (dt : Nat → Int) (sv : Nat → Nat → Int) (th dn rf kn : Int) (hw : MWR θ S0 w H r q dt sv th dn rf kn) (a wd k : Int) (h_0 : -2147483648 ≤ a ∧ a < 2147483648) (h_1 : -2147483648 ≤ wd ∧ wd < 2147483648) (h_2 : -2147483648 ≤ k ∧ k < 2147483648) (h_3 : 0 ≤ a ∧ a < 6) (h_4 : 1 ≤ wd ∧ wd ≤ 7) (h_5 : ¬ (0 ≤ k ∧ k ≤ 48)) : CT l yX3_recurs cX3_recurs 6 (some .int) 2 42 0 0 [.ref (w 0), .int (iI a), .int (iI wd), .int (iI k)] S0 H (fun v9 H1 => v9 = some (.int (iI 0)) ∧ ∃ r1 q1 : Nat → Nat, MWR θ S0 w H1 r1 q1 dt sv 2 dn rf kn ∧ NW 6 H.size r r1 ∧ NW 3 H.size q q1) (fun _ _ => False) (WA w H.size) := by
  refine ct_of (by decide +kernel) (Nat.le_of_ble_eq_true rfl) ?_
  intro pg en s mi args below meth co ls fx hs hr hlk hxt hin hl
  subst hs
  obtain ⟨hx, hb, hml, hown, hts⟩ := id fx.1
  have hS : va_S (WA w s.heap.size) s.heap s.heap [] := va_S.rf
  obtain ⟨hz, hu, hm, hd, hsv⟩ := id hw
  have hAB : ∀ x : Nat, (WA w s.heap.size) x → θ.2.2.2 ≤ x := wa_b hu hz.2.1
  have hz0 := hz
  have hK := sz_K fx.2 hz
  have hlt0 := hm.lt
  have hu1 := hu.1
  have hAn : ∀ x : Nat, s.heap.size ≤ x → (WA w s.heap.size) x := fun _ h => Or.inr h
  refine lv_aload_n hx hb dX3_recurs_0 rfl (lv_at hl 0 rfl) ?_
  refine lv_iload_n hx hb dX3_recurs_1 rfl (lv_at hl 1 rfl) ?_
  obtain ⟨r1, hr1⟩ := bex (a < 0 ∨ 5 < a)
  refine c_P (As := [.int (iI a)]) (rest := [.ref (w 0)]) fx hl (pm_X3_isNo l a r1 hr1 (by omega)) dX3_recurs_2 k1113 k1114 k6 k1115 hd_X3_isNo rfl ⟨by decide, by decide⟩ (Nat.le_of_ble_eq_true rfl) ⟨by dsimp only; omega, by dsimp only; omega⟩ ?_
  have br1 : r1 = 0 ∨ r1 = 1 := hr1.elim (fun h => Or.inr h.1) (fun h => Or.inl h.1)
  refine lv_iload_n hx hb dX3_recurs_5 rfl (lv_at hl 2 rfl) ?_
  refine q_con hx hb dX3_recurs_6 ?_
  refine q_bip hx hb dX3_recurs_7 (by decide) ?_
  obtain ⟨r2, hr2⟩ := bex (wd < 1 ∨ 7 < wd)
  refine c_P (As := [.int (iI wd), .int (iI 1), .int (iI 7)]) (rest := [.int (iI r1), .ref (w 0)]) fx hl (pm_X3_isOut l wd 1 7 r2 hr2 (by omega) (by omega) (by omega)) dX3_recurs_9 k1116 k1117 k6 k1118 hd_X3_isOut rfl ⟨by decide, by decide⟩ (Nat.le_of_ble_eq_true rfl) ⟨by dsimp only; omega, by dsimp only; omega⟩ ?_
  have br2 : r2 = 0 ∨ r2 = 1 := hr2.elim (fun h => Or.inr h.1) (fun h => Or.inl h.1)
  refine q_ine (tgt := 25) hx hb dX3_recurs_12 (by decide) (by omega) (fun c3 => ?_) (fun c3 => ?_)
  · exact (show False by omega).elim
  · refine lv_iload_n hx hb dX3_recurs_15 rfl (lv_at hl 3 rfl) ?_
    refine q_con hx hb dX3_recurs_16 ?_
    refine q_bip hx hb dX3_recurs_17 (by decide) ?_
    obtain ⟨r4, hr4⟩ := bex (k < 0 ∨ 48 < k)
    refine c_P (As := [.int (iI k), .int (iI 0), .int (iI 48)]) (rest := [.int (iI r1), .ref (w 0)]) fx hl (pm_X3_isOut l k 0 48 r4 hr4 (by omega) (by omega) (by omega)) dX3_recurs_19 k1116 k1117 k6 k1118 hd_X3_isOut rfl ⟨by decide, by decide⟩ (Nat.le_of_ble_eq_true rfl) ⟨by dsimp only; omega, by dsimp only; omega⟩ ?_
    have br4 : r4 = 0 ∨ r4 = 1 := hr4.elim (fun h => Or.inr h.1) (fun h => Or.inl h.1)
    refine q_ieq (tgt := 29) hx hb dX3_recurs_22 (by decide) (by omega) (fun c5 => ?_) (fun c5 => ?_)
    · exact (show False by omega).elim
    · refine q_con hx hb dX3_recurs_25 ?_
      refine lv_goto (tgt := 30) hx hb dX3_recurs_26 (by decide) ?_
      refine q_con hx hb dX3_recurs_30 ?_
      obtain ⟨t6, f7, hq1t6, hq2t6⟩ := fails_ex r1 1 0 (by omega) (by omega) (by omega)
      have hmw : MWR θ S0 w s.heap r q dt sv th dn rf kn := ⟨hz, hu, hm, hd, hsv⟩
      refine c_M (w := w) (As := [.int (iI r1), .int (iI 1), .int (iI 0)]) (rest := []) (b := w 0) (C := RX3) fx hl (mw_fails θ l S0 _ w _ _ _ _ _ _ _ _ hmw r1 1 0 t6 f7 (by omega) hq1t6 hq2t6) (ob_recv hK hm.1 rfl) dX3_recurs_31 k1119 k1121 ks10 k6 k1122 hd_X3_fails rfl ⟨by decide, by decide⟩ (Nat.le_of_ble_eq_true rfl) ⟨by dsimp only; omega, by dsimp only; omega⟩ hS (fun x hx => hx ▸ Or.inl (Or.inl rfl)) (fun H8 locs hmH8 hszH8 hk0H8 hS => ?_)
      have hkH8 : ∀ x : Nat, x < (s.heap).size → ¬ x = w 0 → H8[x]? = (s.heap)[x]? := hk0H8
      have hzH8 := hz0.at hAB hS
      have hltH8 := hmH8.lt
      refine q_ieq (tgt := 39) hx hb dX3_recurs_34 (by decide) (by omega) (fun c9 => ?_) (fun c9 => ?_)
      · exact (show False by omega).elim
      · refine q_con hx hb dX3_recurs_37 ?_
        obtain rfl : t6 = 2 := by omega
        have hmw : MWR θ S0 w H8 r q dt sv 2 dn rf kn := ⟨hzH8, hu, hmH8, hd, hsv⟩
        exact e_i hx hb hr hlk hS dX3_recurs_38 (Nat.le_of_ble_eq_true rfl) (Nat.le_of_ble_eq_true rfl) ⟨ex_i (by omega), r, q, by first | exact hmw | (subst_vars; exact hmw) | (simp only [inI_self, inI_1, inI_31] at hmw; subst_vars; exact hmw), by first | exact nw_rf | exact nw_up (by omega) | exact nw_up2 (by omega), by first | exact nw_rf | exact nw_up (by omega) | exact nw_up2 (by omega)⟩

set_option maxHeartbeats 4000000 in
set_option maxRecDepth 100000 in
theorem ma_houseNow (θ : TH) (l : Launch) (S0 : State) (H : Heap) (w : Nat → Nat) (r q : Nat → Nat) (dt : Nat → Int) (sv : Nat → Nat → Int) (th dn rf kn : Int) (hw : MWR θ S0 w H r q dt sv th dn rf kn) (k : Int) (h_0 : 0 ≤ k ∧ k ≤ 3) : CT l yX3_houseNow cX3_houseNow 6 (some .int) 7 148 1 4 [.ref (w 0), .int (iI k)] S0 H (fun v9 H1 => (∃ z : Int, v9 = some (.int (iI z))) ∧ True) (fun _ _ => False) (fun x => H.size ≤ x) := by
  refine ct_of (by decide +kernel) (Nat.le_of_ble_eq_true rfl) ?_
  intro pg en s mi args below meth co ls fx hs hr hlk hxt hin hl
  subst hs
  obtain ⟨hx, hb, hml, hown, hts⟩ := id fx.1
  have hS : va_S (fun x : Nat => s.heap.size ≤ x) s.heap s.heap [] := va_S.rf
  obtain ⟨hz, hu, hm, hd, hsv⟩ := id hw
  have hAB : ∀ x : Nat, (fun x : Nat => s.heap.size ≤ x) x → θ.2.2.2 ≤ x := fun x h => Nat.le_trans hz.2.1 h
  have hz0 := hz
  have hK := sz_K fx.2 hz
  have hlt0 := hm.lt
  have hu1 := hu.1
  have hAn : ∀ x : Nat, s.heap.size ≤ x → (fun x : Nat => s.heap.size ≤ x) x := fun _ h => h
  refine q_con hx hb dX3_houseNow_0 ?_
  refine lv_istore_n (lv' := [(2, .int (iI 0)), (0, .ref (w 0)), (1, .int (iI k))]) hx hb dX3_houseNow_1 rfl hl (by decide) rfl (fun ls hl => ?_)
  refine q_con hx hb dX3_houseNow_2 ?_
  refine lv_istore_n (lv' := [(3, .int (iI 0)), (2, .int (iI 0)), (0, .ref (w 0)), (1, .int (iI k))]) hx hb dX3_houseNow_3 rfl hl (by decide) rfl (fun ls hl => ?_)
  refine w_loop (nL := 6) (σ := Int × Int) (fun x => (6 - x.2).toNat) (fun x => (0 ≤ x.1 ∧ x.1 ≤ x.2) ∧ (0 ≤ x.2 ∧ x.2 ≤ 6)) (fun x => [(2, .int (iI x.1)), (3, .int (iI x.2)), (0, .ref (w 0)), (1, .int (iI k))]) ?_ ((0 : Int), (0 : Int)) ⟨by (try dsimp only); omega, by (try dsimp only); omega⟩ (lv_sub hl [1, 0, 2, 3] rfl)
  intro x hI4 ih4 ls hl
  obtain ⟨u1, k1⟩ := x
  (try dsimp only at hI4 ih4 hl ⊢)
  refine lv_iload_n hx hb dX3_houseNow_4 rfl (lv_at hl 1 rfl) ?_
  refine q_bip hx hb dX3_houseNow_5 (by decide) ?_
  refine q_cge (tgt := 66) hx hb dX3_houseNow_7 (by decide) (by omega) (by omega) (fun c1 => ?_) (fun c1 => ?_)
  · refine q_con hx hb dX3_houseNow_66 ?_
    refine r_newI (θ := θ) hx hb hts hK k71 hS (by omega) (by dsimp only; omega) (by dsimp only; omega) dX3_houseNow_67 (fun H2 haH2 hszH2 hkH2 hS => ?_)
    have hzH2 := hz0.at hAB hS
    have hkkH2 := hkH2
    have hmH2 := hm.kept hkH2
    have hltmH2 := hm.lt
    refine lv_dup hx hb dX3_houseNow_69 rfl ?_
    refine q_con hx hb dX3_houseNow_70 ?_
    refine lv_aload_n hx hb dX3_houseNow_71 rfl (lv_at hl 2 rfl) ?_
    refine r_get (θ := θ) (C := RX3) (T := TX3) (N := 6) (ci := 9) hx hb hts gwX3 hown hK hmH2.1 rfl 1 (by decide) k1091 (fun _ h => h) (v := .int (iI dn)) rfl dX3_houseNow_72 ?_
    refine r_iast (θ := θ) (a := s.heap.size) hx hb hK haH2 (hAn _ (by omega)) hS (i := 0) (x := dn) (by omega) (by decide) dX3_houseNow_75 (fun H3 locs haH3 hszH3 hkH3 hS => ?_)
    have hzH3 := hz0.at hAB hS
    have hkkH3 : ∀ x : Nat, x < (s.heap).size → H3[x]? = (s.heap)[x]? := fun x hx => (hkH3 x (by omega)).trans (hkkH2 x hx)
    have hmH3 := hm.kept hkkH3
    refine lv_dup hx hb dX3_houseNow_76 rfl ?_
    refine q_con hx hb dX3_houseNow_77 ?_
    refine lv_iload_n hx hb dX3_houseNow_78 rfl (lv_at hl 0 rfl) ?_
    refine r_iast (θ := θ) (a := s.heap.size) hx hb hK haH3 (hAn _ (by omega)) hS (i := 1) (x := u1) (by omega) (by decide) dX3_houseNow_79 (fun H4 locs haH4 hszH4 hkH4 hS => ?_)
    have hzH4 := hz0.at hAB hS
    have hkkH4 : ∀ x : Nat, x < (s.heap).size → H4[x]? = (s.heap)[x]? := fun x hx => (hkH4 x (by omega)).trans (hkkH3 x hx)
    have hmH4 := hm.kept hkkH4
    refine lv_dup hx hb dX3_houseNow_80 rfl ?_
    refine q_con hx hb dX3_houseNow_81 ?_
    refine lv_aload_n hx hb dX3_houseNow_82 rfl (lv_at hl 2 rfl) ?_
    refine r_get (θ := θ) (C := RX3) (T := TX3) (N := 6) (ci := 9) hx hb hts gwX3 hown hK hmH4.1 rfl 2 (by decide) k1092 (fun _ h => h) (v := .int (iI rf)) rfl dX3_houseNow_83 ?_
    refine r_iast (θ := θ) (a := s.heap.size) hx hb hK haH4 (hAn _ (by omega)) hS (i := 2) (x := rf) (by omega) (by decide) dX3_houseNow_86 (fun H5 locs haH5 hszH5 hkH5 hS => ?_)
    have hzH5 := hz0.at hAB hS
    have hkkH5 : ∀ x : Nat, x < (s.heap).size → H5[x]? = (s.heap)[x]? := fun x hx => (hkH5 x (by omega)).trans (hkkH4 x hx)
    have hmH5 := hm.kept hkkH5
    refine lv_dup hx hb dX3_houseNow_87 rfl ?_
    refine q_con hx hb dX3_houseNow_88 ?_
    refine lv_aload_n hx hb dX3_houseNow_89 rfl (lv_at hl 2 rfl) ?_
    refine r_get (θ := θ) (C := RX3) (T := TX3) (N := 6) (ci := 9) hx hb hts gwX3 hown hK hmH5.1 rfl 3 (by decide) k1093 (fun _ h => h) (v := .int (iI kn)) rfl dX3_houseNow_90 ?_
    refine r_iast (θ := θ) (a := s.heap.size) hx hb hK haH5 (hAn _ (by omega)) hS (i := 3) (x := kn) (by omega) (by decide) dX3_houseNow_93 (fun H6 locs haH6 hszH6 hkH6 hS => ?_)
    have hzH6 := hz0.at hAB hS
    have hkkH6 : ∀ x : Nat, x < (s.heap).size → H6[x]? = (s.heap)[x]? := fun x hx => (hkH6 x (by omega)).trans (hkkH5 x hx)
    have hmH6 := hm.kept hkkH6
    refine lv_astore_n (lv' := [(3, .ref s.heap.size), (2, .int (iI u1)), (0, .ref (w 0)), (1, .int (iI k))]) hx hb dX3_houseNow_94 rfl hl (by decide) rfl (fun ls hl => ?_)
    refine lv_aload_n hx hb dX3_houseNow_95 rfl (lv_at hl 0 rfl) ?_
    refine lv_iload_n hx hb dX3_houseNow_96 rfl (lv_at hl 3 rfl) ?_
    refine r_iald (θ := θ) hx hb hK haH6 (i := k) (by omega) (by decide) dX3_houseNow_97 ?_
    exact e_i hx hb hr hlk hS dX3_houseNow_98 (Nat.le_of_ble_eq_true rfl) (Nat.le_of_ble_eq_true rfl) ⟨⟨_, rfl⟩, trivial⟩
  · refine q_con hx hb dX3_houseNow_10 ?_
    refine lv_istore (lv' := [(4, .int (iI 1)), (2, .int (iI u1)), (3, .int (iI k1)), (0, .ref (w 0)), (1, .int (iI k))]) hx hb dX3_houseNow_11 hl (by decide) rfl (fun ls hl => ?_)
    refine q_con hx hb dX3_houseNow_13 ?_
    refine lv_istore (lv' := [(5, .int (iI 0)), (4, .int (iI 1)), (2, .int (iI u1)), (3, .int (iI k1)), (0, .ref (w 0)), (1, .int (iI k))]) hx hb dX3_houseNow_14 hl (by decide) rfl (fun ls hl => ?_)
    refine w_loop (nL := 6) (σ := Int × Int) (fun x => (k1 - x.2).toNat) (fun x => (x.1 = 0 ∨ x.1 = 1) ∧ (0 ≤ x.2 ∧ x.2 ≤ k1)) (fun x => [(4, .int (iI x.1)), (5, .int (iI x.2)), (2, .int (iI u1)), (3, .int (iI k1)), (0, .ref (w 0)), (1, .int (iI k))]) ?_ ((1 : Int), (0 : Int)) ⟨by (try dsimp only); omega, by (try dsimp only); omega⟩ (lv_sub hl [1, 0, 2, 3, 4, 5] rfl)
    intro x hI16 ih16 ls hl
    obtain ⟨nw, n1⟩ := x
    (try dsimp only at hI16 ih16 hl ⊢)
    have bnw := hI16.1
    refine lv_iload hx hb dX3_houseNow_16 (lv_at hl 1 rfl) ?_
    refine lv_iload_n hx hb dX3_houseNow_18 rfl (lv_at hl 3 rfl) ?_
    refine q_cge (tgt := 52) hx hb dX3_houseNow_19 (by decide) (by omega) (by omega) (fun c7 => ?_) (fun c7 => ?_)
    · refine lv_iload_n hx hb dX3_houseNow_52 rfl (lv_at hl 2 rfl) ?_
      refine lv_iload hx hb dX3_houseNow_53 (lv_at hl 0 rfl) ?_
      refine c_P (As := [.int (iI nw)]) (rest := [.int (iI u1)]) fx hl (pm_X3_one l nw (by omega)) dX3_houseNow_55 k1239 k1240 k6 k1241 hd_X3_one rfl ⟨by decide, by decide⟩ (Nat.le_of_ble_eq_true rfl) ⟨by dsimp only; omega, by dsimp only; omega⟩ ?_
      refine q_add hx hb dX3_houseNow_58 ?_
      refine q_nm (fun z9 ez9 => ?_)
      refine lv_istore_n (lv' := [(2, .int (iI z9)), (4, .int (iI nw)), (5, .int (iI n1)), (3, .int (iI k1)), (0, .ref (w 0)), (1, .int (iI k))]) hx hb dX3_houseNow_59 rfl hl (by decide) rfl (fun ls hl => ?_)
      refine lv_iinc (v := iI (k1 + 1)) (lv' := [(3, .int (iI (k1 + 1))), (2, .int (iI z9)), (4, .int (iI nw)), (5, .int (iI n1)), (0, .ref (w 0)), (1, .int (iI k))]) hx hb dX3_houseNow_60 hl (k := 3) rfl (iI_add _ _) (by decide) rfl (fun ls hl => ?_)
      refine lv_goto (tgt := 4) hx hb dX3_houseNow_63 (by decide) ?_
      exact ih4 (z9, k1 + 1) _ ⟨by (try dsimp only); omega, by (try dsimp only); omega⟩ (by (try dsimp only); omega) (lv_sub hl [1, 0, 4, 5] rfl)
    · refine lv_iload hx hb dX3_houseNow_22 (lv_at hl 0 rfl) ?_
      refine lv_aload_n hx hb dX3_houseNow_24 rfl (lv_at hl 4 rfl) ?_
      refine lv_iload hx hb dX3_houseNow_25 (lv_at hl 1 rfl) ?_
      have hmw : MWR θ S0 w s.heap r q dt sv th dn rf kn := ⟨hz, hu, hm, hd, hsv⟩
      refine c_HV (As := [.int (iI n1)]) (rest := [.int (iI nw)]) (b := w 0) (C := RX3) fx hl (mr_became θ l S0 _ w _ _ _ _ _ _ _ _ hmw n1 (by omega)) (ob_recv hK hm.1 rfl) dX3_houseNow_27 k1141 k1143 ks12 k6 k1144 hd_X3_became rfl ⟨by decide, by decide⟩ (Nat.le_of_ble_eq_true rfl) ⟨by dsimp only; omega, by dsimp only; omega⟩ ?_
      have t0z10 := hd n1.toNat (by omega)
      refine lv_aload_n hx hb dX3_houseNow_30 rfl (lv_at hl 4 rfl) ?_
      refine lv_iload_n hx hb dX3_houseNow_31 rfl (lv_at hl 3 rfl) ?_
      have hmw : MWR θ S0 w s.heap r q dt sv th dn rf kn := ⟨hz, hu, hm, hd, hsv⟩
      refine c_HV (As := [.int (iI k1)]) (rest := [.int (iI (dt n1.toNat)), .int (iI nw)]) (b := w 0) (C := RX3) fx hl (mr_became θ l S0 _ w _ _ _ _ _ _ _ _ hmw k1 (by omega)) (ob_recv hK hm.1 rfl) dX3_houseNow_32 k1141 k1143 ks12 k6 k1144 hd_X3_became rfl ⟨by decide, by decide⟩ (Nat.le_of_ble_eq_true rfl) ⟨by dsimp only; omega, by dsimp only; omega⟩ ?_
      have t0z11 := hd k1.toNat (by omega)
      refine q_ceq (tgt := 42) hx hb dX3_houseNow_35 (by decide) (by omega) (by omega) (fun c12 => ?_) (fun c12 => ?_)
      · refine q_con hx hb dX3_houseNow_42 ?_
        refine q_iand hx hb dX3_houseNow_43 bnw (by decide) (fun z13 bz13 hz13 => ?_)
        refine lv_istore (lv' := [(4, .int (iI z13)), (5, .int (iI n1)), (2, .int (iI u1)), (3, .int (iI k1)), (0, .ref (w 0)), (1, .int (iI k))]) hx hb dX3_houseNow_44 hl (by decide) rfl (fun ls hl => ?_)
        refine lv_iinc (v := iI (n1 + 1)) (lv' := [(5, .int (iI (n1 + 1))), (4, .int (iI z13)), (2, .int (iI u1)), (3, .int (iI k1)), (0, .ref (w 0)), (1, .int (iI k))]) hx hb dX3_houseNow_46 hl (k := 1) rfl (iI_add _ _) (by decide) rfl (fun ls hl => ?_)
        refine lv_goto (tgt := 16) hx hb dX3_houseNow_49 (by decide) ?_
        exact ih16 (z13, n1 + 1) _ ⟨by (try dsimp only); omega, by (try dsimp only); omega⟩ (by (try dsimp only); omega) (lv_sub hl [1, 0, 2, 3, 4, 5] rfl)
      · refine q_con hx hb dX3_houseNow_38 ?_
        refine lv_goto (tgt := 43) hx hb dX3_houseNow_39 (by decide) ?_
        refine q_iand hx hb dX3_houseNow_43 bnw (by decide) (fun z14 bz14 hz14 => ?_)
        refine lv_istore (lv' := [(4, .int (iI z14)), (5, .int (iI n1)), (2, .int (iI u1)), (3, .int (iI k1)), (0, .ref (w 0)), (1, .int (iI k))]) hx hb dX3_houseNow_44 hl (by decide) rfl (fun ls hl => ?_)
        refine lv_iinc (v := iI (n1 + 1)) (lv' := [(5, .int (iI (n1 + 1))), (4, .int (iI z14)), (2, .int (iI u1)), (3, .int (iI k1)), (0, .ref (w 0)), (1, .int (iI k))]) hx hb dX3_houseNow_46 hl (k := 1) rfl (iI_add _ _) (by decide) rfl (fun ls hl => ?_)
        refine lv_goto (tgt := 16) hx hb dX3_houseNow_49 (by decide) ?_
        exact ih16 (z14, n1 + 1) _ ⟨by (try dsimp only); omega, by (try dsimp only); omega⟩ (by (try dsimp only); omega) (lv_sub hl [1, 0, 2, 3, 4, 5] rfl)

set_option maxHeartbeats 4000000 in
set_option maxRecDepth 100000 in
theorem mok_house (θ : TH) (l : Launch) (S0 : State) (H : Heap) (w : Nat → Nat) (r q : Nat → Nat) (dt : Nat → Int) (sv : Nat → Nat → Int) (th dn rf kn : Int) (hw : MWR θ S0 w H r q dt sv th dn rf kn) (k : Int) (h_0 : -2147483648 ≤ k ∧ k < 2147483648) (h_1 : 0 ≤ k ∧ k ≤ 3) : CT l yX3_house cX3_house 2 (some .int) 8 173 1 4 [.ref (w 0), .int (iI k)] S0 H (fun v9 H1 => (∃ z : Int, v9 = some (.int (iI z))) ∧ ∃ r1 q1 : Nat → Nat, MWR θ S0 w H1 r1 q1 dt sv 0 dn rf kn ∧ NW 6 H.size r r1 ∧ NW 3 H.size q q1) (fun _ _ => False) (WA w H.size) := by
  refine ct_of (by decide +kernel) (Nat.le_of_ble_eq_true rfl) ?_
  intro pg en s mi args below meth co ls fx hs hr hlk hxt hin hl
  subst hs
  obtain ⟨hx, hb, hml, hown, hts⟩ := id fx.1
  have hS : va_S (WA w s.heap.size) s.heap s.heap [] := va_S.rf
  obtain ⟨hz, hu, hm, hd, hsv⟩ := id hw
  have hAB : ∀ x : Nat, (WA w s.heap.size) x → θ.2.2.2 ≤ x := wa_b hu hz.2.1
  have hz0 := hz
  have hK := sz_K fx.2 hz
  have hlt0 := hm.lt
  have hu1 := hu.1
  have hAn : ∀ x : Nat, s.heap.size ≤ x → (WA w s.heap.size) x := fun _ h => Or.inr h
  refine lv_aload_n hx hb dX3_house_0 rfl (lv_at hl 0 rfl) ?_
  refine lv_iload_n hx hb dX3_house_1 rfl (lv_at hl 1 rfl) ?_
  refine q_con hx hb dX3_house_2 ?_
  refine q_con hx hb dX3_house_3 ?_
  obtain ⟨r1, hr1⟩ := bex (k < 0 ∨ 3 < k)
  refine c_P (As := [.int (iI k), .int (iI 0), .int (iI 3)]) (rest := [.ref (w 0)]) fx hl (pm_X3_isOut l k 0 3 r1 hr1 (by omega) (by omega) (by omega)) dX3_house_4 k1116 k1117 k6 k1118 hd_X3_isOut rfl ⟨by decide, by decide⟩ (Nat.le_of_ble_eq_true rfl) ⟨by dsimp only; omega, by dsimp only; omega⟩ ?_
  have br1 : r1 = 0 ∨ r1 = 1 := hr1.elim (fun h => Or.inr h.1) (fun h => Or.inl h.1)
  refine q_con hx hb dX3_house_7 ?_
  refine q_con hx hb dX3_house_8 ?_
  obtain ⟨t2, f3, hq1t2, hq2t2⟩ := fails_ex r1 0 0 (by omega) (by omega) (by omega)
  have hmw : MWR θ S0 w s.heap r q dt sv th dn rf kn := ⟨hz, hu, hm, hd, hsv⟩
  refine c_M (w := w) (As := [.int (iI r1), .int (iI 0), .int (iI 0)]) (rest := []) (b := w 0) (C := RX3) fx hl (mw_fails θ l S0 _ w _ _ _ _ _ _ _ _ hmw r1 0 0 t2 f3 (by omega) hq1t2 hq2t2) (ob_recv hK hm.1 rfl) dX3_house_9 k1119 k1121 ks10 k6 k1122 hd_X3_fails rfl ⟨by decide, by decide⟩ (Nat.le_of_ble_eq_true rfl) ⟨by dsimp only; omega, by dsimp only; omega⟩ hS (fun x hx => hx ▸ Or.inl (Or.inl rfl)) (fun H4 locs hmH4 hszH4 hk0H4 hS => ?_)
  have hkH4 : ∀ x : Nat, x < (s.heap).size → ¬ x = w 0 → H4[x]? = (s.heap)[x]? := hk0H4
  have hzH4 := hz0.at hAB hS
  have hltH4 := hmH4.lt
  refine q_ieq (tgt := 19) hx hb dX3_house_12 (by decide) (by omega) (fun c5 => ?_) (fun c5 => ?_)
  · refine lv_aload_n hx hb dX3_house_19 rfl (lv_at hl 0 rfl) ?_
    refine lv_iload_n hx hb dX3_house_20 rfl (lv_at hl 1 rfl) ?_
    have hmw : MWR θ S0 w H4 r q dt sv t2 dn rf kn := ⟨hzH4, hu, hmH4, hd, hsv⟩
    refine c_MA (As := [.int (iI k)]) (rest := []) (b := w 0) (C := RX3) fx hl (ma_houseNow θ l S0 _ w _ _ _ _ _ _ _ _ hmw k (by omega)) (ob_recv hK hmH4.1 rfl) dX3_house_21 k1610 k1612 ks33 k6 k1613 hd_X3_houseNow rfl ⟨by decide, by decide⟩ (Nat.le_of_ble_eq_true rfl) ⟨by dsimp only; omega, by dsimp only; omega⟩ hS (fun x hx => hAn x (Nat.le_trans hS.1 hx)) (fun z7 H6 locs hszH6 hk0H6 hS => ?_)
    have hkH6 : ∀ x : Nat, x < (H4).size → H6[x]? = (H4)[x]? := fun x hx => hk0H6 x hx (Nat.not_le.mpr hx)
    have hzH6 := hz0.at hAB hS
    have hmH6 := hmH4.kept hkH6
    have hltH6 := hmH6.lt
    obtain rfl : t2 = 0 := by omega
    have hmw : MWR θ S0 w H6 r q dt sv 0 dn rf kn := ⟨hzH6, hu, hmH6, hd, hsv⟩
    exact e_i hx hb hr hlk hS dX3_house_24 (Nat.le_of_ble_eq_true rfl) (Nat.le_of_ble_eq_true rfl) ⟨⟨_, rfl⟩, r, q, by first | exact hmw | (subst_vars; exact hmw) | (simp only [inI_self, inI_1, inI_31] at hmw; subst_vars; exact hmw), by first | exact nw_rf | exact nw_up (by omega) | exact nw_up2 (by omega), by first | exact nw_rf | exact nw_up (by omega) | exact nw_up2 (by omega)⟩
  · exact (show False by omega).elim

set_option maxHeartbeats 4000000 in
set_option maxRecDepth 100000 in
theorem mno1_house (θ : TH) (l : Launch) (S0 : State) (H : Heap) (w : Nat → Nat) (r q : Nat → Nat) (dt : Nat → Int) (sv : Nat → Nat → Int) (th dn rf kn : Int) (hw : MWR θ S0 w H r q dt sv th dn rf kn) (k : Int) (h_0 : -2147483648 ≤ k ∧ k < 2147483648) (h_1 : ¬ (0 ≤ k ∧ k ≤ 3)) : CT l yX3_house cX3_house 2 (some .int) 1 23 0 0 [.ref (w 0), .int (iI k)] S0 H (fun v9 H1 => v9 = some (.int (iI 0)) ∧ ∃ r1 q1 : Nat → Nat, MWR θ S0 w H1 r1 q1 dt sv 1 dn rf kn ∧ NW 6 H.size r r1 ∧ NW 3 H.size q q1) (fun _ _ => False) (WA w H.size) := by
  refine ct_of (by decide +kernel) (Nat.le_of_ble_eq_true rfl) ?_
  intro pg en s mi args below meth co ls fx hs hr hlk hxt hin hl
  subst hs
  obtain ⟨hx, hb, hml, hown, hts⟩ := id fx.1
  have hS : va_S (WA w s.heap.size) s.heap s.heap [] := va_S.rf
  obtain ⟨hz, hu, hm, hd, hsv⟩ := id hw
  have hAB : ∀ x : Nat, (WA w s.heap.size) x → θ.2.2.2 ≤ x := wa_b hu hz.2.1
  have hz0 := hz
  have hK := sz_K fx.2 hz
  have hlt0 := hm.lt
  have hu1 := hu.1
  have hAn : ∀ x : Nat, s.heap.size ≤ x → (WA w s.heap.size) x := fun _ h => Or.inr h
  refine lv_aload_n hx hb dX3_house_0 rfl (lv_at hl 0 rfl) ?_
  refine lv_iload_n hx hb dX3_house_1 rfl (lv_at hl 1 rfl) ?_
  refine q_con hx hb dX3_house_2 ?_
  refine q_con hx hb dX3_house_3 ?_
  obtain ⟨r1, hr1⟩ := bex (k < 0 ∨ 3 < k)
  refine c_P (As := [.int (iI k), .int (iI 0), .int (iI 3)]) (rest := [.ref (w 0)]) fx hl (pm_X3_isOut l k 0 3 r1 hr1 (by omega) (by omega) (by omega)) dX3_house_4 k1116 k1117 k6 k1118 hd_X3_isOut rfl ⟨by decide, by decide⟩ (Nat.le_of_ble_eq_true rfl) ⟨by dsimp only; omega, by dsimp only; omega⟩ ?_
  have br1 : r1 = 0 ∨ r1 = 1 := hr1.elim (fun h => Or.inr h.1) (fun h => Or.inl h.1)
  refine q_con hx hb dX3_house_7 ?_
  refine q_con hx hb dX3_house_8 ?_
  obtain ⟨t2, f3, hq1t2, hq2t2⟩ := fails_ex r1 0 0 (by omega) (by omega) (by omega)
  have hmw : MWR θ S0 w s.heap r q dt sv th dn rf kn := ⟨hz, hu, hm, hd, hsv⟩
  refine c_M (w := w) (As := [.int (iI r1), .int (iI 0), .int (iI 0)]) (rest := []) (b := w 0) (C := RX3) fx hl (mw_fails θ l S0 _ w _ _ _ _ _ _ _ _ hmw r1 0 0 t2 f3 (by omega) hq1t2 hq2t2) (ob_recv hK hm.1 rfl) dX3_house_9 k1119 k1121 ks10 k6 k1122 hd_X3_fails rfl ⟨by decide, by decide⟩ (Nat.le_of_ble_eq_true rfl) ⟨by dsimp only; omega, by dsimp only; omega⟩ hS (fun x hx => hx ▸ Or.inl (Or.inl rfl)) (fun H4 locs hmH4 hszH4 hk0H4 hS => ?_)
  have hkH4 : ∀ x : Nat, x < (s.heap).size → ¬ x = w 0 → H4[x]? = (s.heap)[x]? := hk0H4
  have hzH4 := hz0.at hAB hS
  have hltH4 := hmH4.lt
  refine q_ieq (tgt := 19) hx hb dX3_house_12 (by decide) (by omega) (fun c5 => ?_) (fun c5 => ?_)
  · exact (show False by omega).elim
  · refine q_con hx hb dX3_house_15 ?_
    refine lv_goto (tgt := 24) hx hb dX3_house_16 (by decide) ?_
    obtain rfl : t2 = 1 := by omega
    have hmw : MWR θ S0 w H4 r q dt sv 1 dn rf kn := ⟨hzH4, hu, hmH4, hd, hsv⟩
    exact e_i hx hb hr hlk hS dX3_house_24 (Nat.le_of_ble_eq_true rfl) (Nat.le_of_ble_eq_true rfl) ⟨ex_i (by omega), r, q, by first | exact hmw | (subst_vars; exact hmw) | (simp only [inI_self, inI_1, inI_31] at hmw; subst_vars; exact hmw), by first | exact nw_rf | exact nw_up (by omega) | exact nw_up2 (by omega), by first | exact nw_rf | exact nw_up (by omega) | exact nw_up2 (by omega)⟩
