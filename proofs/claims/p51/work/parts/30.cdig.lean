section L11
variable {p : Program} {l : Launch} {e : Env} {R : Room} {s : State} {m : MethodId} {args : Array Value} {below : List Frame} {meth : Method} {c : Code} {H : Heap} {locs : List Loc} {cells slots : Nat} {Q : State → Prop} {cc : ByteArray} {pc : Nat} {ls : Array Slot} {rest : List Value} {θ : TH} {A0 A1 : Nat → Prop} {H0 : Heap} {S0 : State} {mc ms : Nat}
/-- an object's own method that answers a long of which nothing is said -/
theorem c_LP {own C : String} {idx n nL F L b na : Nat} {y : MethodName} {cy : ByteArray} {rt : Option FieldType} {As : List Value} {P : Heap → Prop} {lv : List (Nat × Value)} (fx : FX p m c cc nL s args own S0) (hl : lv_has ls nL lv) (hM : CT l y cy n rt F L mc ms (.ref b :: As) S0 H (fun v H1 => (∃ z : Int, v = some (.long (lL z))) ∧ P H1) (fun _ _ => False) A1) (hrec : ∃ cellB : Cell, H[b]? = some cellB ∧ cellB.vm.isStatics = false ∧ s.vm.findClass C = some cellB.cls) (d : decode cc pc = .ok (.invokevirtual idx, 3)) (w1 : Cond.methodLink own idx y ∈ wG) (w2 : Cond.instanceMethod y ∈ wG) (w5 : Cond.selects C y y ∈ wG) (w3 : Cond.initialized y.cls ∈ wG) (w4 : Cond.code y cy n rt ∈ wG) (hd : y.cls ≠ "java/lang/invoke/MethodHandle" ∧ y.cls ≠ "java/lang/invoke/VarHandle" ∧ (parseMethodDescriptor y.desc).map (fun d => d.parameters.length) = some na) (hn : As.length = na)
    (hR : F + 1 ≤ R.frames ∧ 8 + (n + 11) + L ≤ R.locals) (hW : (rest.map fun v => v.category).sum ≤ 8) (hcs : cells + mc ≤ R.cells ∧ slots + ms ≤ R.slots) (hS : va_S A0 H0 H locs) (hf : ∀ q, A1 q → A0 q)
    (kk : ∀ (z : Int) (H1 : Heap) (locs1 : List Loc), P H1 → H.size ≤ H1.size → (∀ q : Nat, q < H.size → ¬ A1 q → H1[q]? = H[q]?) → va_S A0 H0 H1 locs1 → W p l e R s m args below meth c H1 locs1 (cells + mc) (slots + ms) Q (F0 m (pc + 3) ls (.long (lL z) :: rest))) : W p l e R s m args below meth c H locs cells slots Q (F0 m pc ls (As.reverse ++ .ref b :: rest)) :=
  c_V (As := As) (rest := rest) fx hl hM hrec d w1 w2 w5 w3 w4 hd hn hR hW hcs hS hf (fun _ _ _ _ _ h => h.elim) (fun v H1 locs1 hv hz hk hS1 => by obtain ⟨⟨z, rfl⟩, hp⟩ := hv; exact kk z H1 locs1 hp hz hk hS1)
end L11
set_option maxHeartbeats 4000000 in
set_option maxRecDepth 100000 in
theorem ok_withShifts (θ : TH) (l : Launch) (hl0 : l.stackTraces = false) (S0 : State) (H : Heap) (u : Nat → Nat) (dt sy sm sd : Nat → Int) (bc rf kn : Int) (hw : CWR θ S0 u H dt sy sm sd bc rf kn) (s0 a : Int) (h_0 : 0 ≤ a ∧ a < 6) : CT l yX1_withShifts cX1_withShifts 7 (some .long) 6 138 0 0 [.ref (u 0), .long (lL s0), .int (iI a)] S0 H (fun v H1 => (∃ z : Int, v = some (.long (lL z))) ∧ H1 = H) (fun _ _ => False) (fun _ => False) := by
  refine ct_of (by decide +kernel) (Nat.le_of_ble_eq_true rfl) ?_
  intro pg en s mi args below meth co ls fx hs hr hlk hxt hin hl
  subst hs
  obtain ⟨hx, hb, hml, hown, hts⟩ := id fx.1
  have hS : va_S (fun _ : Nat => False) s.heap s.heap [] := va_S.rf
  obtain ⟨hz, hu, ⟨ho, ha1, ha2, ha3, ha4, hsb⟩, hd, hsp⟩ := id hw
  have hAB : ∀ q : Nat, (fun _ : Nat => False) q → θ.2.2.2 ≤ q := fun _ h => h.elim
  have hz0 := hz
  have hK := sz_K fx.2 hz
  refine lv_iload_n hx hb dX1_withShifts_0 rfl (lv_at hl 2 rfl) ?_
  refine q_con hx hb dX1_withShifts_1 ?_
  refine q_add hx hb dX1_withShifts_2 ?_
  refine q_bip hx hb dX1_withShifts_3 (by decide) ?_
  refine q_cge (tgt := 14) hx hb dX1_withShifts_5 (by decide) (by omega) (by omega) (fun c1 => ?_) (fun c1 => ?_)
  · refine q_con hx hb dX1_withShifts_14 ?_
    refine lv_istore (lv' := [(4, .int (iI 0)), (0, .ref (u 0)), (1, .long (lL s0)), (3, .int (iI a))]) hx hb dX1_withShifts_15 hl (by decide) rfl (fun ls hl => ?_)
    refine lv_lload_n hx hb dX1_withShifts_17 rfl (lv_at hl 2 rfl) ?_
    refine q_ldc2 (n := 31) hx hb hown (hts _ k167) (by decide) dX1_withShifts_18 ?_
    refine q_lmul hx hb dX1_withShifts_21 ?_
    refine lv_aload_n hx hb dX1_withShifts_22 rfl (lv_at hl 1 rfl) ?_
    refine lv_iload_n hx hb dX1_withShifts_23 rfl (lv_at hl 3 rfl) ?_
    refine q_con hx hb dX1_withShifts_24 ?_
    have hcw := hw
    refine c_HV (As := [.int (iI a), .int (iI 1)]) (rest := [.long (lL (s0 * 31))]) (b := u 0) (C := RX1) fx hl (ok_loss θ l hl0 S0 _ u _ _ _ _ _ _ _ hcw a 1 (by omega) (by omega) (by omega) (by omega)) (ob_recv hK ho rfl) dX1_withShifts_25 k636 k637 k638 k1 k639 hd_X1_loss rfl ⟨by decide, by decide⟩ (Nat.le_of_ble_eq_true rfl) ⟨by dsimp only; omega, by dsimp only; omega⟩ ?_
    refine q_nm (fun z2 ez2 => ?_)
    refine q_any (fun z3 bz3 => ?_)
    refine q_i2l hx hb dX1_withShifts_28 (by omega) ?_
    refine q_ladd hx hb dX1_withShifts_29 ?_
    refine q_nml (fun z4 ez4 => ?_)
    refine lv_lstore (lv' := [(5, .long (lL z4)), (4, .int (iI 0)), (0, .ref (u 0)), (1, .long (lL s0)), (3, .int (iI a))]) hx hb dX1_withShifts_30 hl (by decide) rfl (fun ls hl => ?_)
    refine lv_lload hx hb dX1_withShifts_32 (lv_at hl 0 rfl) ?_
    refine q_ldc2 (n := 31) hx hb hown (hts _ k167) (by decide) dX1_withShifts_34 ?_
    refine q_lmul hx hb dX1_withShifts_37 ?_
    refine lv_aload_n hx hb dX1_withShifts_38 rfl (lv_at hl 2 rfl) ?_
    refine lv_iload_n hx hb dX1_withShifts_39 rfl (lv_at hl 4 rfl) ?_
    refine q_con hx hb dX1_withShifts_40 ?_
    have hcw := hw
    refine c_HV (As := [.int (iI a), .int (iI (-1))]) (rest := [.long (lL (z4 * 31))]) (b := u 0) (C := RX1) fx hl (ok_loss θ l hl0 S0 _ u _ _ _ _ _ _ _ hcw a (-1) (by omega) (by omega) (by omega) (by omega)) (ob_recv hK ho rfl) dX1_withShifts_41 k636 k637 k638 k1 k639 hd_X1_loss rfl ⟨by decide, by decide⟩ (Nat.le_of_ble_eq_true rfl) ⟨by dsimp only; omega, by dsimp only; omega⟩ ?_
    refine q_nm (fun z5 ez5 => ?_)
    refine q_any (fun z6 bz6 => ?_)
    refine q_i2l hx hb dX1_withShifts_44 (by omega) ?_
    refine q_ladd hx hb dX1_withShifts_45 ?_
    refine q_nml (fun z7 ez7 => ?_)
    refine lv_lstore (lv' := [(5, .long (lL z7)), (4, .int (iI 0)), (0, .ref (u 0)), (1, .long (lL s0)), (3, .int (iI a))]) hx hb dX1_withShifts_46 hl (by decide) rfl (fun ls hl => ?_)
    refine lv_lload hx hb dX1_withShifts_48 (lv_at hl 0 rfl) ?_
    refine q_ldc2 (n := 31) hx hb hown (hts _ k167) (by decide) dX1_withShifts_50 ?_
    refine q_lmul hx hb dX1_withShifts_53 ?_
    refine lv_aload_n hx hb dX1_withShifts_54 rfl (lv_at hl 2 rfl) ?_
    refine lv_iload_n hx hb dX1_withShifts_55 rfl (lv_at hl 4 rfl) ?_
    refine q_con hx hb dX1_withShifts_56 ?_
    refine q_bip hx hb dX1_withShifts_57 (by decide) ?_
    have hcw := hw
    refine c_HV (As := [.int (iI a), .int (iI 1), .int (iI 30)]) (rest := [.long (lL (z7 * 31))]) (b := u 0) (C := RX1) fx hl (ok_gap θ l hl0 S0 _ u _ _ _ _ _ _ _ hcw a 1 30 (by omega) (by omega) (by omega) (by omega) (by omega) (by omega)) (ob_recv hK ho rfl) dX1_withShifts_59 k648 k649 k650 k1 k651 hd_X1_gap rfl ⟨by decide, by decide⟩ (Nat.le_of_ble_eq_true rfl) ⟨by dsimp only; omega, by dsimp only; omega⟩ ?_
    refine q_nm (fun z8 ez8 => ?_)
    refine q_any (fun z9 bz9 => ?_)
    refine q_i2l hx hb dX1_withShifts_62 (by omega) ?_
    refine q_ladd hx hb dX1_withShifts_63 ?_
    refine q_nml (fun z10 ez10 => ?_)
    refine lv_lstore (lv' := [(5, .long (lL z10)), (4, .int (iI 0)), (0, .ref (u 0)), (1, .long (lL s0)), (3, .int (iI a))]) hx hb dX1_withShifts_64 hl (by decide) rfl (fun ls hl => ?_)
    refine lv_lload hx hb dX1_withShifts_66 (lv_at hl 0 rfl) ?_
    refine q_ldc2 (n := 31) hx hb hown (hts _ k167) (by decide) dX1_withShifts_68 ?_
    refine q_lmul hx hb dX1_withShifts_71 ?_
    refine lv_aload_n hx hb dX1_withShifts_72 rfl (lv_at hl 2 rfl) ?_
    refine lv_iload_n hx hb dX1_withShifts_73 rfl (lv_at hl 4 rfl) ?_
    refine lv_iload hx hb dX1_withShifts_74 (lv_at hl 1 rfl) ?_
    have hcw := hw
    refine c_HV (As := [.int (iI a), .int (iI 0)]) (rest := [.long (lL (z10 * 31))]) (b := u 0) (C := RX1) fx hl (ok_compare θ l hl0 S0 _ u _ _ _ _ _ _ _ hcw a 0 (by omega) (by omega) (by omega) (by omega)) (ob_recv hK ho rfl) dX1_withShifts_76 k658 k659 k660 k1 k661 hd_X1_compare rfl ⟨by decide, by decide⟩ (Nat.le_of_ble_eq_true rfl) ⟨by dsimp only; omega, by dsimp only; omega⟩ ?_
    refine q_nm (fun z11 ez11 => ?_)
    refine q_any (fun z12 bz12 => ?_)
    refine q_i2l hx hb dX1_withShifts_79 (by omega) ?_
    refine q_ladd hx hb dX1_withShifts_80 ?_
    refine q_nml (fun z13 ez13 => ?_)
    refine lv_lstore (lv' := [(5, .long (lL z13)), (4, .int (iI 0)), (0, .ref (u 0)), (1, .long (lL s0)), (3, .int (iI a))]) hx hb dX1_withShifts_81 hl (by decide) rfl (fun ls hl => ?_)
    refine lv_lload hx hb dX1_withShifts_83 (lv_at hl 0 rfl) ?_
    refine q_ldc2 (n := 31) hx hb hown (hts _ k167) (by decide) dX1_withShifts_85 ?_
    refine q_lmul hx hb dX1_withShifts_88 ?_
    refine lv_aload_n hx hb dX1_withShifts_89 rfl (lv_at hl 2 rfl) ?_
    refine lv_iload_n hx hb dX1_withShifts_90 rfl (lv_at hl 4 rfl) ?_
    refine lv_iload hx hb dX1_withShifts_91 (lv_at hl 1 rfl) ?_
    have hcw := hw
    refine c_HV (As := [.int (iI a), .int (iI 0)]) (rest := [.long (lL (z13 * 31))]) (b := u 0) (C := RX1) fx hl (ok_wholeMonths θ l hl0 S0 _ u _ _ _ _ _ _ _ hcw a 0 (by omega) (by omega) (by omega) (by omega)) (ob_recv hK ho rfl) dX1_withShifts_93 k662 k663 k664 k1 k665 hd_X1_wholeMonths rfl ⟨by decide, by decide⟩ (Nat.le_of_ble_eq_true rfl) ⟨by dsimp only; omega, by dsimp only; omega⟩ ?_
    refine q_nm (fun z14 ez14 => ?_)
    refine q_any (fun z15 bz15 => ?_)
    refine q_i2l hx hb dX1_withShifts_96 (by omega) ?_
    refine q_ladd hx hb dX1_withShifts_97 ?_
    exact e_l hx hb hr hlk hS dX1_withShifts_98 (Nat.le_refl _) (Nat.le_refl _) ⟨⟨_, rfl⟩, rfl⟩
  · refine lv_iload_n hx hb dX1_withShifts_8 rfl (lv_at hl 2 rfl) ?_
    refine q_con hx hb dX1_withShifts_9 ?_
    refine q_add hx hb dX1_withShifts_10 ?_
    refine lv_goto (tgt := 15) hx hb dX1_withShifts_11 (by decide) ?_
    refine q_nm (fun z16 ez16 => ?_)
    refine lv_istore (lv' := [(4, .int (iI z16)), (0, .ref (u 0)), (1, .long (lL s0)), (3, .int (iI a))]) hx hb dX1_withShifts_15 hl (by decide) rfl (fun ls hl => ?_)
    refine lv_lload_n hx hb dX1_withShifts_17 rfl (lv_at hl 2 rfl) ?_
    refine q_ldc2 (n := 31) hx hb hown (hts _ k167) (by decide) dX1_withShifts_18 ?_
    refine q_lmul hx hb dX1_withShifts_21 ?_
    refine lv_aload_n hx hb dX1_withShifts_22 rfl (lv_at hl 1 rfl) ?_
    refine lv_iload_n hx hb dX1_withShifts_23 rfl (lv_at hl 3 rfl) ?_
    refine q_con hx hb dX1_withShifts_24 ?_
    have hcw := hw
    refine c_HV (As := [.int (iI a), .int (iI 1)]) (rest := [.long (lL (s0 * 31))]) (b := u 0) (C := RX1) fx hl (ok_loss θ l hl0 S0 _ u _ _ _ _ _ _ _ hcw a 1 (by omega) (by omega) (by omega) (by omega)) (ob_recv hK ho rfl) dX1_withShifts_25 k636 k637 k638 k1 k639 hd_X1_loss rfl ⟨by decide, by decide⟩ (Nat.le_of_ble_eq_true rfl) ⟨by dsimp only; omega, by dsimp only; omega⟩ ?_
    refine q_nm (fun z17 ez17 => ?_)
    refine q_any (fun z18 bz18 => ?_)
    refine q_i2l hx hb dX1_withShifts_28 (by omega) ?_
    refine q_ladd hx hb dX1_withShifts_29 ?_
    refine q_nml (fun z19 ez19 => ?_)
    refine lv_lstore (lv' := [(5, .long (lL z19)), (4, .int (iI z16)), (0, .ref (u 0)), (1, .long (lL s0)), (3, .int (iI a))]) hx hb dX1_withShifts_30 hl (by decide) rfl (fun ls hl => ?_)
    refine lv_lload hx hb dX1_withShifts_32 (lv_at hl 0 rfl) ?_
    refine q_ldc2 (n := 31) hx hb hown (hts _ k167) (by decide) dX1_withShifts_34 ?_
    refine q_lmul hx hb dX1_withShifts_37 ?_
    refine lv_aload_n hx hb dX1_withShifts_38 rfl (lv_at hl 2 rfl) ?_
    refine lv_iload_n hx hb dX1_withShifts_39 rfl (lv_at hl 4 rfl) ?_
    refine q_con hx hb dX1_withShifts_40 ?_
    have hcw := hw
    refine c_HV (As := [.int (iI a), .int (iI (-1))]) (rest := [.long (lL (z19 * 31))]) (b := u 0) (C := RX1) fx hl (ok_loss θ l hl0 S0 _ u _ _ _ _ _ _ _ hcw a (-1) (by omega) (by omega) (by omega) (by omega)) (ob_recv hK ho rfl) dX1_withShifts_41 k636 k637 k638 k1 k639 hd_X1_loss rfl ⟨by decide, by decide⟩ (Nat.le_of_ble_eq_true rfl) ⟨by dsimp only; omega, by dsimp only; omega⟩ ?_
    refine q_nm (fun z20 ez20 => ?_)
    refine q_any (fun z21 bz21 => ?_)
    refine q_i2l hx hb dX1_withShifts_44 (by omega) ?_
    refine q_ladd hx hb dX1_withShifts_45 ?_
    refine q_nml (fun z22 ez22 => ?_)
    refine lv_lstore (lv' := [(5, .long (lL z22)), (4, .int (iI z16)), (0, .ref (u 0)), (1, .long (lL s0)), (3, .int (iI a))]) hx hb dX1_withShifts_46 hl (by decide) rfl (fun ls hl => ?_)
    refine lv_lload hx hb dX1_withShifts_48 (lv_at hl 0 rfl) ?_
    refine q_ldc2 (n := 31) hx hb hown (hts _ k167) (by decide) dX1_withShifts_50 ?_
    refine q_lmul hx hb dX1_withShifts_53 ?_
    refine lv_aload_n hx hb dX1_withShifts_54 rfl (lv_at hl 2 rfl) ?_
    refine lv_iload_n hx hb dX1_withShifts_55 rfl (lv_at hl 4 rfl) ?_
    refine q_con hx hb dX1_withShifts_56 ?_
    refine q_bip hx hb dX1_withShifts_57 (by decide) ?_
    have hcw := hw
    refine c_HV (As := [.int (iI a), .int (iI 1), .int (iI 30)]) (rest := [.long (lL (z22 * 31))]) (b := u 0) (C := RX1) fx hl (ok_gap θ l hl0 S0 _ u _ _ _ _ _ _ _ hcw a 1 30 (by omega) (by omega) (by omega) (by omega) (by omega) (by omega)) (ob_recv hK ho rfl) dX1_withShifts_59 k648 k649 k650 k1 k651 hd_X1_gap rfl ⟨by decide, by decide⟩ (Nat.le_of_ble_eq_true rfl) ⟨by dsimp only; omega, by dsimp only; omega⟩ ?_
    refine q_nm (fun z23 ez23 => ?_)
    refine q_any (fun z24 bz24 => ?_)
    refine q_i2l hx hb dX1_withShifts_62 (by omega) ?_
    refine q_ladd hx hb dX1_withShifts_63 ?_
    refine q_nml (fun z25 ez25 => ?_)
    refine lv_lstore (lv' := [(5, .long (lL z25)), (4, .int (iI z16)), (0, .ref (u 0)), (1, .long (lL s0)), (3, .int (iI a))]) hx hb dX1_withShifts_64 hl (by decide) rfl (fun ls hl => ?_)
    refine lv_lload hx hb dX1_withShifts_66 (lv_at hl 0 rfl) ?_
    refine q_ldc2 (n := 31) hx hb hown (hts _ k167) (by decide) dX1_withShifts_68 ?_
    refine q_lmul hx hb dX1_withShifts_71 ?_
    refine lv_aload_n hx hb dX1_withShifts_72 rfl (lv_at hl 2 rfl) ?_
    refine lv_iload_n hx hb dX1_withShifts_73 rfl (lv_at hl 4 rfl) ?_
    refine lv_iload hx hb dX1_withShifts_74 (lv_at hl 1 rfl) ?_
    have hcw := hw
    refine c_HV (As := [.int (iI a), .int (iI z16)]) (rest := [.long (lL (z25 * 31))]) (b := u 0) (C := RX1) fx hl (ok_compare θ l hl0 S0 _ u _ _ _ _ _ _ _ hcw a z16 (by omega) (by omega) (by omega) (by omega)) (ob_recv hK ho rfl) dX1_withShifts_76 k658 k659 k660 k1 k661 hd_X1_compare rfl ⟨by decide, by decide⟩ (Nat.le_of_ble_eq_true rfl) ⟨by dsimp only; omega, by dsimp only; omega⟩ ?_
    refine q_nm (fun z26 ez26 => ?_)
    refine q_any (fun z27 bz27 => ?_)
    refine q_i2l hx hb dX1_withShifts_79 (by omega) ?_
    refine q_ladd hx hb dX1_withShifts_80 ?_
    refine q_nml (fun z28 ez28 => ?_)
    refine lv_lstore (lv' := [(5, .long (lL z28)), (4, .int (iI z16)), (0, .ref (u 0)), (1, .long (lL s0)), (3, .int (iI a))]) hx hb dX1_withShifts_81 hl (by decide) rfl (fun ls hl => ?_)
    refine lv_lload hx hb dX1_withShifts_83 (lv_at hl 0 rfl) ?_
    refine q_ldc2 (n := 31) hx hb hown (hts _ k167) (by decide) dX1_withShifts_85 ?_
    refine q_lmul hx hb dX1_withShifts_88 ?_
    refine lv_aload_n hx hb dX1_withShifts_89 rfl (lv_at hl 2 rfl) ?_
    refine lv_iload_n hx hb dX1_withShifts_90 rfl (lv_at hl 4 rfl) ?_
    refine lv_iload hx hb dX1_withShifts_91 (lv_at hl 1 rfl) ?_
    have hcw := hw
    refine c_HV (As := [.int (iI a), .int (iI z16)]) (rest := [.long (lL (z28 * 31))]) (b := u 0) (C := RX1) fx hl (ok_wholeMonths θ l hl0 S0 _ u _ _ _ _ _ _ _ hcw a z16 (by omega) (by omega) (by omega) (by omega)) (ob_recv hK ho rfl) dX1_withShifts_93 k662 k663 k664 k1 k665 hd_X1_wholeMonths rfl ⟨by decide, by decide⟩ (Nat.le_of_ble_eq_true rfl) ⟨by dsimp only; omega, by dsimp only; omega⟩ ?_
    refine q_nm (fun z29 ez29 => ?_)
    refine q_any (fun z30 bz30 => ?_)
    refine q_i2l hx hb dX1_withShifts_96 (by omega) ?_
    refine q_ladd hx hb dX1_withShifts_97 ?_
    exact e_l hx hb hr hlk hS dX1_withShifts_98 (Nat.le_refl _) (Nat.le_refl _) ⟨⟨_, rfl⟩, rfl⟩

set_option maxHeartbeats 4000000 in
set_option maxRecDepth 100000 in
theorem ok_withDate (θ : TH) (l : Launch) (hl0 : l.stackTraces = false) (S0 : State) (H : Heap) (u : Nat → Nat) (dt sy sm sd : Nat → Int) (bc rf kn : Int) (hw : CWR θ S0 u H dt sy sm sd bc rf kn) (hj : SJ θ S0 H) (s0 a : Int) (h_0 : 0 ≤ a ∧ a < 6) : CT l yX1_withDate cX1_withDate 6 (some .long) 7 195 2 20 [.ref (u 0), .long (lL s0), .int (iI a)] S0 H (fun v9 H1 => (∃ z : Int, v9 = some (.long (lL z))) ∧ CW θ u H1 dt sy sm sd bc rf kn) (fun _ _ => False) (fun x : Nat => x = u 5 ∨ x = u 6 ∨ H.size ≤ x) := by
  refine ct_of (by decide +kernel) (Nat.le_of_ble_eq_true rfl) ?_
  intro pg en s mi args below meth co ls fx hs hr hlk hxt hin hl
  subst hs
  obtain ⟨hx, hb, hml, hown, hts⟩ := id fx.1
  have hS : va_S (fun x : Nat => x = u 5 ∨ x = u 6 ∨ s.heap.size ≤ x) s.heap s.heap [] := va_S.rf
  obtain ⟨hz, hu, ⟨ho, ha1, ha2, ha3, ha4, hsb9⟩, hd, hsp⟩ := id hw
  obtain ⟨cnt0, hsb⟩ := hsb9
  have hnA0 : ¬ (fun x : Nat => x = u 5 ∨ x = u 6 ∨ s.heap.size ≤ x) (u 0) := fun hx => hx.elim (fun z => absurd (hu.1 0 5 (by decide) (by decide) z) (by decide)) (fun hx => hx.elim (fun z => absurd (hu.1 0 6 (by decide) (by decide) z) (by decide)) (fun z => Nat.not_le.mpr ho.lt z))
  have hnA1 : ¬ (fun x : Nat => x = u 5 ∨ x = u 6 ∨ s.heap.size ≤ x) (u 1) := fun hx => hx.elim (fun z => absurd (hu.1 1 5 (by decide) (by decide) z) (by decide)) (fun hx => hx.elim (fun z => absurd (hu.1 1 6 (by decide) (by decide) z) (by decide)) (fun z => Nat.not_le.mpr ha1.lt z))
  have hnA2 : ¬ (fun x : Nat => x = u 5 ∨ x = u 6 ∨ s.heap.size ≤ x) (u 2) := fun hx => hx.elim (fun z => absurd (hu.1 2 5 (by decide) (by decide) z) (by decide)) (fun hx => hx.elim (fun z => absurd (hu.1 2 6 (by decide) (by decide) z) (by decide)) (fun z => Nat.not_le.mpr ha2.lt z))
  have hnA3 : ¬ (fun x : Nat => x = u 5 ∨ x = u 6 ∨ s.heap.size ≤ x) (u 3) := fun hx => hx.elim (fun z => absurd (hu.1 3 5 (by decide) (by decide) z) (by decide)) (fun hx => hx.elim (fun z => absurd (hu.1 3 6 (by decide) (by decide) z) (by decide)) (fun z => Nat.not_le.mpr ha3.lt z))
  have hnA4 : ¬ (fun x : Nat => x = u 5 ∨ x = u 6 ∨ s.heap.size ≤ x) (u 4) := fun hx => hx.elim (fun z => absurd (hu.1 4 5 (by decide) (by decide) z) (by decide)) (fun hx => hx.elim (fun z => absurd (hu.1 4 6 (by decide) (by decide) z) (by decide)) (fun z => Nat.not_le.mpr ha4.lt z))
  have hu9 : Hid (u 0 ≠ u 5 ∧ u 0 ≠ u 6 ∧ u 5 ≠ u 6) := Hid.mk ⟨fun z => absurd (hu.1 0 5 (by decide) (by decide) z) (by decide), fun z => absurd (hu.1 0 6 (by decide) (by decide) z) (by decide), fun z => absurd (hu.1 5 6 (by decide) (by decide) z) (by decide)⟩
  have hu56 := hu9.out.2.2
  have hu5 := hu.2 5 (by decide)
  have hu6 := hu.2 6 (by decide)
  have hz2 := hz.2.1
  have hAB : ∀ x : Nat, (fun x : Nat => x = u 5 ∨ x = u 6 ∨ s.heap.size ≤ x) x → θ.2.2.2 ≤ x := fun x hx => by (try dsimp only at hx); omega
  have hz0 := hz
  have hj0 := hj
  have hK := sz_K fx.2 hz
  have lsb := hsb.lt
  refine lv_lload_n hx hb dX1_withDate_0 rfl (lv_at hl 1 rfl) ?_
  refine q_ldc2 (n := 31) hx hb hown (hts _ k167) (by decide) dX1_withDate_1 ?_
  refine q_lmul hx hb dX1_withDate_4 ?_
  refine lv_aload_n hx hb dX1_withDate_5 rfl (lv_at hl 0 rfl) ?_
  refine lv_iload_n hx hb dX1_withDate_6 rfl (lv_at hl 2 rfl) ?_
  have hcw := hw
  refine c_HV (As := [.int (iI a)]) (rest := [.long (lL (s0 * 31))]) (b := u 0) (C := RX1) fx hl (ok_number θ l hl0 S0 _ u _ _ _ _ _ _ _ hcw a (by omega) (by omega)) (ob_recv hK ho rfl) dX1_withDate_7 k256 k257 k258 k1 k259 hd_X1_number rfl ⟨by decide, by decide⟩ (Nat.le_of_ble_eq_true rfl) ⟨by dsimp only; omega, by dsimp only; omega⟩ ?_
  refine q_any (fun z2 bz2 => ?_)
  refine q_i2l hx hb dX1_withDate_10 (by omega) ?_
  refine q_ladd hx hb dX1_withDate_11 ?_
  refine q_nml (fun z3 ez3 => ?_)
  refine lv_lstore (lv' := [(4, .long (lL z3)), (0, .ref (u 0)), (1, .long (lL s0)), (3, .int (iI a))]) hx hb dX1_withDate_12 hl (by decide) rfl (fun ls hl => ?_)
  refine lv_lload hx hb dX1_withDate_14 (lv_at hl 0 rfl) ?_
  refine q_ldc2 (n := 31) hx hb hown (hts _ k167) (by decide) dX1_withDate_16 ?_
  refine q_lmul hx hb dX1_withDate_19 ?_
  refine lv_aload_n hx hb dX1_withDate_20 rfl (lv_at hl 1 rfl) ?_
  refine lv_iload_n hx hb dX1_withDate_21 rfl (lv_at hl 3 rfl) ?_
  have hcw := hw
  refine c_HV (As := [.int (iI a)]) (rest := [.long (lL (z3 * 31))]) (b := u 0) (C := RX1) fx hl (ok_month θ l hl0 S0 _ u _ _ _ _ _ _ _ hcw a (by omega) (by omega)) (ob_recv hK ho rfl) dX1_withDate_22 k279 k280 k281 k1 k282 hd_X1_month rfl ⟨by decide, by decide⟩ (Nat.le_of_ble_eq_true rfl) ⟨by dsimp only; omega, by dsimp only; omega⟩ ?_
  refine q_any (fun z5 bz5 => ?_)
  refine q_i2l hx hb dX1_withDate_25 (by omega) ?_
  refine q_ladd hx hb dX1_withDate_26 ?_
  refine q_nml (fun z6 ez6 => ?_)
  refine lv_lstore (lv' := [(4, .long (lL z6)), (0, .ref (u 0)), (1, .long (lL s0)), (3, .int (iI a))]) hx hb dX1_withDate_27 hl (by decide) rfl (fun ls hl => ?_)
  refine lv_lload hx hb dX1_withDate_29 (lv_at hl 0 rfl) ?_
  refine q_ldc2 (n := 31) hx hb hown (hts _ k167) (by decide) dX1_withDate_31 ?_
  refine q_lmul hx hb dX1_withDate_34 ?_
  refine lv_aload_n hx hb dX1_withDate_35 rfl (lv_at hl 1 rfl) ?_
  refine lv_iload_n hx hb dX1_withDate_36 rfl (lv_at hl 3 rfl) ?_
  have hcw := hw
  refine c_HV (As := [.int (iI a)]) (rest := [.long (lL (z6 * 31))]) (b := u 0) (C := RX1) fx hl (ok_day θ l hl0 S0 _ u _ _ _ _ _ _ _ hcw a (by omega) (by omega)) (ob_recv hK ho rfl) dX1_withDate_37 k284 k285 k286 k1 k287 hd_X1_day rfl ⟨by decide, by decide⟩ (Nat.le_of_ble_eq_true rfl) ⟨by dsimp only; omega, by dsimp only; omega⟩ ?_
  refine q_any (fun z8 bz8 => ?_)
  refine q_i2l hx hb dX1_withDate_40 (by omega) ?_
  refine q_ladd hx hb dX1_withDate_41 ?_
  refine q_nml (fun z9 ez9 => ?_)
  refine lv_lstore (lv' := [(4, .long (lL z9)), (0, .ref (u 0)), (1, .long (lL s0)), (3, .int (iI a))]) hx hb dX1_withDate_42 hl (by decide) rfl (fun ls hl => ?_)
  refine lv_lload hx hb dX1_withDate_44 (lv_at hl 0 rfl) ?_
  refine q_ldc2 (n := 31) hx hb hown (hts _ k167) (by decide) dX1_withDate_46 ?_
  refine q_lmul hx hb dX1_withDate_49 ?_
  refine lv_aload_n hx hb dX1_withDate_50 rfl (lv_at hl 1 rfl) ?_
  refine lv_iload_n hx hb dX1_withDate_51 rfl (lv_at hl 3 rfl) ?_
  have hcw := hw
  refine c_HV (As := [.int (iI a)]) (rest := [.long (lL (z9 * 31))]) (b := u 0) (C := RX1) fx hl (ok_weekday θ l hl0 S0 _ u _ _ _ _ _ _ _ hcw a (by omega) (by omega)) (ob_recv hK ho rfl) dX1_withDate_52 k289 k290 k291 k1 k292 hd_X1_weekday rfl ⟨by decide, by decide⟩ (Nat.le_of_ble_eq_true rfl) ⟨by dsimp only; omega, by dsimp only; omega⟩ ?_
  refine q_any (fun z11 bz11 => ?_)
  refine q_i2l hx hb dX1_withDate_55 (by omega) ?_
  refine q_ladd hx hb dX1_withDate_56 ?_
  refine q_nml (fun z12 ez12 => ?_)
  refine lv_lstore (lv' := [(4, .long (lL z12)), (0, .ref (u 0)), (1, .long (lL s0)), (3, .int (iI a))]) hx hb dX1_withDate_57 hl (by decide) rfl (fun ls hl => ?_)
  refine lv_lload hx hb dX1_withDate_59 (lv_at hl 0 rfl) ?_
  refine q_ldc2 (n := 31) hx hb hown (hts _ k167) (by decide) dX1_withDate_61 ?_
  refine q_lmul hx hb dX1_withDate_64 ?_
  refine lv_aload_n hx hb dX1_withDate_65 rfl (lv_at hl 1 rfl) ?_
  refine lv_iload_n hx hb dX1_withDate_66 rfl (lv_at hl 3 rfl) ?_
  have hcw := hw
  refine c_HV (As := [.int (iI a)]) (rest := [.long (lL (z12 * 31))]) (b := u 0) (C := RX1) fx hl (ok_dayOfYear θ l hl0 S0 _ u _ _ _ _ _ _ _ hcw a (by omega) (by omega)) (ob_recv hK ho rfl) dX1_withDate_67 k296 k297 k298 k1 k299 hd_X1_dayOfYear rfl ⟨by decide, by decide⟩ (Nat.le_of_ble_eq_true rfl) ⟨by dsimp only; omega, by dsimp only; omega⟩ ?_
  refine q_nm (fun z13 ez13 => ?_)
  refine q_any (fun z14 bz14 => ?_)
  refine q_i2l hx hb dX1_withDate_70 (by omega) ?_
  refine q_ladd hx hb dX1_withDate_71 ?_
  refine q_nml (fun z15 ez15 => ?_)
  refine lv_lstore (lv' := [(4, .long (lL z15)), (0, .ref (u 0)), (1, .long (lL s0)), (3, .int (iI a))]) hx hb dX1_withDate_72 hl (by decide) rfl (fun ls hl => ?_)
  refine lv_lload hx hb dX1_withDate_74 (lv_at hl 0 rfl) ?_
  refine q_ldc2 (n := 31) hx hb hown (hts _ k167) (by decide) dX1_withDate_76 ?_
  refine q_lmul hx hb dX1_withDate_79 ?_
  refine lv_aload_n hx hb dX1_withDate_80 rfl (lv_at hl 1 rfl) ?_
  refine lv_iload_n hx hb dX1_withDate_81 rfl (lv_at hl 3 rfl) ?_
  have hcw := hw
  refine c_HV (As := [.int (iI a)]) (rest := [.long (lL (z15 * 31))]) (b := u 0) (C := RX1) fx hl (ok_lengthOfMonth θ l hl0 S0 _ u _ _ _ _ _ _ _ hcw a (by omega) (by omega)) (ob_recv hK ho rfl) dX1_withDate_82 k307 k308 k309 k1 k310 hd_X1_lengthOfMonth rfl ⟨by decide, by decide⟩ (Nat.le_of_ble_eq_true rfl) ⟨by dsimp only; omega, by dsimp only; omega⟩ ?_
  refine q_nm (fun z16 ez16 => ?_)
  refine q_any (fun z17 bz17 => ?_)
  refine q_i2l hx hb dX1_withDate_85 (by omega) ?_
  refine q_ladd hx hb dX1_withDate_86 ?_
  refine q_nml (fun z18 ez18 => ?_)
  refine lv_lstore (lv' := [(4, .long (lL z18)), (0, .ref (u 0)), (1, .long (lL s0)), (3, .int (iI a))]) hx hb dX1_withDate_87 hl (by decide) rfl (fun ls hl => ?_)
  refine lv_lload hx hb dX1_withDate_89 (lv_at hl 0 rfl) ?_
  refine q_ldc2 (n := 31) hx hb hown (hts _ k167) (by decide) dX1_withDate_91 ?_
  refine q_lmul hx hb dX1_withDate_94 ?_
  refine lv_aload_n hx hb dX1_withDate_95 rfl (lv_at hl 1 rfl) ?_
  refine lv_iload_n hx hb dX1_withDate_96 rfl (lv_at hl 3 rfl) ?_
  obtain ⟨r19, hr19⟩ := bex (lpI (mI (dt a.toNat) / 12))
  have hcw := hw
  refine c_HV (As := [.int (iI a)]) (rest := [.long (lL (z18 * 31))]) (b := u 0) (C := RX1) fx hl (ok_isLeapYear θ l hl0 S0 _ u _ _ _ _ _ _ _ hcw a r19 hr19 (by omega) (by omega)) (ob_recv hK ho rfl) dX1_withDate_97 k312 k313 k314 k1 k315 hd_X1_isLeapYear rfl ⟨by decide, by decide⟩ (Nat.le_of_ble_eq_true rfl) ⟨by dsimp only; omega, by dsimp only; omega⟩ ?_
  have br19 : r19 = 0 ∨ r19 = 1 := hr19.elim (fun h => Or.inr h.1) (fun h => Or.inl h.1)
  refine q_ieq (tgt := 107) hx hb dX1_withDate_100 (by decide) (by omega) (fun c20 => ?_) (fun c20 => ?_)
  · refine q_con hx hb dX1_withDate_107 ?_
    refine q_i2l hx hb dX1_withDate_108 (by omega) ?_
    refine q_ladd hx hb dX1_withDate_109 ?_
    refine q_nml (fun z21 ez21 => ?_)
    refine lv_lstore (lv' := [(4, .long (lL z21)), (0, .ref (u 0)), (1, .long (lL s0)), (3, .int (iI a))]) hx hb dX1_withDate_110 hl (by decide) rfl (fun ls hl => ?_)
    refine lv_lload hx hb dX1_withDate_112 (lv_at hl 0 rfl) ?_
    refine q_ldc2 (n := 31) hx hb hown (hts _ k167) (by decide) dX1_withDate_114 ?_
    refine q_lmul hx hb dX1_withDate_117 ?_
    refine lv_aload_n hx hb dX1_withDate_118 rfl (lv_at hl 1 rfl) ?_
    refine lv_iload_n hx hb dX1_withDate_119 rfl (lv_at hl 3 rfl) ?_
    have hcw := hw
    refine c_Vr (As := [.int (iI a)]) (rest := [.long (lL (z21 * 31))]) (b := u 0) (C := RX1) (r := some (.ref s.heap.size)) (st1 := [.ref s.heap.size, .long (lL (z21 * 31))]) fx hl (ok_text θ l hl0 S0 _ u _ _ _ _ _ _ _ hcw hj a (by omega)) (ob_recv hK ho rfl) dX1_withDate_120 k319 k320 k321 k1 k322 hd_X1_text rfl rfl ⟨by decide, by decide⟩ (Nat.le_of_ble_eq_true rfl) ⟨by (try dsimp only); omega, by (try dsimp only); omega⟩ hS (fun x hx => by first | exact hx.elim | ((try dsimp only at hx ⊢); omega)) (fun H22 locs hpH22 hsz0H22 hk0H22 hS => ?_)
    obtain ⟨⟨-, -, -, -, -, cn23, hsbH22⟩, hstH22, hszH22⟩ := hpH22
    have hzH22 := hz0.at hAB hS
    have hjH22 := hj0.at hAB hS
    have ha1H22 := ha1.kept (hS.2.1 _ ha1.lt hnA1)
    have ha2H22 := ha2.kept (hS.2.1 _ ha2.lt hnA2)
    have ha3H22 := ha3.kept (hS.2.1 _ ha3.lt hnA3)
    have ha4H22 := ha4.kept (hS.2.1 _ ha4.lt hnA4)
    have hoH22 := ho.kept (hS.2.1 _ ho.lt hnA0)
    have lsbH22 := hsbH22.lt
    obtain ⟨tnH22, etnH22⟩ : ∃ z : Nat, z = (if mI (dt a.toNat) / 12 < 0 then 11 else 10) := ⟨_, rfl⟩
    have btnH22 : tnH22 ≤ 11 := by rw [etnH22]; split <;> omega
    rw [← etnH22] at hstH22
    clear etnH22
    have lstH22 := hstH22.lt
    refine c_Vr (C := "java/lang/String") (As := []) (rest := [.long (lL (z21 * 31))]) (r := some (.int (iI (tnH22 : Int)))) (st1 := [.int (iI (tnH22 : Int)), .long (lL (z21 * 31))]) fx hl (jm_length θ l S0 _ hzH22 hjH22 s.heap.size (s.heap.size + 1) tnH22 hstH22 (by omega)) (o_recv fx.2 hstH22.1) dX1_withDate_123 k631 k415 k416 k4 k417 hd_J0_length_8abf5 rfl rfl ⟨by decide, by decide⟩ (Nat.le_of_ble_eq_true rfl) ⟨by (try dsimp only); omega, by (try dsimp only); omega⟩ hS (fun x hx => by first | exact hx.elim | ((try dsimp only at hx ⊢); omega)) (fun H24 locs hpH24 hsz0H24 hk0H24 hS => ?_)
    obtain rfl := hpH24.symm
    refine q_nm (fun z25 ez25 => ?_)
    refine q_i2l hx hb dX1_withDate_126 (by omega) ?_
    refine q_ladd hx hb dX1_withDate_127 ?_
    exact e_l hx hb hr hlk hS dX1_withDate_128 (by first | exact Nat.le_of_ble_eq_true rfl | ((try dsimp only); omega)) (by first | exact Nat.le_of_ble_eq_true rfl | ((try dsimp only); omega)) ⟨⟨_, rfl⟩, ⟨hoH22, ha1H22, ha2H22, ha3H22, ha4H22, ⟨_, hsbH22⟩⟩⟩
  · refine q_con hx hb dX1_withDate_103 ?_
    refine lv_goto (tgt := 108) hx hb dX1_withDate_104 (by decide) ?_
    refine q_i2l hx hb dX1_withDate_108 (by omega) ?_
    refine q_ladd hx hb dX1_withDate_109 ?_
    refine q_nml (fun z26 ez26 => ?_)
    refine lv_lstore (lv' := [(4, .long (lL z26)), (0, .ref (u 0)), (1, .long (lL s0)), (3, .int (iI a))]) hx hb dX1_withDate_110 hl (by decide) rfl (fun ls hl => ?_)
    refine lv_lload hx hb dX1_withDate_112 (lv_at hl 0 rfl) ?_
    refine q_ldc2 (n := 31) hx hb hown (hts _ k167) (by decide) dX1_withDate_114 ?_
    refine q_lmul hx hb dX1_withDate_117 ?_
    refine lv_aload_n hx hb dX1_withDate_118 rfl (lv_at hl 1 rfl) ?_
    refine lv_iload_n hx hb dX1_withDate_119 rfl (lv_at hl 3 rfl) ?_
    have hcw := hw
    refine c_Vr (As := [.int (iI a)]) (rest := [.long (lL (z26 * 31))]) (b := u 0) (C := RX1) (r := some (.ref s.heap.size)) (st1 := [.ref s.heap.size, .long (lL (z26 * 31))]) fx hl (ok_text θ l hl0 S0 _ u _ _ _ _ _ _ _ hcw hj a (by omega)) (ob_recv hK ho rfl) dX1_withDate_120 k319 k320 k321 k1 k322 hd_X1_text rfl rfl ⟨by decide, by decide⟩ (Nat.le_of_ble_eq_true rfl) ⟨by (try dsimp only); omega, by (try dsimp only); omega⟩ hS (fun x hx => by first | exact hx.elim | ((try dsimp only at hx ⊢); omega)) (fun H27 locs hpH27 hsz0H27 hk0H27 hS => ?_)
    obtain ⟨⟨-, -, -, -, -, cn28, hsbH27⟩, hstH27, hszH27⟩ := hpH27
    have hzH27 := hz0.at hAB hS
    have hjH27 := hj0.at hAB hS
    have ha1H27 := ha1.kept (hS.2.1 _ ha1.lt hnA1)
    have ha2H27 := ha2.kept (hS.2.1 _ ha2.lt hnA2)
    have ha3H27 := ha3.kept (hS.2.1 _ ha3.lt hnA3)
    have ha4H27 := ha4.kept (hS.2.1 _ ha4.lt hnA4)
    have hoH27 := ho.kept (hS.2.1 _ ho.lt hnA0)
    have lsbH27 := hsbH27.lt
    obtain ⟨tnH27, etnH27⟩ : ∃ z : Nat, z = (if mI (dt a.toNat) / 12 < 0 then 11 else 10) := ⟨_, rfl⟩
    have btnH27 : tnH27 ≤ 11 := by rw [etnH27]; split <;> omega
    rw [← etnH27] at hstH27
    clear etnH27
    have lstH27 := hstH27.lt
    refine c_Vr (C := "java/lang/String") (As := []) (rest := [.long (lL (z26 * 31))]) (r := some (.int (iI (tnH27 : Int)))) (st1 := [.int (iI (tnH27 : Int)), .long (lL (z26 * 31))]) fx hl (jm_length θ l S0 _ hzH27 hjH27 s.heap.size (s.heap.size + 1) tnH27 hstH27 (by omega)) (o_recv fx.2 hstH27.1) dX1_withDate_123 k631 k415 k416 k4 k417 hd_J0_length_8abf5 rfl rfl ⟨by decide, by decide⟩ (Nat.le_of_ble_eq_true rfl) ⟨by (try dsimp only); omega, by (try dsimp only); omega⟩ hS (fun x hx => by first | exact hx.elim | ((try dsimp only at hx ⊢); omega)) (fun H29 locs hpH29 hsz0H29 hk0H29 hS => ?_)
    obtain rfl := hpH29.symm
    refine q_nm (fun z30 ez30 => ?_)
    refine q_i2l hx hb dX1_withDate_126 (by omega) ?_
    refine q_ladd hx hb dX1_withDate_127 ?_
    exact e_l hx hb hr hlk hS dX1_withDate_128 (by first | exact Nat.le_of_ble_eq_true rfl | ((try dsimp only); omega)) (by first | exact Nat.le_of_ble_eq_true rfl | ((try dsimp only); omega)) ⟨⟨_, rfl⟩, ⟨hoH27, ha1H27, ha2H27, ha3H27, ha4H27, ⟨_, hsbH27⟩⟩⟩

set_option maxHeartbeats 4000000 in
set_option maxRecDepth 100000 in
theorem ok_digest (θ : TH) (l : Launch) (hl0 : l.stackTraces = false) (S0 : State) (H : Heap) (u : Nat → Nat) (dt sy sm sd : Nat → Int) (bc rf kn : Int) (hw : CWR θ S0 u H dt sy sm sd bc rf kn) (hj : SJ θ S0 H) : CT l yX1_digest cX1_digest 5 (some .long) 8 220 12 120 [.ref (u 0)] S0 H (fun v9 H1 => (∃ z : Int, v9 = some (.long (lL z))) ∧ CW θ u H1 dt sy sm sd bc rf kn) (fun _ _ => False) (fun x : Nat => x = u 5 ∨ x = u 6 ∨ H.size ≤ x) := by
  refine ct_of (by decide +kernel) (Nat.le_of_ble_eq_true rfl) ?_
  intro pg en s mi args below meth co ls fx hs hr hlk hxt hin hl
  subst hs
  obtain ⟨hx, hb, hml, hown, hts⟩ := id fx.1
  have hS : va_S (fun x : Nat => x = u 5 ∨ x = u 6 ∨ s.heap.size ≤ x) s.heap s.heap [] := va_S.rf
  obtain ⟨hz, hu, ⟨ho, ha1, ha2, ha3, ha4, hsb9⟩, hd, hsp⟩ := id hw
  obtain ⟨cnt0, hsb⟩ := hsb9
  have hnA0 : ¬ (fun x : Nat => x = u 5 ∨ x = u 6 ∨ s.heap.size ≤ x) (u 0) := fun hx => hx.elim (fun z => absurd (hu.1 0 5 (by decide) (by decide) z) (by decide)) (fun hx => hx.elim (fun z => absurd (hu.1 0 6 (by decide) (by decide) z) (by decide)) (fun z => Nat.not_le.mpr ho.lt z))
  have hnA1 : ¬ (fun x : Nat => x = u 5 ∨ x = u 6 ∨ s.heap.size ≤ x) (u 1) := fun hx => hx.elim (fun z => absurd (hu.1 1 5 (by decide) (by decide) z) (by decide)) (fun hx => hx.elim (fun z => absurd (hu.1 1 6 (by decide) (by decide) z) (by decide)) (fun z => Nat.not_le.mpr ha1.lt z))
  have hnA2 : ¬ (fun x : Nat => x = u 5 ∨ x = u 6 ∨ s.heap.size ≤ x) (u 2) := fun hx => hx.elim (fun z => absurd (hu.1 2 5 (by decide) (by decide) z) (by decide)) (fun hx => hx.elim (fun z => absurd (hu.1 2 6 (by decide) (by decide) z) (by decide)) (fun z => Nat.not_le.mpr ha2.lt z))
  have hnA3 : ¬ (fun x : Nat => x = u 5 ∨ x = u 6 ∨ s.heap.size ≤ x) (u 3) := fun hx => hx.elim (fun z => absurd (hu.1 3 5 (by decide) (by decide) z) (by decide)) (fun hx => hx.elim (fun z => absurd (hu.1 3 6 (by decide) (by decide) z) (by decide)) (fun z => Nat.not_le.mpr ha3.lt z))
  have hnA4 : ¬ (fun x : Nat => x = u 5 ∨ x = u 6 ∨ s.heap.size ≤ x) (u 4) := fun hx => hx.elim (fun z => absurd (hu.1 4 5 (by decide) (by decide) z) (by decide)) (fun hx => hx.elim (fun z => absurd (hu.1 4 6 (by decide) (by decide) z) (by decide)) (fun z => Nat.not_le.mpr ha4.lt z))
  have hu9 : Hid (u 0 ≠ u 5 ∧ u 0 ≠ u 6 ∧ u 5 ≠ u 6) := Hid.mk ⟨fun z => absurd (hu.1 0 5 (by decide) (by decide) z) (by decide), fun z => absurd (hu.1 0 6 (by decide) (by decide) z) (by decide), fun z => absurd (hu.1 5 6 (by decide) (by decide) z) (by decide)⟩
  have hu56 := hu9.out.2.2
  have hu5 := hu.2 5 (by decide)
  have hu6 := hu.2 6 (by decide)
  have hz2 := hz.2.1
  have hAB : ∀ x : Nat, (fun x : Nat => x = u 5 ∨ x = u 6 ∨ s.heap.size ≤ x) x → θ.2.2.2 ≤ x := fun x hx => by (try dsimp only at hx); omega
  have hz0 := hz
  have hj0 := hj
  have hK := sz_K fx.2 hz
  have lsb := hsb.lt
  refine q_ldc2 (n := 7843) hx hb hown (hts _ k166) (by decide) dX1_digest_0 ?_
  refine lv_lstore_n (lv' := [(1, .long (lL 7843)), (0, .ref (u 0))]) hx hb dX1_digest_3 rfl hl (by decide) rfl (fun ls hl => ?_)
  refine q_con hx hb dX1_digest_4 ?_
  refine lv_istore_n (lv' := [(3, .int (iI 0)), (1, .long (lL 7843)), (0, .ref (u 0))]) hx hb dX1_digest_5 rfl hl (by decide) rfl (fun ls hl => ?_)
  refine w_loopH (nL := 5) (σ := Int × Int × Int) (fun x => (4 - x.2.1).toNat) (fun x H1 locs1 c9 s9 => ((0 ≤ x.2.1 ∧ x.2.1 ≤ 4)) ∧ SB θ H1 (u 5) (u 6) 16 x.2.2 ∧ va_S (fun x : Nat => x = u 5 ∨ x = u 6 ∨ s.heap.size ≤ x) s.heap H1 locs1 ∧ c9 ≤ 0 ∧ s9 ≤ 0) (fun x => [(1, .long (lL x.1)), (3, .int (iI x.2.1)), (0, .ref (u 0))]) ?_ ((7843 : Int), (0 : Int), (cnt0 : Int)) ⟨(by first | ((try dsimp only); omega) | (dsimp only; done)), hsb, hS, by (try dsimp only); omega, by (try dsimp only); omega⟩ (lv_sub hl [1, 0, 2] rfl)
  intro x H1 locs cells slots hJ6 ih6 ls hl
  obtain ⟨d1, wh, cc⟩ := x
  obtain ⟨hI6, hf0H1, hS, hcH1, hsH1⟩ := hJ6
  (try dsimp only at hI6 hcH1 hsH1 ih6 hl ⊢)
  (try dsimp only at hf0H1)
  have hsgeH1 := hS.1
  have hzH1 := hz0.at hAB hS
  have hjH1 := hj0.at hAB hS
  have ha1H1 := ha1.kept (hS.2.1 _ ha1.lt hnA1)
  have ha2H1 := ha2.kept (hS.2.1 _ ha2.lt hnA2)
  have ha3H1 := ha3.kept (hS.2.1 _ ha3.lt hnA3)
  have ha4H1 := ha4.kept (hS.2.1 _ ha4.lt hnA4)
  have hoH1 := ho.kept (hS.2.1 _ ho.lt hnA0)
  have lhf0H1 := hf0H1.lt
  refine lv_iload_n hx hb dX1_digest_6 rfl (lv_at hl 1 rfl) ?_
  refine q_con hx hb dX1_digest_7 ?_
  refine q_cgt (tgt := 30) hx hb dX1_digest_8 (by decide) (by omega) (by omega) (fun c2 => ?_) (fun c2 => ?_)
  · refine q_con hx hb dX1_digest_30 ?_
    refine lv_istore_n (lv' := [(3, .int (iI 0)), (1, .long (lL d1)), (0, .ref (u 0))]) hx hb dX1_digest_31 rfl hl (by decide) rfl (fun ls hl => ?_)
    refine w_loopH (nL := 5) (σ := Int × Int × Int) (fun x => (6 - x.2.1).toNat) (fun x H1 locs1 c9 s9 => ((0 ≤ x.2.1 ∧ x.2.1 ≤ 6)) ∧ SB θ H1 (u 5) (u 6) 16 x.2.2 ∧ va_S (fun x : Nat => x = u 5 ∨ x = u 6 ∨ s.heap.size ≤ x) s.heap H1 locs1 ∧ c9 ≤ 2 * Int.toNat x.2.1 ∧ s9 ≤ 20 * Int.toNat x.2.1) (fun x => [(1, .long (lL x.1)), (3, .int (iI x.2.1)), (0, .ref (u 0))]) ?_ ((d1 : Int), (0 : Int), (cc : Int)) ⟨(by first | ((try dsimp only); omega) | (dsimp only; done)), hf0H1, hS, by (try dsimp only); omega, by (try dsimp only); omega⟩ (lv_sub hl [1, 0, 2] rfl)
    intro x H3 locs cells slots hJ32 ih32 ls hl
    obtain ⟨d2, pl, cc⟩ := x
    obtain ⟨hI32, hf0H3, hS, hcH3, hsH3⟩ := hJ32
    (try dsimp only at hI32 hcH3 hsH3 ih32 hl ⊢)
    (try dsimp only at hf0H3)
    have hsgeH3 := hS.1
    have hzH3 := hz0.at hAB hS
    have hjH3 := hj0.at hAB hS
    have ha1H3 := ha1.kept (hS.2.1 _ ha1.lt hnA1)
    have ha2H3 := ha2.kept (hS.2.1 _ ha2.lt hnA2)
    have ha3H3 := ha3.kept (hS.2.1 _ ha3.lt hnA3)
    have ha4H3 := ha4.kept (hS.2.1 _ ha4.lt hnA4)
    have hoH3 := ho.kept (hS.2.1 _ ho.lt hnA0)
    have lhf0H3 := hf0H3.lt
    refine lv_iload_n hx hb dX1_digest_32 rfl (lv_at hl 1 rfl) ?_
    refine q_bip hx hb dX1_digest_33 (by decide) ?_
    refine q_cge (tgt := 56) hx hb dX1_digest_35 (by decide) (by omega) (by omega) (fun c4 => ?_) (fun c4 => ?_)
    · refine q_con hx hb dX1_digest_56 ?_
      refine lv_istore_n (lv' := [(3, .int (iI 0)), (1, .long (lL d2)), (0, .ref (u 0))]) hx hb dX1_digest_57 rfl hl (by decide) rfl (fun ls hl => ?_)
      refine w_loopH (nL := 5) (σ := Int × Int × Int) (fun x => (3 - x.2.1).toNat) (fun x H1 locs1 c9 s9 => ((0 ≤ x.2.1 ∧ x.2.1 ≤ 3)) ∧ SB θ H1 (u 5) (u 6) 16 x.2.2 ∧ va_S (fun x : Nat => x = u 5 ∨ x = u 6 ∨ s.heap.size ≤ x) s.heap H1 locs1 ∧ c9 ≤ 12 ∧ s9 ≤ 120) (fun x => [(1, .long (lL x.1)), (3, .int (iI x.2.1)), (0, .ref (u 0))]) ?_ ((d2 : Int), (0 : Int), (cc : Int)) ⟨(by first | ((try dsimp only); omega) | (dsimp only; done)), hf0H3, hS, by (try dsimp only); omega, by (try dsimp only); omega⟩ (lv_sub hl [1, 0, 2] rfl)
      intro x H5 locs cells slots hJ58 ih58 ls hl
      obtain ⟨d3, sp, cc⟩ := x
      obtain ⟨hI58, hf0H5, hS, hcH5, hsH5⟩ := hJ58
      (try dsimp only at hI58 hcH5 hsH5 ih58 hl ⊢)
      (try dsimp only at hf0H5)
      have hsgeH5 := hS.1
      have hzH5 := hz0.at hAB hS
      have hjH5 := hj0.at hAB hS
      have ha1H5 := ha1.kept (hS.2.1 _ ha1.lt hnA1)
      have ha2H5 := ha2.kept (hS.2.1 _ ha2.lt hnA2)
      have ha3H5 := ha3.kept (hS.2.1 _ ha3.lt hnA3)
      have ha4H5 := ha4.kept (hS.2.1 _ ha4.lt hnA4)
      have hoH5 := ho.kept (hS.2.1 _ ho.lt hnA0)
      have lhf0H5 := hf0H5.lt
      refine lv_iload_n hx hb dX1_digest_58 rfl (lv_at hl 1 rfl) ?_
      refine q_con hx hb dX1_digest_59 ?_
      refine q_cge (tgt := 99) hx hb dX1_digest_60 (by decide) (by omega) (by omega) (fun c6 => ?_) (fun c6 => ?_)
      · refine lv_lload_n hx hb dX1_digest_99 rfl (lv_at hl 0 rfl) ?_
        refine q_ldc2 (n := 31) hx hb hown (hts _ k167) (by decide) dX1_digest_100 ?_
        refine q_lmul hx hb dX1_digest_103 ?_
        refine lv_aload_n hx hb dX1_digest_104 rfl (lv_at hl 2 rfl) ?_
        have hcw : CWR θ S0 u H5 dt sy sm sd bc rf kn := ⟨hzH5, hu, ⟨hoH5, ha1H5, ha2H5, ha3H5, ha4H5, ⟨_, hf0H5⟩⟩, hd, hsp⟩
        refine c_HV (As := []) (rest := [.long (lL (d3 * 31))]) (b := u 0) (C := RX1) fx hl (ok_isSound θ l hl0 S0 _ u _ _ _ _ _ _ _ hcw ) (ob_recv hK hoH5 rfl) dX1_digest_105 k679 k103 k104 k1 k105 hd_X1_isSound rfl ⟨by decide, by decide⟩ (Nat.le_of_ble_eq_true rfl) ⟨by dsimp only; omega, by dsimp only; omega⟩ ?_
        refine q_ieq (tgt := 115) hx hb dX1_digest_108 (by decide) (by omega) (fun c8 => ?_) (fun c8 => ?_)
        · exact (show False by omega).elim
        · refine q_con hx hb dX1_digest_111 ?_
          refine lv_goto (tgt := 116) hx hb dX1_digest_112 (by decide) ?_
          refine q_i2l hx hb dX1_digest_116 (by omega) ?_
          refine q_ladd hx hb dX1_digest_117 ?_
          exact e_l hx hb hr hlk hS dX1_digest_118 (by first | exact Nat.le_of_ble_eq_true rfl | ((try dsimp only); omega)) (by first | exact Nat.le_of_ble_eq_true rfl | ((try dsimp only); omega)) ⟨⟨_, rfl⟩, ⟨hoH5, ha1H5, ha2H5, ha3H5, ha4H5, ⟨_, hf0H5⟩⟩⟩
      · refine q_con hx hb dX1_digest_63 ?_
        refine lv_istore (lv' := [(4, .int (iI 0)), (1, .long (lL d3)), (3, .int (iI sp)), (0, .ref (u 0))]) hx hb dX1_digest_64 hl (by decide) rfl (fun ls hl => ?_)
        refine w_loopH (nL := 5) (σ := Int × Int × Int) (fun x => (4 - x.2.1).toNat) (fun x H1 locs1 c9 s9 => ((0 ≤ x.2.1 ∧ x.2.1 ≤ 4)) ∧ SB θ H1 (u 5) (u 6) 16 x.2.2 ∧ va_S (fun x : Nat => x = u 5 ∨ x = u 6 ∨ s.heap.size ≤ x) s.heap H1 locs1 ∧ c9 ≤ 12 ∧ s9 ≤ 120) (fun x => [(1, .long (lL x.1)), (4, .int (iI x.2.1)), (3, .int (iI sp)), (0, .ref (u 0))]) ?_ ((d3 : Int), (0 : Int), (cc : Int)) ⟨(by first | ((try dsimp only); omega) | (dsimp only; done)), hf0H5, hS, by (try dsimp only); omega, by (try dsimp only); omega⟩ (lv_sub hl [1, 0, 2, 3] rfl)
        intro x H9 locs cells slots hJ66 ih66 ls hl
        obtain ⟨d4, wh, cc⟩ := x
        obtain ⟨hI66, hf0H9, hS, hcH9, hsH9⟩ := hJ66
        (try dsimp only at hI66 hcH9 hsH9 ih66 hl ⊢)
        (try dsimp only at hf0H9)
        have hsgeH9 := hS.1
        have hzH9 := hz0.at hAB hS
        have hjH9 := hj0.at hAB hS
        have ha1H9 := ha1.kept (hS.2.1 _ ha1.lt hnA1)
        have ha2H9 := ha2.kept (hS.2.1 _ ha2.lt hnA2)
        have ha3H9 := ha3.kept (hS.2.1 _ ha3.lt hnA3)
        have ha4H9 := ha4.kept (hS.2.1 _ ha4.lt hnA4)
        have hoH9 := ho.kept (hS.2.1 _ ho.lt hnA0)
        have lhf0H9 := hf0H9.lt
        refine lv_iload hx hb dX1_digest_66 (lv_at hl 1 rfl) ?_
        refine q_con hx hb dX1_digest_68 ?_
        refine q_cgt (tgt := 93) hx hb dX1_digest_69 (by decide) (by omega) (by omega) (fun c10 => ?_) (fun c10 => ?_)
        · refine lv_iinc (v := iI (sp + 1)) (lv' := [(3, .int (iI (sp + 1))), (1, .long (lL d4)), (4, .int (iI wh)), (0, .ref (u 0))]) hx hb dX1_digest_93 hl (k := 2) rfl (iI_add _ _) (by decide) rfl (fun ls hl => ?_)
          refine lv_goto (tgt := 58) hx hb dX1_digest_96 (by decide) ?_
          exact ih58 ((d4 : Int), (sp + 1 : Int), (cc : Int)) _ _ _ _ _ ⟨(by first | ((try dsimp only); omega) | (dsimp only; done)), hf0H9, hS, by (try dsimp only); omega, by (try dsimp only); omega⟩ (by (try dsimp only); omega) (lv_sub hl [1, 0, 3] rfl)
        · refine lv_lload_n hx hb dX1_digest_72 rfl (lv_at hl 0 rfl) ?_
          refine q_ldc2 (n := 31) hx hb hown (hts _ k167) (by decide) dX1_digest_73 ?_
          refine q_lmul hx hb dX1_digest_76 ?_
          refine lv_aload_n hx hb dX1_digest_77 rfl (lv_at hl 3 rfl) ?_
          refine lv_iload_n hx hb dX1_digest_78 rfl (lv_at hl 2 rfl) ?_
          refine lv_iload hx hb dX1_digest_79 (lv_at hl 1 rfl) ?_
          have hcw : CWR θ S0 u H9 dt sy sm sd bc rf kn := ⟨hzH9, hu, ⟨hoH9, ha1H9, ha2H9, ha3H9, ha4H9, ⟨_, hf0H9⟩⟩, hd, hsp⟩
          refine c_HV (As := [.int (iI sp), .int (iI wh)]) (rest := [.long (lL (d4 * 31))]) (b := u 0) (C := RX1) fx hl (ok_ofSpan θ l hl0 S0 _ u _ _ _ _ _ _ _ hcw sp wh (by omega) (by omega) (by omega) (by omega)) (ob_recv hK hoH9 rfl) dX1_digest_81 k667 k668 k669 k1 k670 hd_X1_ofSpan rfl ⟨by decide, by decide⟩ (Nat.le_of_ble_eq_true rfl) ⟨by dsimp only; omega, by dsimp only; omega⟩ ?_
          refine q_nm (fun z11 ez11 => ?_)
          refine q_any (fun z12 bz12 => ?_)
          refine q_i2l hx hb dX1_digest_84 (by omega) ?_
          refine q_ladd hx hb dX1_digest_85 ?_
          refine q_nml (fun z13 ez13 => ?_)
          refine lv_lstore_n (lv' := [(1, .long (lL z13)), (4, .int (iI wh)), (3, .int (iI sp)), (0, .ref (u 0))]) hx hb dX1_digest_86 rfl hl (by decide) rfl (fun ls hl => ?_)
          refine lv_iinc (v := iI (wh + 1)) (lv' := [(4, .int (iI (wh + 1))), (1, .long (lL z13)), (3, .int (iI sp)), (0, .ref (u 0))]) hx hb dX1_digest_87 hl (k := 1) rfl (iI_add _ _) (by decide) rfl (fun ls hl => ?_)
          refine lv_goto (tgt := 66) hx hb dX1_digest_90 (by decide) ?_
          exact ih66 ((z13 : Int), (wh + 1 : Int), (cc : Int)) _ _ _ _ _ ⟨(by first | ((try dsimp only); omega) | (dsimp only; done)), hf0H9, hS, by (try dsimp only); omega, by (try dsimp only); omega⟩ (by (try dsimp only); omega) (lv_sub hl [1, 0, 2, 3] rfl)
    · refine lv_aload_n hx hb dX1_digest_38 rfl (lv_at hl 2 rfl) ?_
      refine lv_aload_n hx hb dX1_digest_39 rfl (lv_at hl 2 rfl) ?_
      refine lv_lload_n hx hb dX1_digest_40 rfl (lv_at hl 0 rfl) ?_
      refine lv_iload_n hx hb dX1_digest_41 rfl (lv_at hl 1 rfl) ?_
      have hcw : CWR θ S0 u H3 dt sy sm sd bc rf kn := ⟨hzH3, hu, ⟨hoH3, ha1H3, ha2H3, ha3H3, ha4H3, ⟨_, hf0H3⟩⟩, hd, hsp⟩
      refine c_LP (As := [.long (lL d2), .int (iI pl)]) (rest := [.ref (u 0)]) (b := u 0) (C := RX1) fx hl (ok_withDate θ l hl0 S0 _ u _ _ _ _ _ _ _ hcw hjH3 d2 pl (by omega)) (ob_recv hK hoH3 rfl) dX1_digest_42 k252 k254 ks3 k1 k255 hd_X1_withDate rfl ⟨by decide, by decide⟩ (Nat.le_of_ble_eq_true rfl) ⟨by (try dsimp only); omega, by (try dsimp only); omega⟩ hS (fun x hx => by first | exact hx.elim | ((try dsimp only at hx ⊢); omega)) (fun z15 H14 locs hpH14 hsz0H14 hk0H14 hS => ?_)
      obtain ⟨-, -, -, -, -, cn16, hsbH14⟩ := hpH14
      have hzH14 := hz0.at hAB hS
      have hjH14 := hj0.at hAB hS
      have ha1H14 := ha1.kept (hS.2.1 _ ha1.lt hnA1)
      have ha2H14 := ha2.kept (hS.2.1 _ ha2.lt hnA2)
      have ha3H14 := ha3.kept (hS.2.1 _ ha3.lt hnA3)
      have ha4H14 := ha4.kept (hS.2.1 _ ha4.lt hnA4)
      have hoH14 := ho.kept (hS.2.1 _ ho.lt hnA0)
      have lsbH14 := hsbH14.lt
      refine lv_iload_n hx hb dX1_digest_45 rfl (lv_at hl 1 rfl) ?_
      have hcw : CWR θ S0 u H14 dt sy sm sd bc rf kn := ⟨hzH14, hu, ⟨hoH14, ha1H14, ha2H14, ha3H14, ha4H14, ⟨_, hsbH14⟩⟩, hd, hsp⟩
      refine c_LP (As := [.long (lL z15), .int (iI pl)]) (rest := []) (b := u 0) (C := RX1) fx hl (ok_withShifts θ l hl0 S0 _ u _ _ _ _ _ _ _ hcw z15 pl (by omega)) (ob_recv hK hoH14 rfl) dX1_digest_46 k632 k634 ks5 k1 k635 hd_X1_withShifts rfl ⟨by decide, by decide⟩ (Nat.le_of_ble_eq_true rfl) ⟨by (try dsimp only); omega, by (try dsimp only); omega⟩ hS (fun x hx => by first | exact hx.elim | ((try dsimp only at hx ⊢); omega)) (fun z18 H17 locs hpH17 hsz0H17 hk0H17 hS => ?_)
      obtain rfl := hpH17.symm
      refine lv_lstore_n (lv' := [(1, .long (lL z18)), (3, .int (iI pl)), (0, .ref (u 0))]) hx hb dX1_digest_49 rfl hl (by decide) rfl (fun ls hl => ?_)
      refine lv_iinc (v := iI (pl + 1)) (lv' := [(3, .int (iI (pl + 1))), (1, .long (lL z18)), (0, .ref (u 0))]) hx hb dX1_digest_50 hl (k := 1) rfl (iI_add _ _) (by decide) rfl (fun ls hl => ?_)
      refine lv_goto (tgt := 32) hx hb dX1_digest_53 (by decide) ?_
      exact ih32 ((z18 : Int), (pl + 1 : Int), (cn16 : Int)) _ _ _ _ _ ⟨(by first | ((try dsimp only); omega) | (dsimp only; done)), hsbH14, hS, by (try dsimp only); omega, by (try dsimp only); omega⟩ (by (try dsimp only); omega) (lv_sub hl [1, 0, 2] rfl)
  · refine lv_lload_n hx hb dX1_digest_11 rfl (lv_at hl 0 rfl) ?_
    refine q_ldc2 (n := 31) hx hb hown (hts _ k167) (by decide) dX1_digest_12 ?_
    refine q_lmul hx hb dX1_digest_15 ?_
    refine lv_aload_n hx hb dX1_digest_16 rfl (lv_at hl 2 rfl) ?_
    refine lv_iload_n hx hb dX1_digest_17 rfl (lv_at hl 1 rfl) ?_
    have hcw : CWR θ S0 u H1 dt sy sm sd bc rf kn := ⟨hzH1, hu, ⟨hoH1, ha1H1, ha2H1, ha3H1, ha4H1, ⟨_, hf0H1⟩⟩, hd, hsp⟩
    refine c_HA (As := [.int (iI wh)]) (rest := [.long (lL (d1 * 31))]) (b := u 0) (C := RX1) fx hl (ok_house θ l hl0 S0 _ u _ _ _ _ _ _ _ hcw wh (by omega) (by omega)) (ob_recv hK hoH1 rfl) dX1_digest_18 k168 k169 k170 k1 k171 hd_X1_house rfl ⟨by decide, by decide⟩ (Nat.le_of_ble_eq_true rfl) ⟨by dsimp only; omega, by dsimp only; omega⟩ (fun z19 => ?_)
    refine q_any (fun z20 bz20 => ?_)
    refine q_i2l hx hb dX1_digest_21 (by omega) ?_
    refine q_ladd hx hb dX1_digest_22 ?_
    refine q_nml (fun z21 ez21 => ?_)
    refine lv_lstore_n (lv' := [(1, .long (lL z21)), (3, .int (iI wh)), (0, .ref (u 0))]) hx hb dX1_digest_23 rfl hl (by decide) rfl (fun ls hl => ?_)
    refine lv_iinc (v := iI (wh + 1)) (lv' := [(3, .int (iI (wh + 1))), (1, .long (lL z21)), (0, .ref (u 0))]) hx hb dX1_digest_24 hl (k := 1) rfl (iI_add _ _) (by decide) rfl (fun ls hl => ?_)
    refine lv_goto (tgt := 6) hx hb dX1_digest_27 (by decide) ?_
    exact ih6 ((z21 : Int), (wh + 1 : Int), (cc : Int)) _ _ _ _ _ ⟨(by first | ((try dsimp only); omega) | (dsimp only; done)), hf0H1, hS, by (try dsimp only); omega, by (try dsimp only); omega⟩ (by (try dsimp only); omega) (lv_sub hl [1, 0, 2] rfl)
