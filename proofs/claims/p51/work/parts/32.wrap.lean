set_option maxHeartbeats 4000000 in
set_option maxRecDepth 100000 in
theorem wr_anniversaries (θ : TH) (l : Launch) (hl0 : l.stackTraces = false) (S0 : State) (H : Heap) (u : Nat → Nat) (dt sy sm sd : Nat → Int) (bc rf kn : Int) (hw : CWR θ S0 u H dt sy sm sd bc rf kn) (hj : SJ θ S0 H) (hn : NX S0) (o : Nat) (nv : Int) (sv9 : Value) (ho : OB θ H o 8 [.long (lL nv), sv9]) (hod : ∀ i : Nat, i < 7 → o ≠ u i) (a b q : Int) (h_0 : -2147483648 ≤ a ∧ a < 2147483648) (h_1 : -2147483648 ≤ b ∧ b < 2147483648) (h_2 : -2147483648 ≤ q ∧ q < 2147483648) (h_3 : q = 0 ∨ q = 1) (h_4 : 0 ≤ a ∧ a < 6) (h_5 : 0 ≤ b ∧ b < 6) (h_6 : ¬ (dt b.toNat < dt a.toNat ∨ 40000 < dt b.toNat - dt a.toNat)) : CTW l yL_anniversaries cL_anniversaries 6 (some .int) [((0 : Nat), (13 : Nat), (16 : Nat), (19 : Nat))] 8 183 0 0 [.ref (u 0), .int (iI a), .int (iI b), .int (iI q), .ref o] S0 H (fun v9 H1 => v9 = some (.int (iI 0)) ∧ CW θ u H1 dt sy sm sd bc rf kn ∧ OB θ H1 o 8 [.long (lL (iI (unI (dt a.toNat) (dt b.toNat) q)).toInt), sv9]) (fun x : Nat => UA u H.size x ∨ x = o) := by
  refine ctw_of (by decide +kernel) (Nat.le_of_ble_eq_true rfl) ?_
  intro pg en s mi args below meth co ls fx hs hr hlk htab hl
  subst hs
  obtain ⟨hx, hb, hml, hown, hts⟩ := id fx.1
  have hS : va_S (fun x : Nat => UA u s.heap.size x ∨ x = o) s.heap s.heap [] := va_S.rf
  obtain ⟨hz, hu, hcw, hd, hsp⟩ := id hw
  have hK := sz_K fx.2 hz
  refine lv_aload hx hb dL_anniversaries_0 (lv_at hl 4 rfl) ?_
  refine lv_aload_n hx hb dL_anniversaries_2 rfl (lv_at hl 0 rfl) ?_
  refine lv_iload_n hx hb dL_anniversaries_3 rfl (lv_at hl 1 rfl) ?_
  refine lv_iload_n hx hb dL_anniversaries_4 rfl (lv_at hl 2 rfl) ?_
  refine lv_iload_n hx hb dL_anniversaries_5 rfl (lv_at hl 3 rfl) ?_
  refine c_Vr (As := [.int (iI a), .int (iI b), .int (iI q)]) (rest := [.ref o]) (b := u 0) (C := RX1) (r := some (.int (iI (unI (dt a.toNat) (dt b.toNat) q)))) (st1 := [.int (iI (unI (dt a.toNat) (dt b.toNat) q)), .ref o]) fx hl (ok_anniversaries θ l hl0 S0 _ u _ _ _ _ _ _ _ hw a b q h_0 h_1 h_2 h_3 h_4 h_5 h_6) (ob_recv hK hcw.1 rfl) dL_anniversaries_6 k974 k975 k976 k1 k977 hd_X1_anniversaries rfl rfl ⟨by decide, by decide⟩ (Nat.le_of_ble_eq_true rfl) ⟨by (try dsimp only); omega, by (try dsimp only); omega⟩ hS (fun x h => Or.inl h) (fun H1 locs hpH1 hszH1 hk0H1 hS => ?_)
  have hoH1 := ho.kept (hk0H1 _ ho.lt (fun h => h.elim (fun ⟨i, hi, e⟩ => hod i hi e) (fun h => Nat.not_le.mpr ho.lt h)))
  have hcwH1 := hpH1
  refine q_i2lx hx hb dL_anniversaries_9 ?_
  refine r_putN (θ := θ) (C := RX2) (T := TX2) (N := 2) (ci := 8) (v := .long (lL ((iI (unI (dt a.toNat) (dt b.toNat) q)).toInt))) (ty := .long) hx hb hts gwX2 tyX2 tyX2_ok nmX2 hown hK hoH1 (Or.inr rfl) hS rfl 0 (by decide) (va_Nw.use rfl (va_Nw.warmF fx.2 hn.2.1)) (fun _ h => h) rfl (by decide +kernel) rfl rfl (Nat.le_of_ble_eq_true rfl) dL_anniversaries_10 (fun H2 locs hqH2 hszH2 hkH2 hS => ?_)
  have hoH2 : OB θ H2 o 8 [.long (lL ((iI (unI (dt a.toNat) (dt b.toNat) q)).toInt)), sv9] := hqH2
  have hcwH2 := hcwH1.kept (fun i hi => hkH2 _ (Ne.symm (hod i hi)))
  refine lv_goto (tgt := 20) hx hb dL_anniversaries_13 (by decide) ?_
  refine q_con hx hb dL_anniversaries_20 ?_
  exact e_i hx hb hr hlk hS dL_anniversaries_21 (by first | exact Nat.le_of_ble_eq_true rfl | ((try dsimp only); omega)) (by first | exact Nat.le_of_ble_eq_true rfl | ((try dsimp only); omega)) ⟨rfl, hcwH2, hoH2⟩

set_option maxHeartbeats 4000000 in
set_option maxRecDepth 100000 in
theorem wr_anniversaries_r (θ : TH) (l : Launch) (hl0 : l.stackTraces = false) (S0 : State) (H : Heap) (u : Nat → Nat) (dt sy sm sd : Nat → Int) (bc rf kn : Int) (hw : CWR θ S0 u H dt sy sm sd bc rf kn) (hj : SJ θ S0 H) (hn : NX S0) (o : Nat) (nv : Int) (sv9 : Value) (ho : OB θ H o 8 [.long (lL nv), sv9]) (hod : ∀ i : Nat, i < 7 → o ≠ u i) (a b q : Int) (h_0 : -2147483648 ≤ a ∧ a < 2147483648) (h_1 : -2147483648 ≤ b ∧ b < 2147483648) (h_2 : -2147483648 ≤ q ∧ q < 2147483648) (h_3 : q = 0 ∨ q = 1) (h_4 : 0 ≤ a ∧ a < 6) (h_5 : 0 ≤ b ∧ b < 6) (h_6 : dt b.toNat < dt a.toNat ∨ 40000 < dt b.toNat - dt a.toNat) : CTW l yL_anniversaries cL_anniversaries 6 (some .int) [((0 : Nat), (13 : Nat), (16 : Nat), (19 : Nat))] 8 183 0 0 [.ref (u 0), .int (iI a), .int (iI b), .int (iI q), .ref o] S0 H (fun v9 H1 => v9 = some (.int (iI 0)) ∧ CW θ u H1 dt sy sm sd bc (rf + 1) kn ∧ OB θ H1 o 8 [.long (lL (iI (-9)).toInt), sv9]) (fun x : Nat => UA u H.size x ∨ x = o) := by
  refine ctw_of (by decide +kernel) (Nat.le_of_ble_eq_true rfl) ?_
  intro pg en s mi args below meth co ls fx hs hr hlk htab hl
  subst hs
  obtain ⟨hx, hb, hml, hown, hts⟩ := id fx.1
  have hS : va_S (fun x : Nat => UA u s.heap.size x ∨ x = o) s.heap s.heap [] := va_S.rf
  obtain ⟨hz, hu, hcw, hd, hsp⟩ := id hw
  have hK := sz_K fx.2 hz
  refine lv_aload hx hb dL_anniversaries_0 (lv_at hl 4 rfl) ?_
  refine lv_aload_n hx hb dL_anniversaries_2 rfl (lv_at hl 0 rfl) ?_
  refine lv_iload_n hx hb dL_anniversaries_3 rfl (lv_at hl 1 rfl) ?_
  refine lv_iload_n hx hb dL_anniversaries_4 rfl (lv_at hl 2 rfl) ?_
  refine lv_iload_n hx hb dL_anniversaries_5 rfl (lv_at hl 3 rfl) ?_
  refine c_Vr (As := [.int (iI a), .int (iI b), .int (iI q)]) (rest := [.ref o]) (b := u 0) (C := RX1) (r := some (.int (iI (-9)))) (st1 := [.int (iI (-9)), .ref o]) fx hl (ok_anniversaries_r θ l hl0 S0 _ u _ _ _ _ _ _ _ hw a b q h_0 h_1 h_2 h_3 h_4 h_5 h_6) (ob_recv hK hcw.1 rfl) dL_anniversaries_6 k974 k975 k976 k1 k977 hd_X1_anniversaries rfl rfl ⟨by decide, by decide⟩ (Nat.le_of_ble_eq_true rfl) ⟨by (try dsimp only); omega, by (try dsimp only); omega⟩ hS (fun x h => Or.inl h) (fun H1 locs hpH1 hszH1 hk0H1 hS => ?_)
  have hoH1 := ho.kept (hk0H1 _ ho.lt (fun h => h.elim (fun ⟨i, hi, e⟩ => hod i hi e) (fun h => Nat.not_le.mpr ho.lt h)))
  have hcwH1 := hpH1
  refine q_i2lx hx hb dL_anniversaries_9 ?_
  refine r_putN (θ := θ) (C := RX2) (T := TX2) (N := 2) (ci := 8) (v := .long (lL ((iI (-9)).toInt))) (ty := .long) hx hb hts gwX2 tyX2 tyX2_ok nmX2 hown hK hoH1 (Or.inr rfl) hS rfl 0 (by decide) (va_Nw.use rfl (va_Nw.warmF fx.2 hn.2.1)) (fun _ h => h) rfl (by decide +kernel) rfl rfl (Nat.le_of_ble_eq_true rfl) dL_anniversaries_10 (fun H2 locs hqH2 hszH2 hkH2 hS => ?_)
  have hoH2 : OB θ H2 o 8 [.long (lL ((iI (-9)).toInt)), sv9] := hqH2
  have hcwH2 := hcwH1.kept (fun i hi => hkH2 _ (Ne.symm (hod i hi)))
  refine lv_goto (tgt := 20) hx hb dL_anniversaries_13 (by decide) ?_
  refine q_con hx hb dL_anniversaries_20 ?_
  exact e_i hx hb hr hlk hS dL_anniversaries_21 (by first | exact Nat.le_of_ble_eq_true rfl | ((try dsimp only); omega)) (by first | exact Nat.le_of_ble_eq_true rfl | ((try dsimp only); omega)) ⟨rfl, hcwH2, hoH2⟩

set_option maxHeartbeats 4000000 in
set_option maxRecDepth 100000 in
theorem wn1_anniversaries (θ : TH) (l : Launch) (hl0 : l.stackTraces = false) (S0 : State) (H : Heap) (u : Nat → Nat) (dt sy sm sd : Nat → Int) (bc rf kn : Int) (hw : CWR θ S0 u H dt sy sm sd bc rf kn) (hj : SJ θ S0 H) (hn : NX S0) (o : Nat) (nv : Int) (sv9 : Value) (ho : OB θ H o 8 [.long (lL nv), sv9]) (hod : ∀ i : Nat, i < 7 → o ≠ u i) (a b q : Int) (h_0 : -2147483648 ≤ a ∧ a < 2147483648) (h_1 : -2147483648 ≤ b ∧ b < 2147483648) (h_2 : -2147483648 ≤ q ∧ q < 2147483648) (h_3 : q = 0 ∨ q = 1) (h_4 : ¬ (0 ≤ a ∧ a < 6)) : CTW l yL_anniversaries cL_anniversaries 6 (some .int) [((0 : Nat), (13 : Nat), (16 : Nat), (19 : Nat))] 8 133 1 6 [.ref (u 0), .int (iI a), .int (iI b), .int (iI q), .ref o] S0 H (fun v9 H1 => v9 = some (.int (iI 1)) ∧ CW θ u H1 dt sy sm sd bc rf kn ∧ OB θ H1 o 8 [.long (lL nv), sv9]) (fun x : Nat => UA u H.size x ∨ x = o) := by
  refine ctw_of (by decide +kernel) (Nat.le_of_ble_eq_true rfl) ?_
  intro pg en s mi args below meth co ls fx hs hr hlk htab hl
  subst hs
  obtain ⟨hx, hb, hml, hown, hts⟩ := id fx.1
  have hS : va_S (fun x : Nat => UA u s.heap.size x ∨ x = o) s.heap s.heap [] := va_S.rf
  obtain ⟨hz, hu, hcw, hd, hsp⟩ := id hw
  have hK := sz_K fx.2 hz
  refine lv_aload hx hb dL_anniversaries_0 (lv_at hl 4 rfl) ?_
  refine lv_aload_n hx hb dL_anniversaries_2 rfl (lv_at hl 0 rfl) ?_
  refine lv_iload_n hx hb dL_anniversaries_3 rfl (lv_at hl 1 rfl) ?_
  refine lv_iload_n hx hb dL_anniversaries_4 rfl (lv_at hl 2 rfl) ?_
  refine lv_iload_n hx hb dL_anniversaries_5 rfl (lv_at hl 3 rfl) ?_
  refine c_VT (As := [.int (iI a), .int (iI b), .int (iI q)]) (rest := [.ref o]) (b := u 0) (C := RX1) (E := "java/lang/IndexOutOfBoundsException") (name := "java/lang/IndexOutOfBoundsException") (k := 0) (a0 := 0) (a1 := 13) (hpc := 16) (ct := 19) fx hl (no1_anniversaries θ l hl0 S0 _ u _ _ _ _ _ _ _ hw a b q h_0 h_1 h_2 h_3 h_4) (ob_recv hK hcw.1 rfl) dL_anniversaries_6 k974 k975 k976 k1 k977 hd_X1_anniversaries rfl ⟨by decide, by decide⟩ (Nat.le_of_ble_eq_true rfl) ⟨by (try dsimp only); omega, by (try dsimp only); omega⟩ hS (fun x h => Or.inl (Or.inr h)) htab rfl ⟨by decide, by decide⟩ (by decide) k696 (nw_at (args := args) fx.2 hz.2.2.2.2.2.2.2.2.1 (by decide +kernel)) (by show ∀ q ∈ ([] : List (Nat × Nat × Nat × Nat)), _; exact fun q h => absurd h List.not_mem_nil) (fun q2 H1 locs hszH1 hkH1 hS => ?_)
  have hcwH1 := hcw.kept (fun i hi => hkH1 _ (hcw.lt i hi))
  have hoH1 := ho.kept (hkH1 _ ho.lt)
  refine lv_astore (lv' := [(5, .ref q2), (0, .ref (u 0)), (1, .int (iI a)), (2, .int (iI b)), (3, .int (iI q)), (4, .ref o)]) hx hb dL_anniversaries_16 hl (by decide) rfl (fun ls hl => ?_)
  refine q_con hx hb dL_anniversaries_18 ?_
  exact e_i hx hb hr hlk hS dL_anniversaries_19 (by first | exact Nat.le_of_ble_eq_true rfl | ((try dsimp only); omega)) (by first | exact Nat.le_of_ble_eq_true rfl | ((try dsimp only); omega)) ⟨rfl, hcwH1, hoH1⟩

set_option maxHeartbeats 4000000 in
set_option maxRecDepth 100000 in
theorem wn2_anniversaries (θ : TH) (l : Launch) (hl0 : l.stackTraces = false) (S0 : State) (H : Heap) (u : Nat → Nat) (dt sy sm sd : Nat → Int) (bc rf kn : Int) (hw : CWR θ S0 u H dt sy sm sd bc rf kn) (hj : SJ θ S0 H) (hn : NX S0) (o : Nat) (nv : Int) (sv9 : Value) (ho : OB θ H o 8 [.long (lL nv), sv9]) (hod : ∀ i : Nat, i < 7 → o ≠ u i) (a b q : Int) (h_0 : -2147483648 ≤ a ∧ a < 2147483648) (h_1 : -2147483648 ≤ b ∧ b < 2147483648) (h_2 : -2147483648 ≤ q ∧ q < 2147483648) (h_3 : q = 0 ∨ q = 1) (h_4 : 0 ≤ a ∧ a < 6) (h_5 : ¬ (0 ≤ b ∧ b < 6)) : CTW l yL_anniversaries cL_anniversaries 6 (some .int) [((0 : Nat), (13 : Nat), (16 : Nat), (19 : Nat))] 8 133 1 6 [.ref (u 0), .int (iI a), .int (iI b), .int (iI q), .ref o] S0 H (fun v9 H1 => v9 = some (.int (iI 1)) ∧ CW θ u H1 dt sy sm sd bc rf kn ∧ OB θ H1 o 8 [.long (lL nv), sv9]) (fun x : Nat => UA u H.size x ∨ x = o) := by
  refine ctw_of (by decide +kernel) (Nat.le_of_ble_eq_true rfl) ?_
  intro pg en s mi args below meth co ls fx hs hr hlk htab hl
  subst hs
  obtain ⟨hx, hb, hml, hown, hts⟩ := id fx.1
  have hS : va_S (fun x : Nat => UA u s.heap.size x ∨ x = o) s.heap s.heap [] := va_S.rf
  obtain ⟨hz, hu, hcw, hd, hsp⟩ := id hw
  have hK := sz_K fx.2 hz
  refine lv_aload hx hb dL_anniversaries_0 (lv_at hl 4 rfl) ?_
  refine lv_aload_n hx hb dL_anniversaries_2 rfl (lv_at hl 0 rfl) ?_
  refine lv_iload_n hx hb dL_anniversaries_3 rfl (lv_at hl 1 rfl) ?_
  refine lv_iload_n hx hb dL_anniversaries_4 rfl (lv_at hl 2 rfl) ?_
  refine lv_iload_n hx hb dL_anniversaries_5 rfl (lv_at hl 3 rfl) ?_
  refine c_VT (As := [.int (iI a), .int (iI b), .int (iI q)]) (rest := [.ref o]) (b := u 0) (C := RX1) (E := "java/lang/IndexOutOfBoundsException") (name := "java/lang/IndexOutOfBoundsException") (k := 0) (a0 := 0) (a1 := 13) (hpc := 16) (ct := 19) fx hl (no2_anniversaries θ l hl0 S0 _ u _ _ _ _ _ _ _ hw a b q h_0 h_1 h_2 h_3 h_4 h_5) (ob_recv hK hcw.1 rfl) dL_anniversaries_6 k974 k975 k976 k1 k977 hd_X1_anniversaries rfl ⟨by decide, by decide⟩ (Nat.le_of_ble_eq_true rfl) ⟨by (try dsimp only); omega, by (try dsimp only); omega⟩ hS (fun x h => Or.inl (Or.inr h)) htab rfl ⟨by decide, by decide⟩ (by decide) k696 (nw_at (args := args) fx.2 hz.2.2.2.2.2.2.2.2.1 (by decide +kernel)) (by show ∀ q ∈ ([] : List (Nat × Nat × Nat × Nat)), _; exact fun q h => absurd h List.not_mem_nil) (fun q2 H1 locs hszH1 hkH1 hS => ?_)
  have hcwH1 := hcw.kept (fun i hi => hkH1 _ (hcw.lt i hi))
  have hoH1 := ho.kept (hkH1 _ ho.lt)
  refine lv_astore (lv' := [(5, .ref q2), (0, .ref (u 0)), (1, .int (iI a)), (2, .int (iI b)), (3, .int (iI q)), (4, .ref o)]) hx hb dL_anniversaries_16 hl (by decide) rfl (fun ls hl => ?_)
  refine q_con hx hb dL_anniversaries_18 ?_
  exact e_i hx hb hr hlk hS dL_anniversaries_19 (by first | exact Nat.le_of_ble_eq_true rfl | ((try dsimp only); omega)) (by first | exact Nat.le_of_ble_eq_true rfl | ((try dsimp only); omega)) ⟨rfl, hcwH1, hoH1⟩

set_option maxHeartbeats 4000000 in
set_option maxRecDepth 100000 in
theorem wr_toNext (θ : TH) (l : Launch) (hl0 : l.stackTraces = false) (S0 : State) (H : Heap) (u : Nat → Nat) (dt sy sm sd : Nat → Int) (bc rf kn : Int) (hw : CWR θ S0 u H dt sy sm sd bc rf kn) (hj : SJ θ S0 H) (hn : NX S0) (o : Nat) (nv : Int) (sv9 : Value) (ho : OB θ H o 8 [.long (lL nv), sv9]) (hod : ∀ i : Nat, i < 7 → o ≠ u i) (a b q : Int) (h_0 : -2147483648 ≤ a ∧ a < 2147483648) (h_1 : -2147483648 ≤ b ∧ b < 2147483648) (h_2 : -2147483648 ≤ q ∧ q < 2147483648) (h_3 : q = 0 ∨ q = 1) (h_4 : 0 ≤ a ∧ a < 6) (h_5 : 0 ≤ b ∧ b < 6) (h_6 : ¬ (dt b.toNat < dt a.toNat ∨ 40000 < dt b.toNat - dt a.toNat)) : CTW l yL_toNext cL_toNext 6 (some .int) [((0 : Nat), (13 : Nat), (16 : Nat), (19 : Nat))] 8 184 0 0 [.ref (u 0), .int (iI a), .int (iI b), .int (iI q), .ref o] S0 H (fun v9 H1 => v9 = some (.int (iI 0)) ∧ CW θ u H1 dt sy sm sd bc rf kn ∧ OB θ H1 o 8 [.long (lL (iI (anI (dt a.toNat) (unI (dt a.toNat) (dt b.toNat) q + 1) q - dt b.toNat)).toInt), sv9]) (fun x : Nat => UA u H.size x ∨ x = o) := by
  refine ctw_of (by decide +kernel) (Nat.le_of_ble_eq_true rfl) ?_
  intro pg en s mi args below meth co ls fx hs hr hlk htab hl
  subst hs
  obtain ⟨hx, hb, hml, hown, hts⟩ := id fx.1
  have hS : va_S (fun x : Nat => UA u s.heap.size x ∨ x = o) s.heap s.heap [] := va_S.rf
  obtain ⟨hz, hu, hcw, hd, hsp⟩ := id hw
  have hK := sz_K fx.2 hz
  refine lv_aload hx hb dL_toNext_0 (lv_at hl 4 rfl) ?_
  refine lv_aload_n hx hb dL_toNext_2 rfl (lv_at hl 0 rfl) ?_
  refine lv_iload_n hx hb dL_toNext_3 rfl (lv_at hl 1 rfl) ?_
  refine lv_iload_n hx hb dL_toNext_4 rfl (lv_at hl 2 rfl) ?_
  refine lv_iload_n hx hb dL_toNext_5 rfl (lv_at hl 3 rfl) ?_
  refine c_Vr (As := [.int (iI a), .int (iI b), .int (iI q)]) (rest := [.ref o]) (b := u 0) (C := RX1) (r := some (.int (iI (anI (dt a.toNat) (unI (dt a.toNat) (dt b.toNat) q + 1) q - dt b.toNat)))) (st1 := [.int (iI (anI (dt a.toNat) (unI (dt a.toNat) (dt b.toNat) q + 1) q - dt b.toNat)), .ref o]) fx hl (ok_toNext θ l hl0 S0 _ u _ _ _ _ _ _ _ hw a b q h_0 h_1 h_2 h_3 h_4 h_5 h_6) (ob_recv hK hcw.1 rfl) dL_toNext_6 k997 k998 k999 k1 k1000 hd_X1_toNext rfl rfl ⟨by decide, by decide⟩ (Nat.le_of_ble_eq_true rfl) ⟨by (try dsimp only); omega, by (try dsimp only); omega⟩ hS (fun x h => Or.inl h) (fun H1 locs hpH1 hszH1 hk0H1 hS => ?_)
  have hoH1 := ho.kept (hk0H1 _ ho.lt (fun h => h.elim (fun ⟨i, hi, e⟩ => hod i hi e) (fun h => Nat.not_le.mpr ho.lt h)))
  have hcwH1 := hpH1
  refine q_i2lx hx hb dL_toNext_9 ?_
  refine r_putN (θ := θ) (C := RX2) (T := TX2) (N := 2) (ci := 8) (v := .long (lL ((iI (anI (dt a.toNat) (unI (dt a.toNat) (dt b.toNat) q + 1) q - dt b.toNat)).toInt))) (ty := .long) hx hb hts gwX2 tyX2 tyX2_ok nmX2 hown hK hoH1 (Or.inr rfl) hS rfl 0 (by decide) (va_Nw.use rfl (va_Nw.warmF fx.2 hn.2.1)) (fun _ h => h) rfl (by decide +kernel) rfl rfl (Nat.le_of_ble_eq_true rfl) dL_toNext_10 (fun H2 locs hqH2 hszH2 hkH2 hS => ?_)
  have hoH2 : OB θ H2 o 8 [.long (lL ((iI (anI (dt a.toNat) (unI (dt a.toNat) (dt b.toNat) q + 1) q - dt b.toNat)).toInt)), sv9] := hqH2
  have hcwH2 := hcwH1.kept (fun i hi => hkH2 _ (Ne.symm (hod i hi)))
  refine lv_goto (tgt := 20) hx hb dL_toNext_13 (by decide) ?_
  refine q_con hx hb dL_toNext_20 ?_
  exact e_i hx hb hr hlk hS dL_toNext_21 (by first | exact Nat.le_of_ble_eq_true rfl | ((try dsimp only); omega)) (by first | exact Nat.le_of_ble_eq_true rfl | ((try dsimp only); omega)) ⟨rfl, hcwH2, hoH2⟩

set_option maxHeartbeats 4000000 in
set_option maxRecDepth 100000 in
theorem wr_toNext_r (θ : TH) (l : Launch) (hl0 : l.stackTraces = false) (S0 : State) (H : Heap) (u : Nat → Nat) (dt sy sm sd : Nat → Int) (bc rf kn : Int) (hw : CWR θ S0 u H dt sy sm sd bc rf kn) (hj : SJ θ S0 H) (hn : NX S0) (o : Nat) (nv : Int) (sv9 : Value) (ho : OB θ H o 8 [.long (lL nv), sv9]) (hod : ∀ i : Nat, i < 7 → o ≠ u i) (a b q : Int) (h_0 : -2147483648 ≤ a ∧ a < 2147483648) (h_1 : -2147483648 ≤ b ∧ b < 2147483648) (h_2 : -2147483648 ≤ q ∧ q < 2147483648) (h_3 : q = 0 ∨ q = 1) (h_4 : 0 ≤ a ∧ a < 6) (h_5 : 0 ≤ b ∧ b < 6) (h_6 : dt b.toNat < dt a.toNat ∨ 40000 < dt b.toNat - dt a.toNat) : CTW l yL_toNext cL_toNext 6 (some .int) [((0 : Nat), (13 : Nat), (16 : Nat), (19 : Nat))] 8 184 0 0 [.ref (u 0), .int (iI a), .int (iI b), .int (iI q), .ref o] S0 H (fun v9 H1 => v9 = some (.int (iI 0)) ∧ CW θ u H1 dt sy sm sd bc (rf + 1) kn ∧ OB θ H1 o 8 [.long (lL (iI (-9)).toInt), sv9]) (fun x : Nat => UA u H.size x ∨ x = o) := by
  refine ctw_of (by decide +kernel) (Nat.le_of_ble_eq_true rfl) ?_
  intro pg en s mi args below meth co ls fx hs hr hlk htab hl
  subst hs
  obtain ⟨hx, hb, hml, hown, hts⟩ := id fx.1
  have hS : va_S (fun x : Nat => UA u s.heap.size x ∨ x = o) s.heap s.heap [] := va_S.rf
  obtain ⟨hz, hu, hcw, hd, hsp⟩ := id hw
  have hK := sz_K fx.2 hz
  refine lv_aload hx hb dL_toNext_0 (lv_at hl 4 rfl) ?_
  refine lv_aload_n hx hb dL_toNext_2 rfl (lv_at hl 0 rfl) ?_
  refine lv_iload_n hx hb dL_toNext_3 rfl (lv_at hl 1 rfl) ?_
  refine lv_iload_n hx hb dL_toNext_4 rfl (lv_at hl 2 rfl) ?_
  refine lv_iload_n hx hb dL_toNext_5 rfl (lv_at hl 3 rfl) ?_
  refine c_Vr (As := [.int (iI a), .int (iI b), .int (iI q)]) (rest := [.ref o]) (b := u 0) (C := RX1) (r := some (.int (iI (-9)))) (st1 := [.int (iI (-9)), .ref o]) fx hl (ok_toNext_r θ l hl0 S0 _ u _ _ _ _ _ _ _ hw a b q h_0 h_1 h_2 h_3 h_4 h_5 h_6) (ob_recv hK hcw.1 rfl) dL_toNext_6 k997 k998 k999 k1 k1000 hd_X1_toNext rfl rfl ⟨by decide, by decide⟩ (Nat.le_of_ble_eq_true rfl) ⟨by (try dsimp only); omega, by (try dsimp only); omega⟩ hS (fun x h => Or.inl h) (fun H1 locs hpH1 hszH1 hk0H1 hS => ?_)
  have hoH1 := ho.kept (hk0H1 _ ho.lt (fun h => h.elim (fun ⟨i, hi, e⟩ => hod i hi e) (fun h => Nat.not_le.mpr ho.lt h)))
  have hcwH1 := hpH1
  refine q_i2lx hx hb dL_toNext_9 ?_
  refine r_putN (θ := θ) (C := RX2) (T := TX2) (N := 2) (ci := 8) (v := .long (lL ((iI (-9)).toInt))) (ty := .long) hx hb hts gwX2 tyX2 tyX2_ok nmX2 hown hK hoH1 (Or.inr rfl) hS rfl 0 (by decide) (va_Nw.use rfl (va_Nw.warmF fx.2 hn.2.1)) (fun _ h => h) rfl (by decide +kernel) rfl rfl (Nat.le_of_ble_eq_true rfl) dL_toNext_10 (fun H2 locs hqH2 hszH2 hkH2 hS => ?_)
  have hoH2 : OB θ H2 o 8 [.long (lL ((iI (-9)).toInt)), sv9] := hqH2
  have hcwH2 := hcwH1.kept (fun i hi => hkH2 _ (Ne.symm (hod i hi)))
  refine lv_goto (tgt := 20) hx hb dL_toNext_13 (by decide) ?_
  refine q_con hx hb dL_toNext_20 ?_
  exact e_i hx hb hr hlk hS dL_toNext_21 (by first | exact Nat.le_of_ble_eq_true rfl | ((try dsimp only); omega)) (by first | exact Nat.le_of_ble_eq_true rfl | ((try dsimp only); omega)) ⟨rfl, hcwH2, hoH2⟩

set_option maxHeartbeats 4000000 in
set_option maxRecDepth 100000 in
theorem wn1_toNext (θ : TH) (l : Launch) (hl0 : l.stackTraces = false) (S0 : State) (H : Heap) (u : Nat → Nat) (dt sy sm sd : Nat → Int) (bc rf kn : Int) (hw : CWR θ S0 u H dt sy sm sd bc rf kn) (hj : SJ θ S0 H) (hn : NX S0) (o : Nat) (nv : Int) (sv9 : Value) (ho : OB θ H o 8 [.long (lL nv), sv9]) (hod : ∀ i : Nat, i < 7 → o ≠ u i) (a b q : Int) (h_0 : -2147483648 ≤ a ∧ a < 2147483648) (h_1 : -2147483648 ≤ b ∧ b < 2147483648) (h_2 : -2147483648 ≤ q ∧ q < 2147483648) (h_3 : q = 0 ∨ q = 1) (h_4 : ¬ (0 ≤ a ∧ a < 6)) : CTW l yL_toNext cL_toNext 6 (some .int) [((0 : Nat), (13 : Nat), (16 : Nat), (19 : Nat))] 8 134 1 6 [.ref (u 0), .int (iI a), .int (iI b), .int (iI q), .ref o] S0 H (fun v9 H1 => v9 = some (.int (iI 1)) ∧ CW θ u H1 dt sy sm sd bc rf kn ∧ OB θ H1 o 8 [.long (lL nv), sv9]) (fun x : Nat => UA u H.size x ∨ x = o) := by
  refine ctw_of (by decide +kernel) (Nat.le_of_ble_eq_true rfl) ?_
  intro pg en s mi args below meth co ls fx hs hr hlk htab hl
  subst hs
  obtain ⟨hx, hb, hml, hown, hts⟩ := id fx.1
  have hS : va_S (fun x : Nat => UA u s.heap.size x ∨ x = o) s.heap s.heap [] := va_S.rf
  obtain ⟨hz, hu, hcw, hd, hsp⟩ := id hw
  have hK := sz_K fx.2 hz
  refine lv_aload hx hb dL_toNext_0 (lv_at hl 4 rfl) ?_
  refine lv_aload_n hx hb dL_toNext_2 rfl (lv_at hl 0 rfl) ?_
  refine lv_iload_n hx hb dL_toNext_3 rfl (lv_at hl 1 rfl) ?_
  refine lv_iload_n hx hb dL_toNext_4 rfl (lv_at hl 2 rfl) ?_
  refine lv_iload_n hx hb dL_toNext_5 rfl (lv_at hl 3 rfl) ?_
  refine c_VT (As := [.int (iI a), .int (iI b), .int (iI q)]) (rest := [.ref o]) (b := u 0) (C := RX1) (E := "java/lang/IndexOutOfBoundsException") (name := "java/lang/IndexOutOfBoundsException") (k := 0) (a0 := 0) (a1 := 13) (hpc := 16) (ct := 19) fx hl (no1_toNext θ l hl0 S0 _ u _ _ _ _ _ _ _ hw a b q h_0 h_1 h_2 h_3 h_4) (ob_recv hK hcw.1 rfl) dL_toNext_6 k997 k998 k999 k1 k1000 hd_X1_toNext rfl ⟨by decide, by decide⟩ (Nat.le_of_ble_eq_true rfl) ⟨by (try dsimp only); omega, by (try dsimp only); omega⟩ hS (fun x h => Or.inl (Or.inr h)) htab rfl ⟨by decide, by decide⟩ (by decide) k696 (nw_at (args := args) fx.2 hz.2.2.2.2.2.2.2.2.1 (by decide +kernel)) (by show ∀ q ∈ ([] : List (Nat × Nat × Nat × Nat)), _; exact fun q h => absurd h List.not_mem_nil) (fun q2 H1 locs hszH1 hkH1 hS => ?_)
  have hcwH1 := hcw.kept (fun i hi => hkH1 _ (hcw.lt i hi))
  have hoH1 := ho.kept (hkH1 _ ho.lt)
  refine lv_astore (lv' := [(5, .ref q2), (0, .ref (u 0)), (1, .int (iI a)), (2, .int (iI b)), (3, .int (iI q)), (4, .ref o)]) hx hb dL_toNext_16 hl (by decide) rfl (fun ls hl => ?_)
  refine q_con hx hb dL_toNext_18 ?_
  exact e_i hx hb hr hlk hS dL_toNext_19 (by first | exact Nat.le_of_ble_eq_true rfl | ((try dsimp only); omega)) (by first | exact Nat.le_of_ble_eq_true rfl | ((try dsimp only); omega)) ⟨rfl, hcwH1, hoH1⟩

set_option maxHeartbeats 4000000 in
set_option maxRecDepth 100000 in
theorem wn2_toNext (θ : TH) (l : Launch) (hl0 : l.stackTraces = false) (S0 : State) (H : Heap) (u : Nat → Nat) (dt sy sm sd : Nat → Int) (bc rf kn : Int) (hw : CWR θ S0 u H dt sy sm sd bc rf kn) (hj : SJ θ S0 H) (hn : NX S0) (o : Nat) (nv : Int) (sv9 : Value) (ho : OB θ H o 8 [.long (lL nv), sv9]) (hod : ∀ i : Nat, i < 7 → o ≠ u i) (a b q : Int) (h_0 : -2147483648 ≤ a ∧ a < 2147483648) (h_1 : -2147483648 ≤ b ∧ b < 2147483648) (h_2 : -2147483648 ≤ q ∧ q < 2147483648) (h_3 : q = 0 ∨ q = 1) (h_4 : 0 ≤ a ∧ a < 6) (h_5 : ¬ (0 ≤ b ∧ b < 6)) : CTW l yL_toNext cL_toNext 6 (some .int) [((0 : Nat), (13 : Nat), (16 : Nat), (19 : Nat))] 8 134 1 6 [.ref (u 0), .int (iI a), .int (iI b), .int (iI q), .ref o] S0 H (fun v9 H1 => v9 = some (.int (iI 1)) ∧ CW θ u H1 dt sy sm sd bc rf kn ∧ OB θ H1 o 8 [.long (lL nv), sv9]) (fun x : Nat => UA u H.size x ∨ x = o) := by
  refine ctw_of (by decide +kernel) (Nat.le_of_ble_eq_true rfl) ?_
  intro pg en s mi args below meth co ls fx hs hr hlk htab hl
  subst hs
  obtain ⟨hx, hb, hml, hown, hts⟩ := id fx.1
  have hS : va_S (fun x : Nat => UA u s.heap.size x ∨ x = o) s.heap s.heap [] := va_S.rf
  obtain ⟨hz, hu, hcw, hd, hsp⟩ := id hw
  have hK := sz_K fx.2 hz
  refine lv_aload hx hb dL_toNext_0 (lv_at hl 4 rfl) ?_
  refine lv_aload_n hx hb dL_toNext_2 rfl (lv_at hl 0 rfl) ?_
  refine lv_iload_n hx hb dL_toNext_3 rfl (lv_at hl 1 rfl) ?_
  refine lv_iload_n hx hb dL_toNext_4 rfl (lv_at hl 2 rfl) ?_
  refine lv_iload_n hx hb dL_toNext_5 rfl (lv_at hl 3 rfl) ?_
  refine c_VT (As := [.int (iI a), .int (iI b), .int (iI q)]) (rest := [.ref o]) (b := u 0) (C := RX1) (E := "java/lang/IndexOutOfBoundsException") (name := "java/lang/IndexOutOfBoundsException") (k := 0) (a0 := 0) (a1 := 13) (hpc := 16) (ct := 19) fx hl (no2_toNext θ l hl0 S0 _ u _ _ _ _ _ _ _ hw a b q h_0 h_1 h_2 h_3 h_4 h_5) (ob_recv hK hcw.1 rfl) dL_toNext_6 k997 k998 k999 k1 k1000 hd_X1_toNext rfl ⟨by decide, by decide⟩ (Nat.le_of_ble_eq_true rfl) ⟨by (try dsimp only); omega, by (try dsimp only); omega⟩ hS (fun x h => Or.inl (Or.inr h)) htab rfl ⟨by decide, by decide⟩ (by decide) k696 (nw_at (args := args) fx.2 hz.2.2.2.2.2.2.2.2.1 (by decide +kernel)) (by show ∀ q ∈ ([] : List (Nat × Nat × Nat × Nat)), _; exact fun q h => absurd h List.not_mem_nil) (fun q2 H1 locs hszH1 hkH1 hS => ?_)
  have hcwH1 := hcw.kept (fun i hi => hkH1 _ (hcw.lt i hi))
  have hoH1 := ho.kept (hkH1 _ ho.lt)
  refine lv_astore (lv' := [(5, .ref q2), (0, .ref (u 0)), (1, .int (iI a)), (2, .int (iI b)), (3, .int (iI q)), (4, .ref o)]) hx hb dL_toNext_16 hl (by decide) rfl (fun ls hl => ?_)
  refine q_con hx hb dL_toNext_18 ?_
  exact e_i hx hb hr hlk hS dL_toNext_19 (by first | exact Nat.le_of_ble_eq_true rfl | ((try dsimp only); omega)) (by first | exact Nat.le_of_ble_eq_true rfl | ((try dsimp only); omega)) ⟨rfl, hcwH1, hoH1⟩

set_option maxHeartbeats 4000000 in
set_option maxRecDepth 100000 in
theorem wr_of (θ : TH) (l : Launch) (hl0 : l.stackTraces = false) (S0 : State) (H : Heap) (u : Nat → Nat) (dt sy sm sd : Nat → Int) (bc rf kn : Int) (hw : CWR θ S0 u H dt sy sm sd bc rf kn) (hj : SJ θ S0 H) (hn : NX S0) (o : Nat) (nv : Int) (sv9 : Value) (ho : OB θ H o 8 [.long (lL nv), sv9]) (hod : ∀ i : Nat, i < 7 → o ≠ u i) (a y m1 k m : Int) (h_0 : -2147483648 ≤ a ∧ a < 2147483648) (h_1 : -2147483648 ≤ y ∧ y < 2147483648) (h_2 : -2147483648 ≤ m1 ∧ m1 < 2147483648) (h_3 : -2147483648 ≤ k ∧ k < 2147483648) (h_4 : m = 12 * y + m1 - 1) (h_5 : 0 ≤ a ∧ a < 6) (h_6 : -9999 ≤ y ∧ y ≤ 9999) (h_7 : 1 ≤ m1 ∧ m1 ≤ 12) (h_8 : 1 ≤ k ∧ k ≤ 31) (h_9 : k ≤ fI (m + 1) - fI m) : CTW l yL_of cL_of 7 (some .int) [((0 : Nat), (15 : Nat), (18 : Nat), (19 : Nat)), ((0 : Nat), (15 : Nat), (22 : Nat), (21 : Nat)), ((0 : Nat), (15 : Nat), (26 : Nat), (23 : Nat))] 5 113 0 0 [.ref (u 0), .int (iI a), .int (iI y), .int (iI m1), .int (iI k), .ref o] S0 H (fun v9 H1 => v9 = some (.int (iI 0)) ∧ CW θ u H1 (up dt a.toNat (inI m k)) sy sm sd (bc + 1) rf kn ∧ OB θ H1 o 8 [.long (lL (iI (inI m k)).toInt), sv9]) (fun x : Nat => UA u H.size x ∨ x = o) := by
  refine ctw_of (by decide +kernel) (Nat.le_of_ble_eq_true rfl) ?_
  intro pg en s mi args below meth co ls fx hs hr hlk htab hl
  subst hs
  obtain ⟨hx, hb, hml, hown, hts⟩ := id fx.1
  have hS : va_S (fun x : Nat => UA u s.heap.size x ∨ x = o) s.heap s.heap [] := va_S.rf
  obtain ⟨hz, hu, hcw, hd, hsp⟩ := id hw
  have hK := sz_K fx.2 hz
  refine lv_aload hx hb dL_of_0 (lv_at hl 5 rfl) ?_
  refine lv_aload_n hx hb dL_of_2 rfl (lv_at hl 0 rfl) ?_
  refine lv_iload_n hx hb dL_of_3 rfl (lv_at hl 1 rfl) ?_
  refine lv_iload_n hx hb dL_of_4 rfl (lv_at hl 2 rfl) ?_
  refine lv_iload_n hx hb dL_of_5 rfl (lv_at hl 3 rfl) ?_
  refine lv_iload hx hb dL_of_6 (lv_at hl 4 rfl) ?_
  refine c_Vr (As := [.int (iI a), .int (iI y), .int (iI m1), .int (iI k)]) (rest := [.ref o]) (b := u 0) (C := RX1) (r := some (.int (iI (inI m k)))) (st1 := [.int (iI (inI m k)), .ref o]) fx hl (ok_of θ l hl0 S0 _ u _ _ _ _ _ _ _ hw a y m1 k m h_0 h_1 h_2 h_3 h_4 h_5 h_6 h_7 h_8 h_9) (ob_recv hK hcw.1 rfl) dL_of_8 k699 k700 k701 k1 k702 hd_X1_of rfl rfl ⟨by decide, by decide⟩ (Nat.le_of_ble_eq_true rfl) ⟨by (try dsimp only); omega, by (try dsimp only); omega⟩ hS (fun x h => Or.inl h) (fun H1 locs hpH1 hszH1 hk0H1 hS => ?_)
  have hoH1 := ho.kept (hk0H1 _ ho.lt (fun h => h.elim (fun ⟨i, hi, e⟩ => hod i hi e) (fun h => Nat.not_le.mpr ho.lt h)))
  have hcwH1 := hpH1
  refine q_i2lx hx hb dL_of_11 ?_
  refine r_putN (θ := θ) (C := RX2) (T := TX2) (N := 2) (ci := 8) (v := .long (lL ((iI (inI m k)).toInt))) (ty := .long) hx hb hts gwX2 tyX2 tyX2_ok nmX2 hown hK hoH1 (Or.inr rfl) hS rfl 0 (by decide) (va_Nw.use rfl (va_Nw.warmF fx.2 hn.2.1)) (fun _ h => h) rfl (by decide +kernel) rfl rfl (Nat.le_of_ble_eq_true rfl) dL_of_12 (fun H2 locs hqH2 hszH2 hkH2 hS => ?_)
  have hoH2 : OB θ H2 o 8 [.long (lL ((iI (inI m k)).toInt)), sv9] := hqH2
  have hcwH2 := hcwH1.kept (fun i hi => hkH2 _ (Ne.symm (hod i hi)))
  refine lv_goto (tgt := 30) hx hb dL_of_15 (by decide) ?_
  refine q_con hx hb dL_of_30 ?_
  exact e_i hx hb hr hlk hS dL_of_31 (by first | exact Nat.le_of_ble_eq_true rfl | ((try dsimp only); omega)) (by first | exact Nat.le_of_ble_eq_true rfl | ((try dsimp only); omega)) ⟨rfl, hcwH2, hoH2⟩

set_option maxHeartbeats 4000000 in
set_option maxRecDepth 100000 in
theorem wn1_of (θ : TH) (l : Launch) (hl0 : l.stackTraces = false) (S0 : State) (H : Heap) (u : Nat → Nat) (dt sy sm sd : Nat → Int) (bc rf kn : Int) (hw : CWR θ S0 u H dt sy sm sd bc rf kn) (hj : SJ θ S0 H) (hn : NX S0) (o : Nat) (nv : Int) (sv9 : Value) (ho : OB θ H o 8 [.long (lL nv), sv9]) (hod : ∀ i : Nat, i < 7 → o ≠ u i) (a y m1 k m : Int) (h_0 : -2147483648 ≤ a ∧ a < 2147483648) (h_1 : -2147483648 ≤ y ∧ y < 2147483648) (h_2 : -2147483648 ≤ m1 ∧ m1 < 2147483648) (h_3 : -2147483648 ≤ k ∧ k < 2147483648) (h_4 : m = 12 * y + m1 - 1) (h_5 : ¬ (0 ≤ a ∧ a < 6)) : CTW l yL_of cL_of 7 (some .int) [((0 : Nat), (15 : Nat), (18 : Nat), (19 : Nat)), ((0 : Nat), (15 : Nat), (22 : Nat), (21 : Nat)), ((0 : Nat), (15 : Nat), (26 : Nat), (23 : Nat))] 8 135 1 6 [.ref (u 0), .int (iI a), .int (iI y), .int (iI m1), .int (iI k), .ref o] S0 H (fun v9 H1 => v9 = some (.int (iI 1)) ∧ CW θ u H1 dt sy sm sd bc rf kn ∧ OB θ H1 o 8 [.long (lL nv), sv9]) (fun x : Nat => UA u H.size x ∨ x = o) := by
  refine ctw_of (by decide +kernel) (Nat.le_of_ble_eq_true rfl) ?_
  intro pg en s mi args below meth co ls fx hs hr hlk htab hl
  subst hs
  obtain ⟨hx, hb, hml, hown, hts⟩ := id fx.1
  have hS : va_S (fun x : Nat => UA u s.heap.size x ∨ x = o) s.heap s.heap [] := va_S.rf
  obtain ⟨hz, hu, hcw, hd, hsp⟩ := id hw
  have hK := sz_K fx.2 hz
  refine lv_aload hx hb dL_of_0 (lv_at hl 5 rfl) ?_
  refine lv_aload_n hx hb dL_of_2 rfl (lv_at hl 0 rfl) ?_
  refine lv_iload_n hx hb dL_of_3 rfl (lv_at hl 1 rfl) ?_
  refine lv_iload_n hx hb dL_of_4 rfl (lv_at hl 2 rfl) ?_
  refine lv_iload_n hx hb dL_of_5 rfl (lv_at hl 3 rfl) ?_
  refine lv_iload hx hb dL_of_6 (lv_at hl 4 rfl) ?_
  refine c_VT (As := [.int (iI a), .int (iI y), .int (iI m1), .int (iI k)]) (rest := [.ref o]) (b := u 0) (C := RX1) (E := "java/lang/IndexOutOfBoundsException") (name := "java/lang/IndexOutOfBoundsException") (k := 0) (a0 := 0) (a1 := 15) (hpc := 18) (ct := 19) fx hl (no1_of θ l hl0 S0 _ u _ _ _ _ _ _ _ hw a y m1 k m h_0 h_1 h_2 h_3 h_4 h_5) (ob_recv hK hcw.1 rfl) dL_of_8 k699 k700 k701 k1 k702 hd_X1_of rfl ⟨by decide, by decide⟩ (Nat.le_of_ble_eq_true rfl) ⟨by (try dsimp only); omega, by (try dsimp only); omega⟩ hS (fun x h => Or.inl (Or.inr h)) htab rfl ⟨by decide, by decide⟩ (by decide) k696 (nw_at (args := args) fx.2 hz.2.2.2.2.2.2.2.2.1 (by decide +kernel)) (by show ∀ q ∈ ([] : List (Nat × Nat × Nat × Nat)), _; exact fun q h => absurd h List.not_mem_nil) (fun q2 H1 locs hszH1 hkH1 hS => ?_)
  have hcwH1 := hcw.kept (fun i hi => hkH1 _ (hcw.lt i hi))
  have hoH1 := ho.kept (hkH1 _ ho.lt)
  refine lv_astore (lv' := [(6, .ref q2), (0, .ref (u 0)), (1, .int (iI a)), (2, .int (iI y)), (3, .int (iI m1)), (4, .int (iI k)), (5, .ref o)]) hx hb dL_of_18 hl (by decide) rfl (fun ls hl => ?_)
  refine q_con hx hb dL_of_20 ?_
  exact e_i hx hb hr hlk hS dL_of_21 (by first | exact Nat.le_of_ble_eq_true rfl | ((try dsimp only); omega)) (by first | exact Nat.le_of_ble_eq_true rfl | ((try dsimp only); omega)) ⟨rfl, hcwH1, hoH1⟩

set_option maxHeartbeats 4000000 in
set_option maxRecDepth 100000 in
theorem wn2_of (θ : TH) (l : Launch) (hl0 : l.stackTraces = false) (S0 : State) (H : Heap) (u : Nat → Nat) (dt sy sm sd : Nat → Int) (bc rf kn : Int) (hw : CWR θ S0 u H dt sy sm sd bc rf kn) (hj : SJ θ S0 H) (hn : NX S0) (o : Nat) (nv : Int) (sv9 : Value) (ho : OB θ H o 8 [.long (lL nv), sv9]) (hod : ∀ i : Nat, i < 7 → o ≠ u i) (a y m1 k m : Int) (h_0 : -2147483648 ≤ a ∧ a < 2147483648) (h_1 : -2147483648 ≤ y ∧ y < 2147483648) (h_2 : -2147483648 ≤ m1 ∧ m1 < 2147483648) (h_3 : -2147483648 ≤ k ∧ k < 2147483648) (h_4 : m = 12 * y + m1 - 1) (h_5 : 0 ≤ a ∧ a < 6) (h_6 : ¬ (-9999 ≤ y ∧ y ≤ 9999)) : CTW l yL_of cL_of 7 (some .int) [((0 : Nat), (15 : Nat), (18 : Nat), (19 : Nat)), ((0 : Nat), (15 : Nat), (22 : Nat), (21 : Nat)), ((0 : Nat), (15 : Nat), (26 : Nat), (23 : Nat))] 8 137 1 6 [.ref (u 0), .int (iI a), .int (iI y), .int (iI m1), .int (iI k), .ref o] S0 H (fun v9 H1 => v9 = some (.int (iI 2)) ∧ CW θ u H1 dt sy sm sd bc rf kn ∧ OB θ H1 o 8 [.long (lL nv), sv9]) (fun x : Nat => UA u H.size x ∨ x = o) := by
  refine ctw_of (by decide +kernel) (Nat.le_of_ble_eq_true rfl) ?_
  intro pg en s mi args below meth co ls fx hs hr hlk htab hl
  subst hs
  obtain ⟨hx, hb, hml, hown, hts⟩ := id fx.1
  have hS : va_S (fun x : Nat => UA u s.heap.size x ∨ x = o) s.heap s.heap [] := va_S.rf
  obtain ⟨hz, hu, hcw, hd, hsp⟩ := id hw
  have hK := sz_K fx.2 hz
  refine lv_aload hx hb dL_of_0 (lv_at hl 5 rfl) ?_
  refine lv_aload_n hx hb dL_of_2 rfl (lv_at hl 0 rfl) ?_
  refine lv_iload_n hx hb dL_of_3 rfl (lv_at hl 1 rfl) ?_
  refine lv_iload_n hx hb dL_of_4 rfl (lv_at hl 2 rfl) ?_
  refine lv_iload_n hx hb dL_of_5 rfl (lv_at hl 3 rfl) ?_
  refine lv_iload hx hb dL_of_6 (lv_at hl 4 rfl) ?_
  refine c_VT (As := [.int (iI a), .int (iI y), .int (iI m1), .int (iI k)]) (rest := [.ref o]) (b := u 0) (C := RX1) (E := "java/lang/IllegalArgumentException") (name := "java/lang/IllegalArgumentException") (k := 1) (a0 := 0) (a1 := 15) (hpc := 22) (ct := 21) fx hl (no2_of θ l hl0 S0 _ u _ _ _ _ _ _ _ hw a y m1 k m h_0 h_1 h_2 h_3 h_4 h_5 h_6) (ob_recv hK hcw.1 rfl) dL_of_8 k699 k700 k701 k1 k702 hd_X1_of rfl ⟨by decide, by decide⟩ (Nat.le_of_ble_eq_true rfl) ⟨by (try dsimp only); omega, by (try dsimp only); omega⟩ hS (fun x h => Or.inl (Or.inr h)) htab rfl ⟨by decide, by decide⟩ (by decide) k697 (nw_at (args := args) fx.2 hz.2.2.2.2.2.2.2.2.1 (by decide +kernel)) (by show ∀ q ∈ ([(0, 15, 18, 19)] : List (Nat × Nat × Nat × Nat)), _; exact List.forall_mem_cons.mpr ⟨⟨by decide, _, k696, hn.1.1⟩, fun q h => absurd h List.not_mem_nil⟩) (fun q2 H1 locs hszH1 hkH1 hS => ?_)
  have hcwH1 := hcw.kept (fun i hi => hkH1 _ (hcw.lt i hi))
  have hoH1 := ho.kept (hkH1 _ ho.lt)
  refine lv_astore (lv' := [(6, .ref q2), (0, .ref (u 0)), (1, .int (iI a)), (2, .int (iI y)), (3, .int (iI m1)), (4, .int (iI k)), (5, .ref o)]) hx hb dL_of_22 hl (by decide) rfl (fun ls hl => ?_)
  refine q_con hx hb dL_of_24 ?_
  exact e_i hx hb hr hlk hS dL_of_25 (by first | exact Nat.le_of_ble_eq_true rfl | ((try dsimp only); omega)) (by first | exact Nat.le_of_ble_eq_true rfl | ((try dsimp only); omega)) ⟨rfl, hcwH1, hoH1⟩

set_option maxHeartbeats 4000000 in
set_option maxRecDepth 100000 in
theorem wn3_of (θ : TH) (l : Launch) (hl0 : l.stackTraces = false) (S0 : State) (H : Heap) (u : Nat → Nat) (dt sy sm sd : Nat → Int) (bc rf kn : Int) (hw : CWR θ S0 u H dt sy sm sd bc rf kn) (hj : SJ θ S0 H) (hn : NX S0) (o : Nat) (nv : Int) (sv9 : Value) (ho : OB θ H o 8 [.long (lL nv), sv9]) (hod : ∀ i : Nat, i < 7 → o ≠ u i) (a y m1 k m : Int) (h_0 : -2147483648 ≤ a ∧ a < 2147483648) (h_1 : -2147483648 ≤ y ∧ y < 2147483648) (h_2 : -2147483648 ≤ m1 ∧ m1 < 2147483648) (h_3 : -2147483648 ≤ k ∧ k < 2147483648) (h_4 : m = 12 * y + m1 - 1) (h_5 : 0 ≤ a ∧ a < 6) (h_6 : -9999 ≤ y ∧ y ≤ 9999) (h_7 : ¬ (1 ≤ m1 ∧ m1 ≤ 12)) : CTW l yL_of cL_of 7 (some .int) [((0 : Nat), (15 : Nat), (18 : Nat), (19 : Nat)), ((0 : Nat), (15 : Nat), (22 : Nat), (21 : Nat)), ((0 : Nat), (15 : Nat), (26 : Nat), (23 : Nat))] 8 137 1 6 [.ref (u 0), .int (iI a), .int (iI y), .int (iI m1), .int (iI k), .ref o] S0 H (fun v9 H1 => v9 = some (.int (iI 2)) ∧ CW θ u H1 dt sy sm sd bc rf kn ∧ OB θ H1 o 8 [.long (lL nv), sv9]) (fun x : Nat => UA u H.size x ∨ x = o) := by
  refine ctw_of (by decide +kernel) (Nat.le_of_ble_eq_true rfl) ?_
  intro pg en s mi args below meth co ls fx hs hr hlk htab hl
  subst hs
  obtain ⟨hx, hb, hml, hown, hts⟩ := id fx.1
  have hS : va_S (fun x : Nat => UA u s.heap.size x ∨ x = o) s.heap s.heap [] := va_S.rf
  obtain ⟨hz, hu, hcw, hd, hsp⟩ := id hw
  have hK := sz_K fx.2 hz
  refine lv_aload hx hb dL_of_0 (lv_at hl 5 rfl) ?_
  refine lv_aload_n hx hb dL_of_2 rfl (lv_at hl 0 rfl) ?_
  refine lv_iload_n hx hb dL_of_3 rfl (lv_at hl 1 rfl) ?_
  refine lv_iload_n hx hb dL_of_4 rfl (lv_at hl 2 rfl) ?_
  refine lv_iload_n hx hb dL_of_5 rfl (lv_at hl 3 rfl) ?_
  refine lv_iload hx hb dL_of_6 (lv_at hl 4 rfl) ?_
  refine c_VT (As := [.int (iI a), .int (iI y), .int (iI m1), .int (iI k)]) (rest := [.ref o]) (b := u 0) (C := RX1) (E := "java/lang/IllegalArgumentException") (name := "java/lang/IllegalArgumentException") (k := 1) (a0 := 0) (a1 := 15) (hpc := 22) (ct := 21) fx hl (no3_of θ l hl0 S0 _ u _ _ _ _ _ _ _ hw a y m1 k m h_0 h_1 h_2 h_3 h_4 h_5 h_6 h_7) (ob_recv hK hcw.1 rfl) dL_of_8 k699 k700 k701 k1 k702 hd_X1_of rfl ⟨by decide, by decide⟩ (Nat.le_of_ble_eq_true rfl) ⟨by (try dsimp only); omega, by (try dsimp only); omega⟩ hS (fun x h => Or.inl (Or.inr h)) htab rfl ⟨by decide, by decide⟩ (by decide) k697 (nw_at (args := args) fx.2 hz.2.2.2.2.2.2.2.2.1 (by decide +kernel)) (by show ∀ q ∈ ([(0, 15, 18, 19)] : List (Nat × Nat × Nat × Nat)), _; exact List.forall_mem_cons.mpr ⟨⟨by decide, _, k696, hn.1.1⟩, fun q h => absurd h List.not_mem_nil⟩) (fun q2 H1 locs hszH1 hkH1 hS => ?_)
  have hcwH1 := hcw.kept (fun i hi => hkH1 _ (hcw.lt i hi))
  have hoH1 := ho.kept (hkH1 _ ho.lt)
  refine lv_astore (lv' := [(6, .ref q2), (0, .ref (u 0)), (1, .int (iI a)), (2, .int (iI y)), (3, .int (iI m1)), (4, .int (iI k)), (5, .ref o)]) hx hb dL_of_22 hl (by decide) rfl (fun ls hl => ?_)
  refine q_con hx hb dL_of_24 ?_
  exact e_i hx hb hr hlk hS dL_of_25 (by first | exact Nat.le_of_ble_eq_true rfl | ((try dsimp only); omega)) (by first | exact Nat.le_of_ble_eq_true rfl | ((try dsimp only); omega)) ⟨rfl, hcwH1, hoH1⟩

set_option maxHeartbeats 4000000 in
set_option maxRecDepth 100000 in
theorem wn4_of (θ : TH) (l : Launch) (hl0 : l.stackTraces = false) (S0 : State) (H : Heap) (u : Nat → Nat) (dt sy sm sd : Nat → Int) (bc rf kn : Int) (hw : CWR θ S0 u H dt sy sm sd bc rf kn) (hj : SJ θ S0 H) (hn : NX S0) (o : Nat) (nv : Int) (sv9 : Value) (ho : OB θ H o 8 [.long (lL nv), sv9]) (hod : ∀ i : Nat, i < 7 → o ≠ u i) (a y m1 k m : Int) (h_0 : -2147483648 ≤ a ∧ a < 2147483648) (h_1 : -2147483648 ≤ y ∧ y < 2147483648) (h_2 : -2147483648 ≤ m1 ∧ m1 < 2147483648) (h_3 : -2147483648 ≤ k ∧ k < 2147483648) (h_4 : m = 12 * y + m1 - 1) (h_5 : 0 ≤ a ∧ a < 6) (h_6 : -9999 ≤ y ∧ y ≤ 9999) (h_7 : 1 ≤ m1 ∧ m1 ≤ 12) (h_8 : ¬ (1 ≤ k ∧ k ≤ 31)) : CTW l yL_of cL_of 7 (some .int) [((0 : Nat), (15 : Nat), (18 : Nat), (19 : Nat)), ((0 : Nat), (15 : Nat), (22 : Nat), (21 : Nat)), ((0 : Nat), (15 : Nat), (26 : Nat), (23 : Nat))] 8 137 1 6 [.ref (u 0), .int (iI a), .int (iI y), .int (iI m1), .int (iI k), .ref o] S0 H (fun v9 H1 => v9 = some (.int (iI 2)) ∧ CW θ u H1 dt sy sm sd bc rf kn ∧ OB θ H1 o 8 [.long (lL nv), sv9]) (fun x : Nat => UA u H.size x ∨ x = o) := by
  refine ctw_of (by decide +kernel) (Nat.le_of_ble_eq_true rfl) ?_
  intro pg en s mi args below meth co ls fx hs hr hlk htab hl
  subst hs
  obtain ⟨hx, hb, hml, hown, hts⟩ := id fx.1
  have hS : va_S (fun x : Nat => UA u s.heap.size x ∨ x = o) s.heap s.heap [] := va_S.rf
  obtain ⟨hz, hu, hcw, hd, hsp⟩ := id hw
  have hK := sz_K fx.2 hz
  refine lv_aload hx hb dL_of_0 (lv_at hl 5 rfl) ?_
  refine lv_aload_n hx hb dL_of_2 rfl (lv_at hl 0 rfl) ?_
  refine lv_iload_n hx hb dL_of_3 rfl (lv_at hl 1 rfl) ?_
  refine lv_iload_n hx hb dL_of_4 rfl (lv_at hl 2 rfl) ?_
  refine lv_iload_n hx hb dL_of_5 rfl (lv_at hl 3 rfl) ?_
  refine lv_iload hx hb dL_of_6 (lv_at hl 4 rfl) ?_
  refine c_VT (As := [.int (iI a), .int (iI y), .int (iI m1), .int (iI k)]) (rest := [.ref o]) (b := u 0) (C := RX1) (E := "java/lang/IllegalArgumentException") (name := "java/lang/IllegalArgumentException") (k := 1) (a0 := 0) (a1 := 15) (hpc := 22) (ct := 21) fx hl (no4_of θ l hl0 S0 _ u _ _ _ _ _ _ _ hw a y m1 k m h_0 h_1 h_2 h_3 h_4 h_5 h_6 h_7 h_8) (ob_recv hK hcw.1 rfl) dL_of_8 k699 k700 k701 k1 k702 hd_X1_of rfl ⟨by decide, by decide⟩ (Nat.le_of_ble_eq_true rfl) ⟨by (try dsimp only); omega, by (try dsimp only); omega⟩ hS (fun x h => Or.inl (Or.inr h)) htab rfl ⟨by decide, by decide⟩ (by decide) k697 (nw_at (args := args) fx.2 hz.2.2.2.2.2.2.2.2.1 (by decide +kernel)) (by show ∀ q ∈ ([(0, 15, 18, 19)] : List (Nat × Nat × Nat × Nat)), _; exact List.forall_mem_cons.mpr ⟨⟨by decide, _, k696, hn.1.1⟩, fun q h => absurd h List.not_mem_nil⟩) (fun q2 H1 locs hszH1 hkH1 hS => ?_)
  have hcwH1 := hcw.kept (fun i hi => hkH1 _ (hcw.lt i hi))
  have hoH1 := ho.kept (hkH1 _ ho.lt)
  refine lv_astore (lv' := [(6, .ref q2), (0, .ref (u 0)), (1, .int (iI a)), (2, .int (iI y)), (3, .int (iI m1)), (4, .int (iI k)), (5, .ref o)]) hx hb dL_of_22 hl (by decide) rfl (fun ls hl => ?_)
  refine q_con hx hb dL_of_24 ?_
  exact e_i hx hb hr hlk hS dL_of_25 (by first | exact Nat.le_of_ble_eq_true rfl | ((try dsimp only); omega)) (by first | exact Nat.le_of_ble_eq_true rfl | ((try dsimp only); omega)) ⟨rfl, hcwH1, hoH1⟩

set_option maxHeartbeats 4000000 in
set_option maxRecDepth 100000 in
theorem wn5_of (θ : TH) (l : Launch) (hl0 : l.stackTraces = false) (S0 : State) (H : Heap) (u : Nat → Nat) (dt sy sm sd : Nat → Int) (bc rf kn : Int) (hw : CWR θ S0 u H dt sy sm sd bc rf kn) (hj : SJ θ S0 H) (hn : NX S0) (o : Nat) (nv : Int) (sv9 : Value) (ho : OB θ H o 8 [.long (lL nv), sv9]) (hod : ∀ i : Nat, i < 7 → o ≠ u i) (a y m1 k m : Int) (h_0 : -2147483648 ≤ a ∧ a < 2147483648) (h_1 : -2147483648 ≤ y ∧ y < 2147483648) (h_2 : -2147483648 ≤ m1 ∧ m1 < 2147483648) (h_3 : -2147483648 ≤ k ∧ k < 2147483648) (h_4 : m = 12 * y + m1 - 1) (h_5 : 0 ≤ a ∧ a < 6) (h_6 : -9999 ≤ y ∧ y ≤ 9999) (h_7 : 1 ≤ m1 ∧ m1 ≤ 12) (h_8 : 1 ≤ k ∧ k ≤ 31) (h_9 : ¬ (k ≤ fI (m + 1) - fI m)) : CTW l yL_of cL_of 7 (some .int) [((0 : Nat), (15 : Nat), (18 : Nat), (19 : Nat)), ((0 : Nat), (15 : Nat), (22 : Nat), (21 : Nat)), ((0 : Nat), (15 : Nat), (26 : Nat), (23 : Nat))] 8 136 1 6 [.ref (u 0), .int (iI a), .int (iI y), .int (iI m1), .int (iI k), .ref o] S0 H (fun v9 H1 => v9 = some (.int (iI 3)) ∧ CW θ u H1 dt sy sm sd bc rf kn ∧ OB θ H1 o 8 [.long (lL nv), sv9]) (fun x : Nat => UA u H.size x ∨ x = o) := by
  refine ctw_of (by decide +kernel) (Nat.le_of_ble_eq_true rfl) ?_
  intro pg en s mi args below meth co ls fx hs hr hlk htab hl
  subst hs
  obtain ⟨hx, hb, hml, hown, hts⟩ := id fx.1
  have hS : va_S (fun x : Nat => UA u s.heap.size x ∨ x = o) s.heap s.heap [] := va_S.rf
  obtain ⟨hz, hu, hcw, hd, hsp⟩ := id hw
  have hK := sz_K fx.2 hz
  refine lv_aload hx hb dL_of_0 (lv_at hl 5 rfl) ?_
  refine lv_aload_n hx hb dL_of_2 rfl (lv_at hl 0 rfl) ?_
  refine lv_iload_n hx hb dL_of_3 rfl (lv_at hl 1 rfl) ?_
  refine lv_iload_n hx hb dL_of_4 rfl (lv_at hl 2 rfl) ?_
  refine lv_iload_n hx hb dL_of_5 rfl (lv_at hl 3 rfl) ?_
  refine lv_iload hx hb dL_of_6 (lv_at hl 4 rfl) ?_
  refine c_VT (As := [.int (iI a), .int (iI y), .int (iI m1), .int (iI k)]) (rest := [.ref o]) (b := u 0) (C := RX1) (E := "java/lang/IllegalStateException") (name := "java/lang/IllegalStateException") (k := 2) (a0 := 0) (a1 := 15) (hpc := 26) (ct := 23) fx hl (no5_of θ l hl0 S0 _ u _ _ _ _ _ _ _ hw a y m1 k m h_0 h_1 h_2 h_3 h_4 h_5 h_6 h_7 h_8 h_9) (ob_recv hK hcw.1 rfl) dL_of_8 k699 k700 k701 k1 k702 hd_X1_of rfl ⟨by decide, by decide⟩ (Nat.le_of_ble_eq_true rfl) ⟨by (try dsimp only); omega, by (try dsimp only); omega⟩ hS (fun x h => Or.inl (Or.inr h)) htab rfl ⟨by decide, by decide⟩ (by decide) k698 (nw_at (args := args) fx.2 hz.2.2.2.2.2.2.2.2.1 (by decide +kernel)) (by show ∀ q ∈ ([(0, 15, 18, 19), (0, 15, 22, 21)] : List (Nat × Nat × Nat × Nat)), _; exact List.forall_mem_cons.mpr ⟨⟨by decide, _, k696, hn.1.2.1⟩, List.forall_mem_cons.mpr ⟨⟨by decide, _, k697, hn.1.2.2⟩, fun q h => absurd h List.not_mem_nil⟩⟩) (fun q2 H1 locs hszH1 hkH1 hS => ?_)
  have hcwH1 := hcw.kept (fun i hi => hkH1 _ (hcw.lt i hi))
  have hoH1 := ho.kept (hkH1 _ ho.lt)
  refine lv_astore (lv' := [(6, .ref q2), (0, .ref (u 0)), (1, .int (iI a)), (2, .int (iI y)), (3, .int (iI m1)), (4, .int (iI k)), (5, .ref o)]) hx hb dL_of_26 hl (by decide) rfl (fun ls hl => ?_)
  refine q_con hx hb dL_of_28 ?_
  exact e_i hx hb hr hlk hS dL_of_29 (by first | exact Nat.le_of_ble_eq_true rfl | ((try dsimp only); omega)) (by first | exact Nat.le_of_ble_eq_true rfl | ((try dsimp only); omega)) ⟨rfl, hcwH1, hoH1⟩

set_option maxHeartbeats 4000000 in
set_option maxRecDepth 100000 in
theorem wr_ofDay (θ : TH) (l : Launch) (hl0 : l.stackTraces = false) (S0 : State) (H : Heap) (u : Nat → Nat) (dt sy sm sd : Nat → Int) (bc rf kn : Int) (hw : CWR θ S0 u H dt sy sm sd bc rf kn) (hj : SJ θ S0 H) (hn : NX S0) (o : Nat) (nv : Int) (sv9 : Value) (ho : OB θ H o 8 [.long (lL nv), sv9]) (hod : ∀ i : Nat, i < 7 → o ≠ u i) (a n : Int) (h_0 : -2147483648 ≤ a ∧ a < 2147483648) (h_1 : -2147483648 ≤ n ∧ n < 2147483648) (h_2 : 0 ≤ a ∧ a < 6) (h_3 : -4371587 ≤ n ∧ n ≤ 2932896) : CTW l yL_ofDay cL_ofDay 5 (some .int) [((0 : Nat), (11 : Nat), (14 : Nat), (19 : Nat)), ((0 : Nat), (11 : Nat), (18 : Nat), (21 : Nat))] 3 64 0 0 [.ref (u 0), .int (iI a), .int (iI n), .ref o] S0 H (fun v9 H1 => v9 = some (.int (iI 0)) ∧ CW θ u H1 (up dt a.toNat (n)) sy sm sd (bc + 1) rf kn ∧ OB θ H1 o 8 [.long (lL (iI (wI n)).toInt), sv9]) (fun x : Nat => UA u H.size x ∨ x = o) := by
  refine ctw_of (by decide +kernel) (Nat.le_of_ble_eq_true rfl) ?_
  intro pg en s mi args below meth co ls fx hs hr hlk htab hl
  subst hs
  obtain ⟨hx, hb, hml, hown, hts⟩ := id fx.1
  have hS : va_S (fun x : Nat => UA u s.heap.size x ∨ x = o) s.heap s.heap [] := va_S.rf
  obtain ⟨hz, hu, hcw, hd, hsp⟩ := id hw
  have hK := sz_K fx.2 hz
  refine lv_aload_n hx hb dL_ofDay_0 rfl (lv_at hl 3 rfl) ?_
  refine lv_aload_n hx hb dL_ofDay_1 rfl (lv_at hl 0 rfl) ?_
  refine lv_iload_n hx hb dL_ofDay_2 rfl (lv_at hl 1 rfl) ?_
  refine lv_iload_n hx hb dL_ofDay_3 rfl (lv_at hl 2 rfl) ?_
  refine c_Vr (As := [.int (iI a), .int (iI n)]) (rest := [.ref o]) (b := u 0) (C := RX1) (r := some (.int (iI (wI n)))) (st1 := [.int (iI (wI n)), .ref o]) fx hl (ok_ofDay θ l hl0 S0 _ u _ _ _ _ _ _ _ hw a n h_0 h_1 h_2 h_3) (ob_recv hK hcw.1 rfl) dL_ofDay_4 k730 k731 k732 k1 k733 hd_X1_ofDay rfl rfl ⟨by decide, by decide⟩ (Nat.le_of_ble_eq_true rfl) ⟨by (try dsimp only); omega, by (try dsimp only); omega⟩ hS (fun x h => Or.inl h) (fun H1 locs hpH1 hszH1 hk0H1 hS => ?_)
  have hoH1 := ho.kept (hk0H1 _ ho.lt (fun h => h.elim (fun ⟨i, hi, e⟩ => hod i hi e) (fun h => Nat.not_le.mpr ho.lt h)))
  have hcwH1 := hpH1
  refine q_i2lx hx hb dL_ofDay_7 ?_
  refine r_putN (θ := θ) (C := RX2) (T := TX2) (N := 2) (ci := 8) (v := .long (lL ((iI (wI n)).toInt))) (ty := .long) hx hb hts gwX2 tyX2 tyX2_ok nmX2 hown hK hoH1 (Or.inr rfl) hS rfl 0 (by decide) (va_Nw.use rfl (va_Nw.warmF fx.2 hn.2.1)) (fun _ h => h) rfl (by decide +kernel) rfl rfl (Nat.le_of_ble_eq_true rfl) dL_ofDay_8 (fun H2 locs hqH2 hszH2 hkH2 hS => ?_)
  have hoH2 : OB θ H2 o 8 [.long (lL ((iI (wI n)).toInt)), sv9] := hqH2
  have hcwH2 := hcwH1.kept (fun i hi => hkH2 _ (Ne.symm (hod i hi)))
  refine lv_goto (tgt := 22) hx hb dL_ofDay_11 (by decide) ?_
  refine q_con hx hb dL_ofDay_22 ?_
  exact e_i hx hb hr hlk hS dL_ofDay_23 (by first | exact Nat.le_of_ble_eq_true rfl | ((try dsimp only); omega)) (by first | exact Nat.le_of_ble_eq_true rfl | ((try dsimp only); omega)) ⟨rfl, hcwH2, hoH2⟩

set_option maxHeartbeats 4000000 in
set_option maxRecDepth 100000 in
theorem wn1_ofDay (θ : TH) (l : Launch) (hl0 : l.stackTraces = false) (S0 : State) (H : Heap) (u : Nat → Nat) (dt sy sm sd : Nat → Int) (bc rf kn : Int) (hw : CWR θ S0 u H dt sy sm sd bc rf kn) (hj : SJ θ S0 H) (hn : NX S0) (o : Nat) (nv : Int) (sv9 : Value) (ho : OB θ H o 8 [.long (lL nv), sv9]) (hod : ∀ i : Nat, i < 7 → o ≠ u i) (a n : Int) (h_0 : -2147483648 ≤ a ∧ a < 2147483648) (h_1 : -2147483648 ≤ n ∧ n < 2147483648) (h_2 : ¬ (0 ≤ a ∧ a < 6)) : CTW l yL_ofDay cL_ofDay 5 (some .int) [((0 : Nat), (11 : Nat), (14 : Nat), (19 : Nat)), ((0 : Nat), (11 : Nat), (18 : Nat), (21 : Nat))] 8 132 1 6 [.ref (u 0), .int (iI a), .int (iI n), .ref o] S0 H (fun v9 H1 => v9 = some (.int (iI 1)) ∧ CW θ u H1 dt sy sm sd bc rf kn ∧ OB θ H1 o 8 [.long (lL nv), sv9]) (fun x : Nat => UA u H.size x ∨ x = o) := by
  refine ctw_of (by decide +kernel) (Nat.le_of_ble_eq_true rfl) ?_
  intro pg en s mi args below meth co ls fx hs hr hlk htab hl
  subst hs
  obtain ⟨hx, hb, hml, hown, hts⟩ := id fx.1
  have hS : va_S (fun x : Nat => UA u s.heap.size x ∨ x = o) s.heap s.heap [] := va_S.rf
  obtain ⟨hz, hu, hcw, hd, hsp⟩ := id hw
  have hK := sz_K fx.2 hz
  refine lv_aload_n hx hb dL_ofDay_0 rfl (lv_at hl 3 rfl) ?_
  refine lv_aload_n hx hb dL_ofDay_1 rfl (lv_at hl 0 rfl) ?_
  refine lv_iload_n hx hb dL_ofDay_2 rfl (lv_at hl 1 rfl) ?_
  refine lv_iload_n hx hb dL_ofDay_3 rfl (lv_at hl 2 rfl) ?_
  refine c_VT (As := [.int (iI a), .int (iI n)]) (rest := [.ref o]) (b := u 0) (C := RX1) (E := "java/lang/IndexOutOfBoundsException") (name := "java/lang/IndexOutOfBoundsException") (k := 0) (a0 := 0) (a1 := 11) (hpc := 14) (ct := 19) fx hl (no1_ofDay θ l hl0 S0 _ u _ _ _ _ _ _ _ hw a n h_0 h_1 h_2) (ob_recv hK hcw.1 rfl) dL_ofDay_4 k730 k731 k732 k1 k733 hd_X1_ofDay rfl ⟨by decide, by decide⟩ (Nat.le_of_ble_eq_true rfl) ⟨by (try dsimp only); omega, by (try dsimp only); omega⟩ hS (fun x h => Or.inl (Or.inr h)) htab rfl ⟨by decide, by decide⟩ (by decide) k696 (nw_at (args := args) fx.2 hz.2.2.2.2.2.2.2.2.1 (by decide +kernel)) (by show ∀ q ∈ ([] : List (Nat × Nat × Nat × Nat)), _; exact fun q h => absurd h List.not_mem_nil) (fun q2 H1 locs hszH1 hkH1 hS => ?_)
  have hcwH1 := hcw.kept (fun i hi => hkH1 _ (hcw.lt i hi))
  have hoH1 := ho.kept (hkH1 _ ho.lt)
  refine lv_astore (lv' := [(4, .ref q2), (0, .ref (u 0)), (1, .int (iI a)), (2, .int (iI n)), (3, .ref o)]) hx hb dL_ofDay_14 hl (by decide) rfl (fun ls hl => ?_)
  refine q_con hx hb dL_ofDay_16 ?_
  exact e_i hx hb hr hlk hS dL_ofDay_17 (by first | exact Nat.le_of_ble_eq_true rfl | ((try dsimp only); omega)) (by first | exact Nat.le_of_ble_eq_true rfl | ((try dsimp only); omega)) ⟨rfl, hcwH1, hoH1⟩

set_option maxHeartbeats 4000000 in
set_option maxRecDepth 100000 in
theorem wn2_ofDay (θ : TH) (l : Launch) (hl0 : l.stackTraces = false) (S0 : State) (H : Heap) (u : Nat → Nat) (dt sy sm sd : Nat → Int) (bc rf kn : Int) (hw : CWR θ S0 u H dt sy sm sd bc rf kn) (hj : SJ θ S0 H) (hn : NX S0) (o : Nat) (nv : Int) (sv9 : Value) (ho : OB θ H o 8 [.long (lL nv), sv9]) (hod : ∀ i : Nat, i < 7 → o ≠ u i) (a n : Int) (h_0 : -2147483648 ≤ a ∧ a < 2147483648) (h_1 : -2147483648 ≤ n ∧ n < 2147483648) (h_2 : 0 ≤ a ∧ a < 6) (h_3 : ¬ (-4371587 ≤ n ∧ n ≤ 2932896)) : CTW l yL_ofDay cL_ofDay 5 (some .int) [((0 : Nat), (11 : Nat), (14 : Nat), (19 : Nat)), ((0 : Nat), (11 : Nat), (18 : Nat), (21 : Nat))] 8 134 1 6 [.ref (u 0), .int (iI a), .int (iI n), .ref o] S0 H (fun v9 H1 => v9 = some (.int (iI 2)) ∧ CW θ u H1 dt sy sm sd bc rf kn ∧ OB θ H1 o 8 [.long (lL nv), sv9]) (fun x : Nat => UA u H.size x ∨ x = o) := by
  refine ctw_of (by decide +kernel) (Nat.le_of_ble_eq_true rfl) ?_
  intro pg en s mi args below meth co ls fx hs hr hlk htab hl
  subst hs
  obtain ⟨hx, hb, hml, hown, hts⟩ := id fx.1
  have hS : va_S (fun x : Nat => UA u s.heap.size x ∨ x = o) s.heap s.heap [] := va_S.rf
  obtain ⟨hz, hu, hcw, hd, hsp⟩ := id hw
  have hK := sz_K fx.2 hz
  refine lv_aload_n hx hb dL_ofDay_0 rfl (lv_at hl 3 rfl) ?_
  refine lv_aload_n hx hb dL_ofDay_1 rfl (lv_at hl 0 rfl) ?_
  refine lv_iload_n hx hb dL_ofDay_2 rfl (lv_at hl 1 rfl) ?_
  refine lv_iload_n hx hb dL_ofDay_3 rfl (lv_at hl 2 rfl) ?_
  refine c_VT (As := [.int (iI a), .int (iI n)]) (rest := [.ref o]) (b := u 0) (C := RX1) (E := "java/lang/IllegalArgumentException") (name := "java/lang/IllegalArgumentException") (k := 1) (a0 := 0) (a1 := 11) (hpc := 18) (ct := 21) fx hl (no2_ofDay θ l hl0 S0 _ u _ _ _ _ _ _ _ hw a n h_0 h_1 h_2 h_3) (ob_recv hK hcw.1 rfl) dL_ofDay_4 k730 k731 k732 k1 k733 hd_X1_ofDay rfl ⟨by decide, by decide⟩ (Nat.le_of_ble_eq_true rfl) ⟨by (try dsimp only); omega, by (try dsimp only); omega⟩ hS (fun x h => Or.inl (Or.inr h)) htab rfl ⟨by decide, by decide⟩ (by decide) k697 (nw_at (args := args) fx.2 hz.2.2.2.2.2.2.2.2.1 (by decide +kernel)) (by show ∀ q ∈ ([(0, 11, 14, 19)] : List (Nat × Nat × Nat × Nat)), _; exact List.forall_mem_cons.mpr ⟨⟨by decide, _, k696, hn.1.1⟩, fun q h => absurd h List.not_mem_nil⟩) (fun q2 H1 locs hszH1 hkH1 hS => ?_)
  have hcwH1 := hcw.kept (fun i hi => hkH1 _ (hcw.lt i hi))
  have hoH1 := ho.kept (hkH1 _ ho.lt)
  refine lv_astore (lv' := [(4, .ref q2), (0, .ref (u 0)), (1, .int (iI a)), (2, .int (iI n)), (3, .ref o)]) hx hb dL_ofDay_18 hl (by decide) rfl (fun ls hl => ?_)
  refine q_con hx hb dL_ofDay_20 ?_
  exact e_i hx hb hr hlk hS dL_ofDay_21 (by first | exact Nat.le_of_ble_eq_true rfl | ((try dsimp only); omega)) (by first | exact Nat.le_of_ble_eq_true rfl | ((try dsimp only); omega)) ⟨rfl, hcwH1, hoH1⟩

set_option maxHeartbeats 4000000 in
set_option maxRecDepth 100000 in
theorem wr_ofMonth (θ : TH) (l : Launch) (hl0 : l.stackTraces = false) (S0 : State) (H : Heap) (u : Nat → Nat) (dt sy sm sd : Nat → Int) (bc rf kn : Int) (hw : CWR θ S0 u H dt sy sm sd bc rf kn) (hj : SJ θ S0 H) (hn : NX S0) (o : Nat) (nv : Int) (sv9 : Value) (ho : OB θ H o 8 [.long (lL nv), sv9]) (hod : ∀ i : Nat, i < 7 → o ≠ u i) (a m k : Int) (h_0 : -2147483648 ≤ a ∧ a < 2147483648) (h_1 : -2147483648 ≤ m ∧ m < 2147483648) (h_2 : -2147483648 ≤ k ∧ k < 2147483648) (h_3 : 0 ≤ a ∧ a < 6) (h_4 : -119988 ≤ m ∧ m ≤ 119999) (h_5 : 1 ≤ k ∧ k ≤ 31) : CTW l yL_ofMonth cL_ofMonth 6 (some .int) [((0 : Nat), (13 : Nat), (16 : Nat), (19 : Nat)), ((0 : Nat), (13 : Nat), (20 : Nat), (21 : Nat))] 5 113 0 0 [.ref (u 0), .int (iI a), .int (iI m), .int (iI k), .ref o] S0 H (fun v9 H1 => v9 = some (.int (iI 0)) ∧ CW θ u H1 (up dt a.toNat (inI m k)) sy sm sd (bc + 1) rf kn ∧ OB θ H1 o 8 [.long (lL (iI (dI (inI m k))).toInt), sv9]) (fun x : Nat => UA u H.size x ∨ x = o) := by
  refine ctw_of (by decide +kernel) (Nat.le_of_ble_eq_true rfl) ?_
  intro pg en s mi args below meth co ls fx hs hr hlk htab hl
  subst hs
  obtain ⟨hx, hb, hml, hown, hts⟩ := id fx.1
  have hS : va_S (fun x : Nat => UA u s.heap.size x ∨ x = o) s.heap s.heap [] := va_S.rf
  obtain ⟨hz, hu, hcw, hd, hsp⟩ := id hw
  have hK := sz_K fx.2 hz
  refine lv_aload hx hb dL_ofMonth_0 (lv_at hl 4 rfl) ?_
  refine lv_aload_n hx hb dL_ofMonth_2 rfl (lv_at hl 0 rfl) ?_
  refine lv_iload_n hx hb dL_ofMonth_3 rfl (lv_at hl 1 rfl) ?_
  refine lv_iload_n hx hb dL_ofMonth_4 rfl (lv_at hl 2 rfl) ?_
  refine lv_iload_n hx hb dL_ofMonth_5 rfl (lv_at hl 3 rfl) ?_
  refine c_Vr (As := [.int (iI a), .int (iI m), .int (iI k)]) (rest := [.ref o]) (b := u 0) (C := RX1) (r := some (.int (iI (dI (inI m k))))) (st1 := [.int (iI (dI (inI m k))), .ref o]) fx hl (ok_ofMonth θ l hl0 S0 _ u _ _ _ _ _ _ _ hw a m k h_0 h_1 h_2 h_3 h_4 h_5) (ob_recv hK hcw.1 rfl) dL_ofMonth_6 k739 k740 k741 k1 k742 hd_X1_ofMonth rfl rfl ⟨by decide, by decide⟩ (Nat.le_of_ble_eq_true rfl) ⟨by (try dsimp only); omega, by (try dsimp only); omega⟩ hS (fun x h => Or.inl h) (fun H1 locs hpH1 hszH1 hk0H1 hS => ?_)
  have hoH1 := ho.kept (hk0H1 _ ho.lt (fun h => h.elim (fun ⟨i, hi, e⟩ => hod i hi e) (fun h => Nat.not_le.mpr ho.lt h)))
  have hcwH1 := hpH1
  refine q_i2lx hx hb dL_ofMonth_9 ?_
  refine r_putN (θ := θ) (C := RX2) (T := TX2) (N := 2) (ci := 8) (v := .long (lL ((iI (dI (inI m k))).toInt))) (ty := .long) hx hb hts gwX2 tyX2 tyX2_ok nmX2 hown hK hoH1 (Or.inr rfl) hS rfl 0 (by decide) (va_Nw.use rfl (va_Nw.warmF fx.2 hn.2.1)) (fun _ h => h) rfl (by decide +kernel) rfl rfl (Nat.le_of_ble_eq_true rfl) dL_ofMonth_10 (fun H2 locs hqH2 hszH2 hkH2 hS => ?_)
  have hoH2 : OB θ H2 o 8 [.long (lL ((iI (dI (inI m k))).toInt)), sv9] := hqH2
  have hcwH2 := hcwH1.kept (fun i hi => hkH2 _ (Ne.symm (hod i hi)))
  refine lv_goto (tgt := 24) hx hb dL_ofMonth_13 (by decide) ?_
  refine q_con hx hb dL_ofMonth_24 ?_
  exact e_i hx hb hr hlk hS dL_ofMonth_25 (by first | exact Nat.le_of_ble_eq_true rfl | ((try dsimp only); omega)) (by first | exact Nat.le_of_ble_eq_true rfl | ((try dsimp only); omega)) ⟨rfl, hcwH2, hoH2⟩

set_option maxHeartbeats 4000000 in
set_option maxRecDepth 100000 in
theorem wn1_ofMonth (θ : TH) (l : Launch) (hl0 : l.stackTraces = false) (S0 : State) (H : Heap) (u : Nat → Nat) (dt sy sm sd : Nat → Int) (bc rf kn : Int) (hw : CWR θ S0 u H dt sy sm sd bc rf kn) (hj : SJ θ S0 H) (hn : NX S0) (o : Nat) (nv : Int) (sv9 : Value) (ho : OB θ H o 8 [.long (lL nv), sv9]) (hod : ∀ i : Nat, i < 7 → o ≠ u i) (a m k : Int) (h_0 : -2147483648 ≤ a ∧ a < 2147483648) (h_1 : -2147483648 ≤ m ∧ m < 2147483648) (h_2 : -2147483648 ≤ k ∧ k < 2147483648) (h_3 : ¬ (0 ≤ a ∧ a < 6)) : CTW l yL_ofMonth cL_ofMonth 6 (some .int) [((0 : Nat), (13 : Nat), (16 : Nat), (19 : Nat)), ((0 : Nat), (13 : Nat), (20 : Nat), (21 : Nat))] 8 133 1 6 [.ref (u 0), .int (iI a), .int (iI m), .int (iI k), .ref o] S0 H (fun v9 H1 => v9 = some (.int (iI 1)) ∧ CW θ u H1 dt sy sm sd bc rf kn ∧ OB θ H1 o 8 [.long (lL nv), sv9]) (fun x : Nat => UA u H.size x ∨ x = o) := by
  refine ctw_of (by decide +kernel) (Nat.le_of_ble_eq_true rfl) ?_
  intro pg en s mi args below meth co ls fx hs hr hlk htab hl
  subst hs
  obtain ⟨hx, hb, hml, hown, hts⟩ := id fx.1
  have hS : va_S (fun x : Nat => UA u s.heap.size x ∨ x = o) s.heap s.heap [] := va_S.rf
  obtain ⟨hz, hu, hcw, hd, hsp⟩ := id hw
  have hK := sz_K fx.2 hz
  refine lv_aload hx hb dL_ofMonth_0 (lv_at hl 4 rfl) ?_
  refine lv_aload_n hx hb dL_ofMonth_2 rfl (lv_at hl 0 rfl) ?_
  refine lv_iload_n hx hb dL_ofMonth_3 rfl (lv_at hl 1 rfl) ?_
  refine lv_iload_n hx hb dL_ofMonth_4 rfl (lv_at hl 2 rfl) ?_
  refine lv_iload_n hx hb dL_ofMonth_5 rfl (lv_at hl 3 rfl) ?_
  refine c_VT (As := [.int (iI a), .int (iI m), .int (iI k)]) (rest := [.ref o]) (b := u 0) (C := RX1) (E := "java/lang/IndexOutOfBoundsException") (name := "java/lang/IndexOutOfBoundsException") (k := 0) (a0 := 0) (a1 := 13) (hpc := 16) (ct := 19) fx hl (no1_ofMonth θ l hl0 S0 _ u _ _ _ _ _ _ _ hw a m k h_0 h_1 h_2 h_3) (ob_recv hK hcw.1 rfl) dL_ofMonth_6 k739 k740 k741 k1 k742 hd_X1_ofMonth rfl ⟨by decide, by decide⟩ (Nat.le_of_ble_eq_true rfl) ⟨by (try dsimp only); omega, by (try dsimp only); omega⟩ hS (fun x h => Or.inl (Or.inr h)) htab rfl ⟨by decide, by decide⟩ (by decide) k696 (nw_at (args := args) fx.2 hz.2.2.2.2.2.2.2.2.1 (by decide +kernel)) (by show ∀ q ∈ ([] : List (Nat × Nat × Nat × Nat)), _; exact fun q h => absurd h List.not_mem_nil) (fun q2 H1 locs hszH1 hkH1 hS => ?_)
  have hcwH1 := hcw.kept (fun i hi => hkH1 _ (hcw.lt i hi))
  have hoH1 := ho.kept (hkH1 _ ho.lt)
  refine lv_astore (lv' := [(5, .ref q2), (0, .ref (u 0)), (1, .int (iI a)), (2, .int (iI m)), (3, .int (iI k)), (4, .ref o)]) hx hb dL_ofMonth_16 hl (by decide) rfl (fun ls hl => ?_)
  refine q_con hx hb dL_ofMonth_18 ?_
  exact e_i hx hb hr hlk hS dL_ofMonth_19 (by first | exact Nat.le_of_ble_eq_true rfl | ((try dsimp only); omega)) (by first | exact Nat.le_of_ble_eq_true rfl | ((try dsimp only); omega)) ⟨rfl, hcwH1, hoH1⟩

set_option maxHeartbeats 4000000 in
set_option maxRecDepth 100000 in
theorem wn2_ofMonth (θ : TH) (l : Launch) (hl0 : l.stackTraces = false) (S0 : State) (H : Heap) (u : Nat → Nat) (dt sy sm sd : Nat → Int) (bc rf kn : Int) (hw : CWR θ S0 u H dt sy sm sd bc rf kn) (hj : SJ θ S0 H) (hn : NX S0) (o : Nat) (nv : Int) (sv9 : Value) (ho : OB θ H o 8 [.long (lL nv), sv9]) (hod : ∀ i : Nat, i < 7 → o ≠ u i) (a m k : Int) (h_0 : -2147483648 ≤ a ∧ a < 2147483648) (h_1 : -2147483648 ≤ m ∧ m < 2147483648) (h_2 : -2147483648 ≤ k ∧ k < 2147483648) (h_3 : 0 ≤ a ∧ a < 6) (h_4 : ¬ (-119988 ≤ m ∧ m ≤ 119999)) : CTW l yL_ofMonth cL_ofMonth 6 (some .int) [((0 : Nat), (13 : Nat), (16 : Nat), (19 : Nat)), ((0 : Nat), (13 : Nat), (20 : Nat), (21 : Nat))] 9 155 1 6 [.ref (u 0), .int (iI a), .int (iI m), .int (iI k), .ref o] S0 H (fun v9 H1 => v9 = some (.int (iI 2)) ∧ CW θ u H1 dt sy sm sd bc rf kn ∧ OB θ H1 o 8 [.long (lL nv), sv9]) (fun x : Nat => UA u H.size x ∨ x = o) := by
  refine ctw_of (by decide +kernel) (Nat.le_of_ble_eq_true rfl) ?_
  intro pg en s mi args below meth co ls fx hs hr hlk htab hl
  subst hs
  obtain ⟨hx, hb, hml, hown, hts⟩ := id fx.1
  have hS : va_S (fun x : Nat => UA u s.heap.size x ∨ x = o) s.heap s.heap [] := va_S.rf
  obtain ⟨hz, hu, hcw, hd, hsp⟩ := id hw
  have hK := sz_K fx.2 hz
  refine lv_aload hx hb dL_ofMonth_0 (lv_at hl 4 rfl) ?_
  refine lv_aload_n hx hb dL_ofMonth_2 rfl (lv_at hl 0 rfl) ?_
  refine lv_iload_n hx hb dL_ofMonth_3 rfl (lv_at hl 1 rfl) ?_
  refine lv_iload_n hx hb dL_ofMonth_4 rfl (lv_at hl 2 rfl) ?_
  refine lv_iload_n hx hb dL_ofMonth_5 rfl (lv_at hl 3 rfl) ?_
  refine c_VT (As := [.int (iI a), .int (iI m), .int (iI k)]) (rest := [.ref o]) (b := u 0) (C := RX1) (E := "java/lang/IllegalArgumentException") (name := "java/lang/IllegalArgumentException") (k := 1) (a0 := 0) (a1 := 13) (hpc := 20) (ct := 21) fx hl (no2_ofMonth θ l hl0 S0 _ u _ _ _ _ _ _ _ hw a m k h_0 h_1 h_2 h_3 h_4) (ob_recv hK hcw.1 rfl) dL_ofMonth_6 k739 k740 k741 k1 k742 hd_X1_ofMonth rfl ⟨by decide, by decide⟩ (Nat.le_of_ble_eq_true rfl) ⟨by (try dsimp only); omega, by (try dsimp only); omega⟩ hS (fun x h => Or.inl (Or.inr h)) htab rfl ⟨by decide, by decide⟩ (by decide) k697 (nw_at (args := args) fx.2 hz.2.2.2.2.2.2.2.2.1 (by decide +kernel)) (by show ∀ q ∈ ([(0, 13, 16, 19)] : List (Nat × Nat × Nat × Nat)), _; exact List.forall_mem_cons.mpr ⟨⟨by decide, _, k696, hn.1.1⟩, fun q h => absurd h List.not_mem_nil⟩) (fun q2 H1 locs hszH1 hkH1 hS => ?_)
  have hcwH1 := hcw.kept (fun i hi => hkH1 _ (hcw.lt i hi))
  have hoH1 := ho.kept (hkH1 _ ho.lt)
  refine lv_astore (lv' := [(5, .ref q2), (0, .ref (u 0)), (1, .int (iI a)), (2, .int (iI m)), (3, .int (iI k)), (4, .ref o)]) hx hb dL_ofMonth_20 hl (by decide) rfl (fun ls hl => ?_)
  refine q_con hx hb dL_ofMonth_22 ?_
  exact e_i hx hb hr hlk hS dL_ofMonth_23 (by first | exact Nat.le_of_ble_eq_true rfl | ((try dsimp only); omega)) (by first | exact Nat.le_of_ble_eq_true rfl | ((try dsimp only); omega)) ⟨rfl, hcwH1, hoH1⟩

set_option maxHeartbeats 4000000 in
set_option maxRecDepth 100000 in
theorem wn3_ofMonth (θ : TH) (l : Launch) (hl0 : l.stackTraces = false) (S0 : State) (H : Heap) (u : Nat → Nat) (dt sy sm sd : Nat → Int) (bc rf kn : Int) (hw : CWR θ S0 u H dt sy sm sd bc rf kn) (hj : SJ θ S0 H) (hn : NX S0) (o : Nat) (nv : Int) (sv9 : Value) (ho : OB θ H o 8 [.long (lL nv), sv9]) (hod : ∀ i : Nat, i < 7 → o ≠ u i) (a m k : Int) (h_0 : -2147483648 ≤ a ∧ a < 2147483648) (h_1 : -2147483648 ≤ m ∧ m < 2147483648) (h_2 : -2147483648 ≤ k ∧ k < 2147483648) (h_3 : 0 ≤ a ∧ a < 6) (h_4 : -119988 ≤ m ∧ m ≤ 119999) (h_5 : ¬ (1 ≤ k ∧ k ≤ 31)) : CTW l yL_ofMonth cL_ofMonth 6 (some .int) [((0 : Nat), (13 : Nat), (16 : Nat), (19 : Nat)), ((0 : Nat), (13 : Nat), (20 : Nat), (21 : Nat))] 8 135 1 6 [.ref (u 0), .int (iI a), .int (iI m), .int (iI k), .ref o] S0 H (fun v9 H1 => v9 = some (.int (iI 2)) ∧ CW θ u H1 dt sy sm sd bc rf kn ∧ OB θ H1 o 8 [.long (lL nv), sv9]) (fun x : Nat => UA u H.size x ∨ x = o) := by
  refine ctw_of (by decide +kernel) (Nat.le_of_ble_eq_true rfl) ?_
  intro pg en s mi args below meth co ls fx hs hr hlk htab hl
  subst hs
  obtain ⟨hx, hb, hml, hown, hts⟩ := id fx.1
  have hS : va_S (fun x : Nat => UA u s.heap.size x ∨ x = o) s.heap s.heap [] := va_S.rf
  obtain ⟨hz, hu, hcw, hd, hsp⟩ := id hw
  have hK := sz_K fx.2 hz
  refine lv_aload hx hb dL_ofMonth_0 (lv_at hl 4 rfl) ?_
  refine lv_aload_n hx hb dL_ofMonth_2 rfl (lv_at hl 0 rfl) ?_
  refine lv_iload_n hx hb dL_ofMonth_3 rfl (lv_at hl 1 rfl) ?_
  refine lv_iload_n hx hb dL_ofMonth_4 rfl (lv_at hl 2 rfl) ?_
  refine lv_iload_n hx hb dL_ofMonth_5 rfl (lv_at hl 3 rfl) ?_
  refine c_VT (As := [.int (iI a), .int (iI m), .int (iI k)]) (rest := [.ref o]) (b := u 0) (C := RX1) (E := "java/lang/IllegalArgumentException") (name := "java/lang/IllegalArgumentException") (k := 1) (a0 := 0) (a1 := 13) (hpc := 20) (ct := 21) fx hl (no3_ofMonth θ l hl0 S0 _ u _ _ _ _ _ _ _ hw a m k h_0 h_1 h_2 h_3 h_4 h_5) (ob_recv hK hcw.1 rfl) dL_ofMonth_6 k739 k740 k741 k1 k742 hd_X1_ofMonth rfl ⟨by decide, by decide⟩ (Nat.le_of_ble_eq_true rfl) ⟨by (try dsimp only); omega, by (try dsimp only); omega⟩ hS (fun x h => Or.inl (Or.inr h)) htab rfl ⟨by decide, by decide⟩ (by decide) k697 (nw_at (args := args) fx.2 hz.2.2.2.2.2.2.2.2.1 (by decide +kernel)) (by show ∀ q ∈ ([(0, 13, 16, 19)] : List (Nat × Nat × Nat × Nat)), _; exact List.forall_mem_cons.mpr ⟨⟨by decide, _, k696, hn.1.1⟩, fun q h => absurd h List.not_mem_nil⟩) (fun q2 H1 locs hszH1 hkH1 hS => ?_)
  have hcwH1 := hcw.kept (fun i hi => hkH1 _ (hcw.lt i hi))
  have hoH1 := ho.kept (hkH1 _ ho.lt)
  refine lv_astore (lv' := [(5, .ref q2), (0, .ref (u 0)), (1, .int (iI a)), (2, .int (iI m)), (3, .int (iI k)), (4, .ref o)]) hx hb dL_ofMonth_20 hl (by decide) rfl (fun ls hl => ?_)
  refine q_con hx hb dL_ofMonth_22 ?_
  exact e_i hx hb hr hlk hS dL_ofMonth_23 (by first | exact Nat.le_of_ble_eq_true rfl | ((try dsimp only); omega)) (by first | exact Nat.le_of_ble_eq_true rfl | ((try dsimp only); omega)) ⟨rfl, hcwH1, hoH1⟩

set_option maxHeartbeats 4000000 in
set_option maxRecDepth 100000 in
theorem wr_copy (θ : TH) (l : Launch) (hl0 : l.stackTraces = false) (S0 : State) (H : Heap) (u : Nat → Nat) (dt sy sm sd : Nat → Int) (bc rf kn : Int) (hw : CWR θ S0 u H dt sy sm sd bc rf kn) (hj : SJ θ S0 H) (hn : NX S0) (o : Nat) (nv : Int) (sv9 : Value) (ho : OB θ H o 8 [.long (lL nv), sv9]) (hod : ∀ i : Nat, i < 7 → o ≠ u i) (a b : Int) (h_0 : -2147483648 ≤ a ∧ a < 2147483648) (h_1 : -2147483648 ≤ b ∧ b < 2147483648) (h_2 : 0 ≤ a ∧ a < 6) (h_3 : 0 ≤ b ∧ b < 6) : CTW l yL_copy cL_copy 5 (some .int) [((0 : Nat), (11 : Nat), (14 : Nat), (19 : Nat))] 2 44 0 0 [.ref (u 0), .int (iI a), .int (iI b), .ref o] S0 H (fun v9 H1 => v9 = some (.int (iI 0)) ∧ CW θ u H1 (up dt a.toNat (dt b.toNat)) sy sm sd (bc + 1) rf kn ∧ OB θ H1 o 8 [.long (lL (iI (dt b.toNat)).toInt), sv9]) (fun x : Nat => UA u H.size x ∨ x = o) := by
  refine ctw_of (by decide +kernel) (Nat.le_of_ble_eq_true rfl) ?_
  intro pg en s mi args below meth co ls fx hs hr hlk htab hl
  subst hs
  obtain ⟨hx, hb, hml, hown, hts⟩ := id fx.1
  have hS : va_S (fun x : Nat => UA u s.heap.size x ∨ x = o) s.heap s.heap [] := va_S.rf
  obtain ⟨hz, hu, hcw, hd, hsp⟩ := id hw
  have hK := sz_K fx.2 hz
  refine lv_aload_n hx hb dL_copy_0 rfl (lv_at hl 3 rfl) ?_
  refine lv_aload_n hx hb dL_copy_1 rfl (lv_at hl 0 rfl) ?_
  refine lv_iload_n hx hb dL_copy_2 rfl (lv_at hl 1 rfl) ?_
  refine lv_iload_n hx hb dL_copy_3 rfl (lv_at hl 2 rfl) ?_
  refine c_Vr (As := [.int (iI a), .int (iI b)]) (rest := [.ref o]) (b := u 0) (C := RX1) (r := some (.int (iI (dt b.toNat)))) (st1 := [.int (iI (dt b.toNat)), .ref o]) fx hl (ok_copy θ l hl0 S0 _ u _ _ _ _ _ _ _ hw a b h_0 h_1 h_2 h_3) (ob_recv hK hcw.1 rfl) dL_copy_4 k751 k752 k753 k1 k754 hd_X1_copy rfl rfl ⟨by decide, by decide⟩ (Nat.le_of_ble_eq_true rfl) ⟨by (try dsimp only); omega, by (try dsimp only); omega⟩ hS (fun x h => Or.inl h) (fun H1 locs hpH1 hszH1 hk0H1 hS => ?_)
  have hoH1 := ho.kept (hk0H1 _ ho.lt (fun h => h.elim (fun ⟨i, hi, e⟩ => hod i hi e) (fun h => Nat.not_le.mpr ho.lt h)))
  have hcwH1 := hpH1
  refine q_i2lx hx hb dL_copy_7 ?_
  refine r_putN (θ := θ) (C := RX2) (T := TX2) (N := 2) (ci := 8) (v := .long (lL ((iI (dt b.toNat)).toInt))) (ty := .long) hx hb hts gwX2 tyX2 tyX2_ok nmX2 hown hK hoH1 (Or.inr rfl) hS rfl 0 (by decide) (va_Nw.use rfl (va_Nw.warmF fx.2 hn.2.1)) (fun _ h => h) rfl (by decide +kernel) rfl rfl (Nat.le_of_ble_eq_true rfl) dL_copy_8 (fun H2 locs hqH2 hszH2 hkH2 hS => ?_)
  have hoH2 : OB θ H2 o 8 [.long (lL ((iI (dt b.toNat)).toInt)), sv9] := hqH2
  have hcwH2 := hcwH1.kept (fun i hi => hkH2 _ (Ne.symm (hod i hi)))
  refine lv_goto (tgt := 18) hx hb dL_copy_11 (by decide) ?_
  refine q_con hx hb dL_copy_18 ?_
  exact e_i hx hb hr hlk hS dL_copy_19 (by first | exact Nat.le_of_ble_eq_true rfl | ((try dsimp only); omega)) (by first | exact Nat.le_of_ble_eq_true rfl | ((try dsimp only); omega)) ⟨rfl, hcwH2, hoH2⟩

set_option maxHeartbeats 4000000 in
set_option maxRecDepth 100000 in
theorem wn1_copy (θ : TH) (l : Launch) (hl0 : l.stackTraces = false) (S0 : State) (H : Heap) (u : Nat → Nat) (dt sy sm sd : Nat → Int) (bc rf kn : Int) (hw : CWR θ S0 u H dt sy sm sd bc rf kn) (hj : SJ θ S0 H) (hn : NX S0) (o : Nat) (nv : Int) (sv9 : Value) (ho : OB θ H o 8 [.long (lL nv), sv9]) (hod : ∀ i : Nat, i < 7 → o ≠ u i) (a b : Int) (h_0 : -2147483648 ≤ a ∧ a < 2147483648) (h_1 : -2147483648 ≤ b ∧ b < 2147483648) (h_2 : ¬ (0 ≤ a ∧ a < 6)) : CTW l yL_copy cL_copy 5 (some .int) [((0 : Nat), (11 : Nat), (14 : Nat), (19 : Nat))] 8 132 1 6 [.ref (u 0), .int (iI a), .int (iI b), .ref o] S0 H (fun v9 H1 => v9 = some (.int (iI 1)) ∧ CW θ u H1 dt sy sm sd bc rf kn ∧ OB θ H1 o 8 [.long (lL nv), sv9]) (fun x : Nat => UA u H.size x ∨ x = o) := by
  refine ctw_of (by decide +kernel) (Nat.le_of_ble_eq_true rfl) ?_
  intro pg en s mi args below meth co ls fx hs hr hlk htab hl
  subst hs
  obtain ⟨hx, hb, hml, hown, hts⟩ := id fx.1
  have hS : va_S (fun x : Nat => UA u s.heap.size x ∨ x = o) s.heap s.heap [] := va_S.rf
  obtain ⟨hz, hu, hcw, hd, hsp⟩ := id hw
  have hK := sz_K fx.2 hz
  refine lv_aload_n hx hb dL_copy_0 rfl (lv_at hl 3 rfl) ?_
  refine lv_aload_n hx hb dL_copy_1 rfl (lv_at hl 0 rfl) ?_
  refine lv_iload_n hx hb dL_copy_2 rfl (lv_at hl 1 rfl) ?_
  refine lv_iload_n hx hb dL_copy_3 rfl (lv_at hl 2 rfl) ?_
  refine c_VT (As := [.int (iI a), .int (iI b)]) (rest := [.ref o]) (b := u 0) (C := RX1) (E := "java/lang/IndexOutOfBoundsException") (name := "java/lang/IndexOutOfBoundsException") (k := 0) (a0 := 0) (a1 := 11) (hpc := 14) (ct := 19) fx hl (no1_copy θ l hl0 S0 _ u _ _ _ _ _ _ _ hw a b h_0 h_1 h_2) (ob_recv hK hcw.1 rfl) dL_copy_4 k751 k752 k753 k1 k754 hd_X1_copy rfl ⟨by decide, by decide⟩ (Nat.le_of_ble_eq_true rfl) ⟨by (try dsimp only); omega, by (try dsimp only); omega⟩ hS (fun x h => Or.inl (Or.inr h)) htab rfl ⟨by decide, by decide⟩ (by decide) k696 (nw_at (args := args) fx.2 hz.2.2.2.2.2.2.2.2.1 (by decide +kernel)) (by show ∀ q ∈ ([] : List (Nat × Nat × Nat × Nat)), _; exact fun q h => absurd h List.not_mem_nil) (fun q2 H1 locs hszH1 hkH1 hS => ?_)
  have hcwH1 := hcw.kept (fun i hi => hkH1 _ (hcw.lt i hi))
  have hoH1 := ho.kept (hkH1 _ ho.lt)
  refine lv_astore (lv' := [(4, .ref q2), (0, .ref (u 0)), (1, .int (iI a)), (2, .int (iI b)), (3, .ref o)]) hx hb dL_copy_14 hl (by decide) rfl (fun ls hl => ?_)
  refine q_con hx hb dL_copy_16 ?_
  exact e_i hx hb hr hlk hS dL_copy_17 (by first | exact Nat.le_of_ble_eq_true rfl | ((try dsimp only); omega)) (by first | exact Nat.le_of_ble_eq_true rfl | ((try dsimp only); omega)) ⟨rfl, hcwH1, hoH1⟩

set_option maxHeartbeats 4000000 in
set_option maxRecDepth 100000 in
theorem wn2_copy (θ : TH) (l : Launch) (hl0 : l.stackTraces = false) (S0 : State) (H : Heap) (u : Nat → Nat) (dt sy sm sd : Nat → Int) (bc rf kn : Int) (hw : CWR θ S0 u H dt sy sm sd bc rf kn) (hj : SJ θ S0 H) (hn : NX S0) (o : Nat) (nv : Int) (sv9 : Value) (ho : OB θ H o 8 [.long (lL nv), sv9]) (hod : ∀ i : Nat, i < 7 → o ≠ u i) (a b : Int) (h_0 : -2147483648 ≤ a ∧ a < 2147483648) (h_1 : -2147483648 ≤ b ∧ b < 2147483648) (h_2 : 0 ≤ a ∧ a < 6) (h_3 : ¬ (0 ≤ b ∧ b < 6)) : CTW l yL_copy cL_copy 5 (some .int) [((0 : Nat), (11 : Nat), (14 : Nat), (19 : Nat))] 8 132 1 6 [.ref (u 0), .int (iI a), .int (iI b), .ref o] S0 H (fun v9 H1 => v9 = some (.int (iI 1)) ∧ CW θ u H1 dt sy sm sd bc rf kn ∧ OB θ H1 o 8 [.long (lL nv), sv9]) (fun x : Nat => UA u H.size x ∨ x = o) := by
  refine ctw_of (by decide +kernel) (Nat.le_of_ble_eq_true rfl) ?_
  intro pg en s mi args below meth co ls fx hs hr hlk htab hl
  subst hs
  obtain ⟨hx, hb, hml, hown, hts⟩ := id fx.1
  have hS : va_S (fun x : Nat => UA u s.heap.size x ∨ x = o) s.heap s.heap [] := va_S.rf
  obtain ⟨hz, hu, hcw, hd, hsp⟩ := id hw
  have hK := sz_K fx.2 hz
  refine lv_aload_n hx hb dL_copy_0 rfl (lv_at hl 3 rfl) ?_
  refine lv_aload_n hx hb dL_copy_1 rfl (lv_at hl 0 rfl) ?_
  refine lv_iload_n hx hb dL_copy_2 rfl (lv_at hl 1 rfl) ?_
  refine lv_iload_n hx hb dL_copy_3 rfl (lv_at hl 2 rfl) ?_
  refine c_VT (As := [.int (iI a), .int (iI b)]) (rest := [.ref o]) (b := u 0) (C := RX1) (E := "java/lang/IndexOutOfBoundsException") (name := "java/lang/IndexOutOfBoundsException") (k := 0) (a0 := 0) (a1 := 11) (hpc := 14) (ct := 19) fx hl (no2_copy θ l hl0 S0 _ u _ _ _ _ _ _ _ hw a b h_0 h_1 h_2 h_3) (ob_recv hK hcw.1 rfl) dL_copy_4 k751 k752 k753 k1 k754 hd_X1_copy rfl ⟨by decide, by decide⟩ (Nat.le_of_ble_eq_true rfl) ⟨by (try dsimp only); omega, by (try dsimp only); omega⟩ hS (fun x h => Or.inl (Or.inr h)) htab rfl ⟨by decide, by decide⟩ (by decide) k696 (nw_at (args := args) fx.2 hz.2.2.2.2.2.2.2.2.1 (by decide +kernel)) (by show ∀ q ∈ ([] : List (Nat × Nat × Nat × Nat)), _; exact fun q h => absurd h List.not_mem_nil) (fun q2 H1 locs hszH1 hkH1 hS => ?_)
  have hcwH1 := hcw.kept (fun i hi => hkH1 _ (hcw.lt i hi))
  have hoH1 := ho.kept (hkH1 _ ho.lt)
  refine lv_astore (lv' := [(4, .ref q2), (0, .ref (u 0)), (1, .int (iI a)), (2, .int (iI b)), (3, .ref o)]) hx hb dL_copy_14 hl (by decide) rfl (fun ls hl => ?_)
  refine q_con hx hb dL_copy_16 ?_
  exact e_i hx hb hr hlk hS dL_copy_17 (by first | exact Nat.le_of_ble_eq_true rfl | ((try dsimp only); omega)) (by first | exact Nat.le_of_ble_eq_true rfl | ((try dsimp only); omega)) ⟨rfl, hcwH1, hoH1⟩

set_option maxHeartbeats 4000000 in
set_option maxRecDepth 100000 in
theorem wr_first (θ : TH) (l : Launch) (hl0 : l.stackTraces = false) (S0 : State) (H : Heap) (u : Nat → Nat) (dt sy sm sd : Nat → Int) (bc rf kn : Int) (hw : CWR θ S0 u H dt sy sm sd bc rf kn) (hj : SJ θ S0 H) (hn : NX S0) (o : Nat) (nv : Int) (sv9 : Value) (ho : OB θ H o 8 [.long (lL nv), sv9]) (hod : ∀ i : Nat, i < 7 → o ≠ u i) (a : Int) (h_0 : -2147483648 ≤ a ∧ a < 2147483648) (h_1 : 0 ≤ a ∧ a < 6) : CTW l yL_first cL_first 4 (some .int) [((0 : Nat), (10 : Nat), (13 : Nat), (19 : Nat))] 4 92 0 0 [.ref (u 0), .int (iI a), .ref o] S0 H (fun v9 H1 => v9 = some (.int (iI 0)) ∧ CW θ u H1 (up dt a.toNat (fI (mI (dt a.toNat)))) sy sm sd (bc + 1) rf kn ∧ OB θ H1 o 8 [.long (lL (iI (dt a.toNat - fI (mI (dt a.toNat)))).toInt), sv9]) (fun x : Nat => UA u H.size x ∨ x = o) := by
  refine ctw_of (by decide +kernel) (Nat.le_of_ble_eq_true rfl) ?_
  intro pg en s mi args below meth co ls fx hs hr hlk htab hl
  subst hs
  obtain ⟨hx, hb, hml, hown, hts⟩ := id fx.1
  have hS : va_S (fun x : Nat => UA u s.heap.size x ∨ x = o) s.heap s.heap [] := va_S.rf
  obtain ⟨hz, hu, hcw, hd, hsp⟩ := id hw
  have hK := sz_K fx.2 hz
  refine lv_aload_n hx hb dL_first_0 rfl (lv_at hl 2 rfl) ?_
  refine lv_aload_n hx hb dL_first_1 rfl (lv_at hl 0 rfl) ?_
  refine lv_iload_n hx hb dL_first_2 rfl (lv_at hl 1 rfl) ?_
  refine c_Vr (As := [.int (iI a)]) (rest := [.ref o]) (b := u 0) (C := RX1) (r := some (.int (iI (dt a.toNat - fI (mI (dt a.toNat)))))) (st1 := [.int (iI (dt a.toNat - fI (mI (dt a.toNat)))), .ref o]) fx hl (ok_first θ l hl0 S0 _ u _ _ _ _ _ _ _ hw a h_0 h_1) (ob_recv hK hcw.1 rfl) dL_first_3 k758 k759 k760 k1 k761 hd_X1_first rfl rfl ⟨by decide, by decide⟩ (Nat.le_of_ble_eq_true rfl) ⟨by (try dsimp only); omega, by (try dsimp only); omega⟩ hS (fun x h => Or.inl h) (fun H1 locs hpH1 hszH1 hk0H1 hS => ?_)
  have hoH1 := ho.kept (hk0H1 _ ho.lt (fun h => h.elim (fun ⟨i, hi, e⟩ => hod i hi e) (fun h => Nat.not_le.mpr ho.lt h)))
  have hcwH1 := hpH1
  refine q_i2lx hx hb dL_first_6 ?_
  refine r_putN (θ := θ) (C := RX2) (T := TX2) (N := 2) (ci := 8) (v := .long (lL ((iI (dt a.toNat - fI (mI (dt a.toNat)))).toInt))) (ty := .long) hx hb hts gwX2 tyX2 tyX2_ok nmX2 hown hK hoH1 (Or.inr rfl) hS rfl 0 (by decide) (va_Nw.use rfl (va_Nw.warmF fx.2 hn.2.1)) (fun _ h => h) rfl (by decide +kernel) rfl rfl (Nat.le_of_ble_eq_true rfl) dL_first_7 (fun H2 locs hqH2 hszH2 hkH2 hS => ?_)
  have hoH2 : OB θ H2 o 8 [.long (lL ((iI (dt a.toNat - fI (mI (dt a.toNat)))).toInt)), sv9] := hqH2
  have hcwH2 := hcwH1.kept (fun i hi => hkH2 _ (Ne.symm (hod i hi)))
  refine lv_goto (tgt := 16) hx hb dL_first_10 (by decide) ?_
  refine q_con hx hb dL_first_16 ?_
  exact e_i hx hb hr hlk hS dL_first_17 (by first | exact Nat.le_of_ble_eq_true rfl | ((try dsimp only); omega)) (by first | exact Nat.le_of_ble_eq_true rfl | ((try dsimp only); omega)) ⟨rfl, hcwH2, hoH2⟩

set_option maxHeartbeats 4000000 in
set_option maxRecDepth 100000 in
theorem wn1_first (θ : TH) (l : Launch) (hl0 : l.stackTraces = false) (S0 : State) (H : Heap) (u : Nat → Nat) (dt sy sm sd : Nat → Int) (bc rf kn : Int) (hw : CWR θ S0 u H dt sy sm sd bc rf kn) (hj : SJ θ S0 H) (hn : NX S0) (o : Nat) (nv : Int) (sv9 : Value) (ho : OB θ H o 8 [.long (lL nv), sv9]) (hod : ∀ i : Nat, i < 7 → o ≠ u i) (a : Int) (h_0 : -2147483648 ≤ a ∧ a < 2147483648) (h_1 : ¬ (0 ≤ a ∧ a < 6)) : CTW l yL_first cL_first 4 (some .int) [((0 : Nat), (10 : Nat), (13 : Nat), (19 : Nat))] 8 132 1 6 [.ref (u 0), .int (iI a), .ref o] S0 H (fun v9 H1 => v9 = some (.int (iI 1)) ∧ CW θ u H1 dt sy sm sd bc rf kn ∧ OB θ H1 o 8 [.long (lL nv), sv9]) (fun x : Nat => UA u H.size x ∨ x = o) := by
  refine ctw_of (by decide +kernel) (Nat.le_of_ble_eq_true rfl) ?_
  intro pg en s mi args below meth co ls fx hs hr hlk htab hl
  subst hs
  obtain ⟨hx, hb, hml, hown, hts⟩ := id fx.1
  have hS : va_S (fun x : Nat => UA u s.heap.size x ∨ x = o) s.heap s.heap [] := va_S.rf
  obtain ⟨hz, hu, hcw, hd, hsp⟩ := id hw
  have hK := sz_K fx.2 hz
  refine lv_aload_n hx hb dL_first_0 rfl (lv_at hl 2 rfl) ?_
  refine lv_aload_n hx hb dL_first_1 rfl (lv_at hl 0 rfl) ?_
  refine lv_iload_n hx hb dL_first_2 rfl (lv_at hl 1 rfl) ?_
  refine c_VT (As := [.int (iI a)]) (rest := [.ref o]) (b := u 0) (C := RX1) (E := "java/lang/IndexOutOfBoundsException") (name := "java/lang/IndexOutOfBoundsException") (k := 0) (a0 := 0) (a1 := 10) (hpc := 13) (ct := 19) fx hl (no1_first θ l hl0 S0 _ u _ _ _ _ _ _ _ hw a h_0 h_1) (ob_recv hK hcw.1 rfl) dL_first_3 k758 k759 k760 k1 k761 hd_X1_first rfl ⟨by decide, by decide⟩ (Nat.le_of_ble_eq_true rfl) ⟨by (try dsimp only); omega, by (try dsimp only); omega⟩ hS (fun x h => Or.inl (Or.inr h)) htab rfl ⟨by decide, by decide⟩ (by decide) k696 (nw_at (args := args) fx.2 hz.2.2.2.2.2.2.2.2.1 (by decide +kernel)) (by show ∀ q ∈ ([] : List (Nat × Nat × Nat × Nat)), _; exact fun q h => absurd h List.not_mem_nil) (fun q2 H1 locs hszH1 hkH1 hS => ?_)
  have hcwH1 := hcw.kept (fun i hi => hkH1 _ (hcw.lt i hi))
  have hoH1 := ho.kept (hkH1 _ ho.lt)
  refine lv_astore_n (lv' := [(3, .ref q2), (0, .ref (u 0)), (1, .int (iI a)), (2, .ref o)]) hx hb dL_first_13 rfl hl (by decide) rfl (fun ls hl => ?_)
  refine q_con hx hb dL_first_14 ?_
  exact e_i hx hb hr hlk hS dL_first_15 (by first | exact Nat.le_of_ble_eq_true rfl | ((try dsimp only); omega)) (by first | exact Nat.le_of_ble_eq_true rfl | ((try dsimp only); omega)) ⟨rfl, hcwH1, hoH1⟩

set_option maxHeartbeats 4000000 in
set_option maxRecDepth 100000 in
theorem wr_last (θ : TH) (l : Launch) (hl0 : l.stackTraces = false) (S0 : State) (H : Heap) (u : Nat → Nat) (dt sy sm sd : Nat → Int) (bc rf kn : Int) (hw : CWR θ S0 u H dt sy sm sd bc rf kn) (hj : SJ θ S0 H) (hn : NX S0) (o : Nat) (nv : Int) (sv9 : Value) (ho : OB θ H o 8 [.long (lL nv), sv9]) (hod : ∀ i : Nat, i < 7 → o ≠ u i) (a : Int) (h_0 : -2147483648 ≤ a ∧ a < 2147483648) (h_1 : 0 ≤ a ∧ a < 6) : CTW l yL_last cL_last 4 (some .int) [((0 : Nat), (10 : Nat), (13 : Nat), (19 : Nat))] 4 92 0 0 [.ref (u 0), .int (iI a), .ref o] S0 H (fun v9 H1 => v9 = some (.int (iI 0)) ∧ CW θ u H1 (up dt a.toNat (fI (mI (dt a.toNat) + 1) - 1)) sy sm sd (bc + 1) rf kn ∧ OB θ H1 o 8 [.long (lL (iI (fI (mI (dt a.toNat) + 1) - 1 - dt a.toNat)).toInt), sv9]) (fun x : Nat => UA u H.size x ∨ x = o) := by
  refine ctw_of (by decide +kernel) (Nat.le_of_ble_eq_true rfl) ?_
  intro pg en s mi args below meth co ls fx hs hr hlk htab hl
  subst hs
  obtain ⟨hx, hb, hml, hown, hts⟩ := id fx.1
  have hS : va_S (fun x : Nat => UA u s.heap.size x ∨ x = o) s.heap s.heap [] := va_S.rf
  obtain ⟨hz, hu, hcw, hd, hsp⟩ := id hw
  have hK := sz_K fx.2 hz
  refine lv_aload_n hx hb dL_last_0 rfl (lv_at hl 2 rfl) ?_
  refine lv_aload_n hx hb dL_last_1 rfl (lv_at hl 0 rfl) ?_
  refine lv_iload_n hx hb dL_last_2 rfl (lv_at hl 1 rfl) ?_
  refine c_Vr (As := [.int (iI a)]) (rest := [.ref o]) (b := u 0) (C := RX1) (r := some (.int (iI (fI (mI (dt a.toNat) + 1) - 1 - dt a.toNat)))) (st1 := [.int (iI (fI (mI (dt a.toNat) + 1) - 1 - dt a.toNat)), .ref o]) fx hl (ok_last θ l hl0 S0 _ u _ _ _ _ _ _ _ hw a h_0 h_1) (ob_recv hK hcw.1 rfl) dL_last_3 k765 k766 k767 k1 k768 hd_X1_last rfl rfl ⟨by decide, by decide⟩ (Nat.le_of_ble_eq_true rfl) ⟨by (try dsimp only); omega, by (try dsimp only); omega⟩ hS (fun x h => Or.inl h) (fun H1 locs hpH1 hszH1 hk0H1 hS => ?_)
  have hoH1 := ho.kept (hk0H1 _ ho.lt (fun h => h.elim (fun ⟨i, hi, e⟩ => hod i hi e) (fun h => Nat.not_le.mpr ho.lt h)))
  have hcwH1 := hpH1
  refine q_i2lx hx hb dL_last_6 ?_
  refine r_putN (θ := θ) (C := RX2) (T := TX2) (N := 2) (ci := 8) (v := .long (lL ((iI (fI (mI (dt a.toNat) + 1) - 1 - dt a.toNat)).toInt))) (ty := .long) hx hb hts gwX2 tyX2 tyX2_ok nmX2 hown hK hoH1 (Or.inr rfl) hS rfl 0 (by decide) (va_Nw.use rfl (va_Nw.warmF fx.2 hn.2.1)) (fun _ h => h) rfl (by decide +kernel) rfl rfl (Nat.le_of_ble_eq_true rfl) dL_last_7 (fun H2 locs hqH2 hszH2 hkH2 hS => ?_)
  have hoH2 : OB θ H2 o 8 [.long (lL ((iI (fI (mI (dt a.toNat) + 1) - 1 - dt a.toNat)).toInt)), sv9] := hqH2
  have hcwH2 := hcwH1.kept (fun i hi => hkH2 _ (Ne.symm (hod i hi)))
  refine lv_goto (tgt := 16) hx hb dL_last_10 (by decide) ?_
  refine q_con hx hb dL_last_16 ?_
  exact e_i hx hb hr hlk hS dL_last_17 (by first | exact Nat.le_of_ble_eq_true rfl | ((try dsimp only); omega)) (by first | exact Nat.le_of_ble_eq_true rfl | ((try dsimp only); omega)) ⟨rfl, hcwH2, hoH2⟩

set_option maxHeartbeats 4000000 in
set_option maxRecDepth 100000 in
theorem wn1_last (θ : TH) (l : Launch) (hl0 : l.stackTraces = false) (S0 : State) (H : Heap) (u : Nat → Nat) (dt sy sm sd : Nat → Int) (bc rf kn : Int) (hw : CWR θ S0 u H dt sy sm sd bc rf kn) (hj : SJ θ S0 H) (hn : NX S0) (o : Nat) (nv : Int) (sv9 : Value) (ho : OB θ H o 8 [.long (lL nv), sv9]) (hod : ∀ i : Nat, i < 7 → o ≠ u i) (a : Int) (h_0 : -2147483648 ≤ a ∧ a < 2147483648) (h_1 : ¬ (0 ≤ a ∧ a < 6)) : CTW l yL_last cL_last 4 (some .int) [((0 : Nat), (10 : Nat), (13 : Nat), (19 : Nat))] 8 132 1 6 [.ref (u 0), .int (iI a), .ref o] S0 H (fun v9 H1 => v9 = some (.int (iI 1)) ∧ CW θ u H1 dt sy sm sd bc rf kn ∧ OB θ H1 o 8 [.long (lL nv), sv9]) (fun x : Nat => UA u H.size x ∨ x = o) := by
  refine ctw_of (by decide +kernel) (Nat.le_of_ble_eq_true rfl) ?_
  intro pg en s mi args below meth co ls fx hs hr hlk htab hl
  subst hs
  obtain ⟨hx, hb, hml, hown, hts⟩ := id fx.1
  have hS : va_S (fun x : Nat => UA u s.heap.size x ∨ x = o) s.heap s.heap [] := va_S.rf
  obtain ⟨hz, hu, hcw, hd, hsp⟩ := id hw
  have hK := sz_K fx.2 hz
  refine lv_aload_n hx hb dL_last_0 rfl (lv_at hl 2 rfl) ?_
  refine lv_aload_n hx hb dL_last_1 rfl (lv_at hl 0 rfl) ?_
  refine lv_iload_n hx hb dL_last_2 rfl (lv_at hl 1 rfl) ?_
  refine c_VT (As := [.int (iI a)]) (rest := [.ref o]) (b := u 0) (C := RX1) (E := "java/lang/IndexOutOfBoundsException") (name := "java/lang/IndexOutOfBoundsException") (k := 0) (a0 := 0) (a1 := 10) (hpc := 13) (ct := 19) fx hl (no1_last θ l hl0 S0 _ u _ _ _ _ _ _ _ hw a h_0 h_1) (ob_recv hK hcw.1 rfl) dL_last_3 k765 k766 k767 k1 k768 hd_X1_last rfl ⟨by decide, by decide⟩ (Nat.le_of_ble_eq_true rfl) ⟨by (try dsimp only); omega, by (try dsimp only); omega⟩ hS (fun x h => Or.inl (Or.inr h)) htab rfl ⟨by decide, by decide⟩ (by decide) k696 (nw_at (args := args) fx.2 hz.2.2.2.2.2.2.2.2.1 (by decide +kernel)) (by show ∀ q ∈ ([] : List (Nat × Nat × Nat × Nat)), _; exact fun q h => absurd h List.not_mem_nil) (fun q2 H1 locs hszH1 hkH1 hS => ?_)
  have hcwH1 := hcw.kept (fun i hi => hkH1 _ (hcw.lt i hi))
  have hoH1 := ho.kept (hkH1 _ ho.lt)
  refine lv_astore_n (lv' := [(3, .ref q2), (0, .ref (u 0)), (1, .int (iI a)), (2, .ref o)]) hx hb dL_last_13 rfl hl (by decide) rfl (fun ls hl => ?_)
  refine q_con hx hb dL_last_14 ?_
  exact e_i hx hb hr hlk hS dL_last_15 (by first | exact Nat.le_of_ble_eq_true rfl | ((try dsimp only); omega)) (by first | exact Nat.le_of_ble_eq_true rfl | ((try dsimp only); omega)) ⟨rfl, hcwH1, hoH1⟩

set_option maxHeartbeats 4000000 in
set_option maxRecDepth 100000 in
theorem wr_withDay (θ : TH) (l : Launch) (hl0 : l.stackTraces = false) (S0 : State) (H : Heap) (u : Nat → Nat) (dt sy sm sd : Nat → Int) (bc rf kn : Int) (hw : CWR θ S0 u H dt sy sm sd bc rf kn) (hj : SJ θ S0 H) (hn : NX S0) (o : Nat) (nv : Int) (sv9 : Value) (ho : OB θ H o 8 [.long (lL nv), sv9]) (hod : ∀ i : Nat, i < 7 → o ≠ u i) (a k : Int) (h_0 : -2147483648 ≤ a ∧ a < 2147483648) (h_1 : -2147483648 ≤ k ∧ k < 2147483648) (h_2 : 0 ≤ a ∧ a < 6) (h_3 : 1 ≤ k ∧ k ≤ 31) (h_4 : k ≤ fI (mI (dt a.toNat) + 1) - fI (mI (dt a.toNat))) : CTW l yL_withDay cL_withDay 5 (some .int) [((0 : Nat), (11 : Nat), (14 : Nat), (19 : Nat)), ((0 : Nat), (11 : Nat), (18 : Nat), (21 : Nat)), ((0 : Nat), (11 : Nat), (22 : Nat), (23 : Nat))] 5 111 0 0 [.ref (u 0), .int (iI a), .int (iI k), .ref o] S0 H (fun v9 H1 => v9 = some (.int (iI 0)) ∧ CW θ u H1 (up dt a.toNat (inI (mI (dt a.toNat)) k)) sy sm sd (bc + 1) rf kn ∧ OB θ H1 o 8 [.long (lL (iI (inI (mI (dt a.toNat)) k)).toInt), sv9]) (fun x : Nat => UA u H.size x ∨ x = o) := by
  refine ctw_of (by decide +kernel) (Nat.le_of_ble_eq_true rfl) ?_
  intro pg en s mi args below meth co ls fx hs hr hlk htab hl
  subst hs
  obtain ⟨hx, hb, hml, hown, hts⟩ := id fx.1
  have hS : va_S (fun x : Nat => UA u s.heap.size x ∨ x = o) s.heap s.heap [] := va_S.rf
  obtain ⟨hz, hu, hcw, hd, hsp⟩ := id hw
  have hK := sz_K fx.2 hz
  refine lv_aload_n hx hb dL_withDay_0 rfl (lv_at hl 3 rfl) ?_
  refine lv_aload_n hx hb dL_withDay_1 rfl (lv_at hl 0 rfl) ?_
  refine lv_iload_n hx hb dL_withDay_2 rfl (lv_at hl 1 rfl) ?_
  refine lv_iload_n hx hb dL_withDay_3 rfl (lv_at hl 2 rfl) ?_
  refine c_Vr (As := [.int (iI a), .int (iI k)]) (rest := [.ref o]) (b := u 0) (C := RX1) (r := some (.int (iI (inI (mI (dt a.toNat)) k)))) (st1 := [.int (iI (inI (mI (dt a.toNat)) k)), .ref o]) fx hl (ok_withDay θ l hl0 S0 _ u _ _ _ _ _ _ _ hw a k h_0 h_1 h_2 h_3 h_4) (ob_recv hK hcw.1 rfl) dL_withDay_4 k772 k773 k774 k1 k775 hd_X1_withDay rfl rfl ⟨by decide, by decide⟩ (Nat.le_of_ble_eq_true rfl) ⟨by (try dsimp only); omega, by (try dsimp only); omega⟩ hS (fun x h => Or.inl h) (fun H1 locs hpH1 hszH1 hk0H1 hS => ?_)
  have hoH1 := ho.kept (hk0H1 _ ho.lt (fun h => h.elim (fun ⟨i, hi, e⟩ => hod i hi e) (fun h => Nat.not_le.mpr ho.lt h)))
  have hcwH1 := hpH1
  refine q_i2lx hx hb dL_withDay_7 ?_
  refine r_putN (θ := θ) (C := RX2) (T := TX2) (N := 2) (ci := 8) (v := .long (lL ((iI (inI (mI (dt a.toNat)) k)).toInt))) (ty := .long) hx hb hts gwX2 tyX2 tyX2_ok nmX2 hown hK hoH1 (Or.inr rfl) hS rfl 0 (by decide) (va_Nw.use rfl (va_Nw.warmF fx.2 hn.2.1)) (fun _ h => h) rfl (by decide +kernel) rfl rfl (Nat.le_of_ble_eq_true rfl) dL_withDay_8 (fun H2 locs hqH2 hszH2 hkH2 hS => ?_)
  have hoH2 : OB θ H2 o 8 [.long (lL ((iI (inI (mI (dt a.toNat)) k)).toInt)), sv9] := hqH2
  have hcwH2 := hcwH1.kept (fun i hi => hkH2 _ (Ne.symm (hod i hi)))
  refine lv_goto (tgt := 26) hx hb dL_withDay_11 (by decide) ?_
  refine q_con hx hb dL_withDay_26 ?_
  exact e_i hx hb hr hlk hS dL_withDay_27 (by first | exact Nat.le_of_ble_eq_true rfl | ((try dsimp only); omega)) (by first | exact Nat.le_of_ble_eq_true rfl | ((try dsimp only); omega)) ⟨rfl, hcwH2, hoH2⟩

set_option maxHeartbeats 4000000 in
set_option maxRecDepth 100000 in
theorem wn1_withDay (θ : TH) (l : Launch) (hl0 : l.stackTraces = false) (S0 : State) (H : Heap) (u : Nat → Nat) (dt sy sm sd : Nat → Int) (bc rf kn : Int) (hw : CWR θ S0 u H dt sy sm sd bc rf kn) (hj : SJ θ S0 H) (hn : NX S0) (o : Nat) (nv : Int) (sv9 : Value) (ho : OB θ H o 8 [.long (lL nv), sv9]) (hod : ∀ i : Nat, i < 7 → o ≠ u i) (a k : Int) (h_0 : -2147483648 ≤ a ∧ a < 2147483648) (h_1 : -2147483648 ≤ k ∧ k < 2147483648) (h_2 : ¬ (0 ≤ a ∧ a < 6)) : CTW l yL_withDay cL_withDay 5 (some .int) [((0 : Nat), (11 : Nat), (14 : Nat), (19 : Nat)), ((0 : Nat), (11 : Nat), (18 : Nat), (21 : Nat)), ((0 : Nat), (11 : Nat), (22 : Nat), (23 : Nat))] 8 133 1 6 [.ref (u 0), .int (iI a), .int (iI k), .ref o] S0 H (fun v9 H1 => v9 = some (.int (iI 1)) ∧ CW θ u H1 dt sy sm sd bc rf kn ∧ OB θ H1 o 8 [.long (lL nv), sv9]) (fun x : Nat => UA u H.size x ∨ x = o) := by
  refine ctw_of (by decide +kernel) (Nat.le_of_ble_eq_true rfl) ?_
  intro pg en s mi args below meth co ls fx hs hr hlk htab hl
  subst hs
  obtain ⟨hx, hb, hml, hown, hts⟩ := id fx.1
  have hS : va_S (fun x : Nat => UA u s.heap.size x ∨ x = o) s.heap s.heap [] := va_S.rf
  obtain ⟨hz, hu, hcw, hd, hsp⟩ := id hw
  have hK := sz_K fx.2 hz
  refine lv_aload_n hx hb dL_withDay_0 rfl (lv_at hl 3 rfl) ?_
  refine lv_aload_n hx hb dL_withDay_1 rfl (lv_at hl 0 rfl) ?_
  refine lv_iload_n hx hb dL_withDay_2 rfl (lv_at hl 1 rfl) ?_
  refine lv_iload_n hx hb dL_withDay_3 rfl (lv_at hl 2 rfl) ?_
  refine c_VT (As := [.int (iI a), .int (iI k)]) (rest := [.ref o]) (b := u 0) (C := RX1) (E := "java/lang/IndexOutOfBoundsException") (name := "java/lang/IndexOutOfBoundsException") (k := 0) (a0 := 0) (a1 := 11) (hpc := 14) (ct := 19) fx hl (no1_withDay θ l hl0 S0 _ u _ _ _ _ _ _ _ hw a k h_0 h_1 h_2) (ob_recv hK hcw.1 rfl) dL_withDay_4 k772 k773 k774 k1 k775 hd_X1_withDay rfl ⟨by decide, by decide⟩ (Nat.le_of_ble_eq_true rfl) ⟨by (try dsimp only); omega, by (try dsimp only); omega⟩ hS (fun x h => Or.inl (Or.inr h)) htab rfl ⟨by decide, by decide⟩ (by decide) k696 (nw_at (args := args) fx.2 hz.2.2.2.2.2.2.2.2.1 (by decide +kernel)) (by show ∀ q ∈ ([] : List (Nat × Nat × Nat × Nat)), _; exact fun q h => absurd h List.not_mem_nil) (fun q2 H1 locs hszH1 hkH1 hS => ?_)
  have hcwH1 := hcw.kept (fun i hi => hkH1 _ (hcw.lt i hi))
  have hoH1 := ho.kept (hkH1 _ ho.lt)
  refine lv_astore (lv' := [(4, .ref q2), (0, .ref (u 0)), (1, .int (iI a)), (2, .int (iI k)), (3, .ref o)]) hx hb dL_withDay_14 hl (by decide) rfl (fun ls hl => ?_)
  refine q_con hx hb dL_withDay_16 ?_
  exact e_i hx hb hr hlk hS dL_withDay_17 (by first | exact Nat.le_of_ble_eq_true rfl | ((try dsimp only); omega)) (by first | exact Nat.le_of_ble_eq_true rfl | ((try dsimp only); omega)) ⟨rfl, hcwH1, hoH1⟩

set_option maxHeartbeats 4000000 in
set_option maxRecDepth 100000 in
theorem wn2_withDay (θ : TH) (l : Launch) (hl0 : l.stackTraces = false) (S0 : State) (H : Heap) (u : Nat → Nat) (dt sy sm sd : Nat → Int) (bc rf kn : Int) (hw : CWR θ S0 u H dt sy sm sd bc rf kn) (hj : SJ θ S0 H) (hn : NX S0) (o : Nat) (nv : Int) (sv9 : Value) (ho : OB θ H o 8 [.long (lL nv), sv9]) (hod : ∀ i : Nat, i < 7 → o ≠ u i) (a k : Int) (h_0 : -2147483648 ≤ a ∧ a < 2147483648) (h_1 : -2147483648 ≤ k ∧ k < 2147483648) (h_2 : 0 ≤ a ∧ a < 6) (h_3 : ¬ (1 ≤ k ∧ k ≤ 31)) : CTW l yL_withDay cL_withDay 5 (some .int) [((0 : Nat), (11 : Nat), (14 : Nat), (19 : Nat)), ((0 : Nat), (11 : Nat), (18 : Nat), (21 : Nat)), ((0 : Nat), (11 : Nat), (22 : Nat), (23 : Nat))] 8 135 1 6 [.ref (u 0), .int (iI a), .int (iI k), .ref o] S0 H (fun v9 H1 => v9 = some (.int (iI 2)) ∧ CW θ u H1 dt sy sm sd bc rf kn ∧ OB θ H1 o 8 [.long (lL nv), sv9]) (fun x : Nat => UA u H.size x ∨ x = o) := by
  refine ctw_of (by decide +kernel) (Nat.le_of_ble_eq_true rfl) ?_
  intro pg en s mi args below meth co ls fx hs hr hlk htab hl
  subst hs
  obtain ⟨hx, hb, hml, hown, hts⟩ := id fx.1
  have hS : va_S (fun x : Nat => UA u s.heap.size x ∨ x = o) s.heap s.heap [] := va_S.rf
  obtain ⟨hz, hu, hcw, hd, hsp⟩ := id hw
  have hK := sz_K fx.2 hz
  refine lv_aload_n hx hb dL_withDay_0 rfl (lv_at hl 3 rfl) ?_
  refine lv_aload_n hx hb dL_withDay_1 rfl (lv_at hl 0 rfl) ?_
  refine lv_iload_n hx hb dL_withDay_2 rfl (lv_at hl 1 rfl) ?_
  refine lv_iload_n hx hb dL_withDay_3 rfl (lv_at hl 2 rfl) ?_
  refine c_VT (As := [.int (iI a), .int (iI k)]) (rest := [.ref o]) (b := u 0) (C := RX1) (E := "java/lang/IllegalArgumentException") (name := "java/lang/IllegalArgumentException") (k := 1) (a0 := 0) (a1 := 11) (hpc := 18) (ct := 21) fx hl (no2_withDay θ l hl0 S0 _ u _ _ _ _ _ _ _ hw a k h_0 h_1 h_2 h_3) (ob_recv hK hcw.1 rfl) dL_withDay_4 k772 k773 k774 k1 k775 hd_X1_withDay rfl ⟨by decide, by decide⟩ (Nat.le_of_ble_eq_true rfl) ⟨by (try dsimp only); omega, by (try dsimp only); omega⟩ hS (fun x h => Or.inl (Or.inr h)) htab rfl ⟨by decide, by decide⟩ (by decide) k697 (nw_at (args := args) fx.2 hz.2.2.2.2.2.2.2.2.1 (by decide +kernel)) (by show ∀ q ∈ ([(0, 11, 14, 19)] : List (Nat × Nat × Nat × Nat)), _; exact List.forall_mem_cons.mpr ⟨⟨by decide, _, k696, hn.1.1⟩, fun q h => absurd h List.not_mem_nil⟩) (fun q2 H1 locs hszH1 hkH1 hS => ?_)
  have hcwH1 := hcw.kept (fun i hi => hkH1 _ (hcw.lt i hi))
  have hoH1 := ho.kept (hkH1 _ ho.lt)
  refine lv_astore (lv' := [(4, .ref q2), (0, .ref (u 0)), (1, .int (iI a)), (2, .int (iI k)), (3, .ref o)]) hx hb dL_withDay_18 hl (by decide) rfl (fun ls hl => ?_)
  refine q_con hx hb dL_withDay_20 ?_
  exact e_i hx hb hr hlk hS dL_withDay_21 (by first | exact Nat.le_of_ble_eq_true rfl | ((try dsimp only); omega)) (by first | exact Nat.le_of_ble_eq_true rfl | ((try dsimp only); omega)) ⟨rfl, hcwH1, hoH1⟩

set_option maxHeartbeats 4000000 in
set_option maxRecDepth 100000 in
theorem wn3_withDay (θ : TH) (l : Launch) (hl0 : l.stackTraces = false) (S0 : State) (H : Heap) (u : Nat → Nat) (dt sy sm sd : Nat → Int) (bc rf kn : Int) (hw : CWR θ S0 u H dt sy sm sd bc rf kn) (hj : SJ θ S0 H) (hn : NX S0) (o : Nat) (nv : Int) (sv9 : Value) (ho : OB θ H o 8 [.long (lL nv), sv9]) (hod : ∀ i : Nat, i < 7 → o ≠ u i) (a k : Int) (h_0 : -2147483648 ≤ a ∧ a < 2147483648) (h_1 : -2147483648 ≤ k ∧ k < 2147483648) (h_2 : 0 ≤ a ∧ a < 6) (h_3 : 1 ≤ k ∧ k ≤ 31) (h_4 : ¬ (k ≤ fI (mI (dt a.toNat) + 1) - fI (mI (dt a.toNat)))) : CTW l yL_withDay cL_withDay 5 (some .int) [((0 : Nat), (11 : Nat), (14 : Nat), (19 : Nat)), ((0 : Nat), (11 : Nat), (18 : Nat), (21 : Nat)), ((0 : Nat), (11 : Nat), (22 : Nat), (23 : Nat))] 8 134 1 6 [.ref (u 0), .int (iI a), .int (iI k), .ref o] S0 H (fun v9 H1 => v9 = some (.int (iI 3)) ∧ CW θ u H1 dt sy sm sd bc rf kn ∧ OB θ H1 o 8 [.long (lL nv), sv9]) (fun x : Nat => UA u H.size x ∨ x = o) := by
  refine ctw_of (by decide +kernel) (Nat.le_of_ble_eq_true rfl) ?_
  intro pg en s mi args below meth co ls fx hs hr hlk htab hl
  subst hs
  obtain ⟨hx, hb, hml, hown, hts⟩ := id fx.1
  have hS : va_S (fun x : Nat => UA u s.heap.size x ∨ x = o) s.heap s.heap [] := va_S.rf
  obtain ⟨hz, hu, hcw, hd, hsp⟩ := id hw
  have hK := sz_K fx.2 hz
  refine lv_aload_n hx hb dL_withDay_0 rfl (lv_at hl 3 rfl) ?_
  refine lv_aload_n hx hb dL_withDay_1 rfl (lv_at hl 0 rfl) ?_
  refine lv_iload_n hx hb dL_withDay_2 rfl (lv_at hl 1 rfl) ?_
  refine lv_iload_n hx hb dL_withDay_3 rfl (lv_at hl 2 rfl) ?_
  refine c_VT (As := [.int (iI a), .int (iI k)]) (rest := [.ref o]) (b := u 0) (C := RX1) (E := "java/lang/IllegalStateException") (name := "java/lang/IllegalStateException") (k := 2) (a0 := 0) (a1 := 11) (hpc := 22) (ct := 23) fx hl (no3_withDay θ l hl0 S0 _ u _ _ _ _ _ _ _ hw a k h_0 h_1 h_2 h_3 h_4) (ob_recv hK hcw.1 rfl) dL_withDay_4 k772 k773 k774 k1 k775 hd_X1_withDay rfl ⟨by decide, by decide⟩ (Nat.le_of_ble_eq_true rfl) ⟨by (try dsimp only); omega, by (try dsimp only); omega⟩ hS (fun x h => Or.inl (Or.inr h)) htab rfl ⟨by decide, by decide⟩ (by decide) k698 (nw_at (args := args) fx.2 hz.2.2.2.2.2.2.2.2.1 (by decide +kernel)) (by show ∀ q ∈ ([(0, 11, 14, 19), (0, 11, 18, 21)] : List (Nat × Nat × Nat × Nat)), _; exact List.forall_mem_cons.mpr ⟨⟨by decide, _, k696, hn.1.2.1⟩, List.forall_mem_cons.mpr ⟨⟨by decide, _, k697, hn.1.2.2⟩, fun q h => absurd h List.not_mem_nil⟩⟩) (fun q2 H1 locs hszH1 hkH1 hS => ?_)
  have hcwH1 := hcw.kept (fun i hi => hkH1 _ (hcw.lt i hi))
  have hoH1 := ho.kept (hkH1 _ ho.lt)
  refine lv_astore (lv' := [(4, .ref q2), (0, .ref (u 0)), (1, .int (iI a)), (2, .int (iI k)), (3, .ref o)]) hx hb dL_withDay_22 hl (by decide) rfl (fun ls hl => ?_)
  refine q_con hx hb dL_withDay_24 ?_
  exact e_i hx hb hr hlk hS dL_withDay_25 (by first | exact Nat.le_of_ble_eq_true rfl | ((try dsimp only); omega)) (by first | exact Nat.le_of_ble_eq_true rfl | ((try dsimp only); omega)) ⟨rfl, hcwH1, hoH1⟩

set_option maxHeartbeats 4000000 in
set_option maxRecDepth 100000 in
theorem wr_shift (θ : TH) (l : Launch) (hl0 : l.stackTraces = false) (S0 : State) (H : Heap) (u : Nat → Nat) (dt sy sm sd : Nat → Int) (bc rf kn : Int) (hw : CWR θ S0 u H dt sy sm sd bc rf kn) (hj : SJ θ S0 H) (hn : NX S0) (o : Nat) (nv : Int) (sv9 : Value) (ho : OB θ H o 8 [.long (lL nv), sv9]) (hod : ∀ i : Nat, i < 7 → o ≠ u i) (a n : Int) (h_0 : -2147483648 ≤ a ∧ a < 2147483648) (h_1 : -2147483648 ≤ n ∧ n < 2147483648) (h_2 : 0 ≤ a ∧ a < 6) (h_3 : -240000 ≤ n ∧ n ≤ 240000) (h_4 : -4371587 ≤ shI (dt a.toNat) n ∧ shI (dt a.toNat) n ≤ 2932896) : CTW l yL_shift cL_shift 5 (some .int) [((0 : Nat), (11 : Nat), (14 : Nat), (19 : Nat)), ((0 : Nat), (11 : Nat), (18 : Nat), (21 : Nat)), ((0 : Nat), (11 : Nat), (22 : Nat), (23 : Nat))] 5 115 0 0 [.ref (u 0), .int (iI a), .int (iI n), .ref o] S0 H (fun v9 H1 => v9 = some (.int (iI 0)) ∧ CW θ u H1 (up dt a.toNat (shI (dt a.toNat) n)) sy sm sd (bc + 1) rf kn ∧ OB θ H1 o 8 [.long (lL (iI (dI (shI (dt a.toNat) n))).toInt), sv9]) (fun x : Nat => UA u H.size x ∨ x = o) := by
  refine ctw_of (by decide +kernel) (Nat.le_of_ble_eq_true rfl) ?_
  intro pg en s mi args below meth co ls fx hs hr hlk htab hl
  subst hs
  obtain ⟨hx, hb, hml, hown, hts⟩ := id fx.1
  have hS : va_S (fun x : Nat => UA u s.heap.size x ∨ x = o) s.heap s.heap [] := va_S.rf
  obtain ⟨hz, hu, hcw, hd, hsp⟩ := id hw
  have hK := sz_K fx.2 hz
  refine lv_aload_n hx hb dL_shift_0 rfl (lv_at hl 3 rfl) ?_
  refine lv_aload_n hx hb dL_shift_1 rfl (lv_at hl 0 rfl) ?_
  refine lv_iload_n hx hb dL_shift_2 rfl (lv_at hl 1 rfl) ?_
  refine lv_iload_n hx hb dL_shift_3 rfl (lv_at hl 2 rfl) ?_
  refine c_Vr (As := [.int (iI a), .int (iI n)]) (rest := [.ref o]) (b := u 0) (C := RX1) (r := some (.int (iI (dI (shI (dt a.toNat) n))))) (st1 := [.int (iI (dI (shI (dt a.toNat) n))), .ref o]) fx hl (ok_shift θ l hl0 S0 _ u _ _ _ _ _ _ _ hw a n h_0 h_1 h_2 h_3 h_4) (ob_recv hK hcw.1 rfl) dL_shift_4 k779 k780 k781 k1 k782 hd_X1_shift rfl rfl ⟨by decide, by decide⟩ (Nat.le_of_ble_eq_true rfl) ⟨by (try dsimp only); omega, by (try dsimp only); omega⟩ hS (fun x h => Or.inl h) (fun H1 locs hpH1 hszH1 hk0H1 hS => ?_)
  have hoH1 := ho.kept (hk0H1 _ ho.lt (fun h => h.elim (fun ⟨i, hi, e⟩ => hod i hi e) (fun h => Nat.not_le.mpr ho.lt h)))
  have hcwH1 := hpH1
  refine q_i2lx hx hb dL_shift_7 ?_
  refine r_putN (θ := θ) (C := RX2) (T := TX2) (N := 2) (ci := 8) (v := .long (lL ((iI (dI (shI (dt a.toNat) n))).toInt))) (ty := .long) hx hb hts gwX2 tyX2 tyX2_ok nmX2 hown hK hoH1 (Or.inr rfl) hS rfl 0 (by decide) (va_Nw.use rfl (va_Nw.warmF fx.2 hn.2.1)) (fun _ h => h) rfl (by decide +kernel) rfl rfl (Nat.le_of_ble_eq_true rfl) dL_shift_8 (fun H2 locs hqH2 hszH2 hkH2 hS => ?_)
  have hoH2 : OB θ H2 o 8 [.long (lL ((iI (dI (shI (dt a.toNat) n))).toInt)), sv9] := hqH2
  have hcwH2 := hcwH1.kept (fun i hi => hkH2 _ (Ne.symm (hod i hi)))
  refine lv_goto (tgt := 26) hx hb dL_shift_11 (by decide) ?_
  refine q_con hx hb dL_shift_26 ?_
  exact e_i hx hb hr hlk hS dL_shift_27 (by first | exact Nat.le_of_ble_eq_true rfl | ((try dsimp only); omega)) (by first | exact Nat.le_of_ble_eq_true rfl | ((try dsimp only); omega)) ⟨rfl, hcwH2, hoH2⟩

set_option maxHeartbeats 4000000 in
set_option maxRecDepth 100000 in
theorem wn1_shift (θ : TH) (l : Launch) (hl0 : l.stackTraces = false) (S0 : State) (H : Heap) (u : Nat → Nat) (dt sy sm sd : Nat → Int) (bc rf kn : Int) (hw : CWR θ S0 u H dt sy sm sd bc rf kn) (hj : SJ θ S0 H) (hn : NX S0) (o : Nat) (nv : Int) (sv9 : Value) (ho : OB θ H o 8 [.long (lL nv), sv9]) (hod : ∀ i : Nat, i < 7 → o ≠ u i) (a n : Int) (h_0 : -2147483648 ≤ a ∧ a < 2147483648) (h_1 : -2147483648 ≤ n ∧ n < 2147483648) (h_2 : ¬ (0 ≤ a ∧ a < 6)) : CTW l yL_shift cL_shift 5 (some .int) [((0 : Nat), (11 : Nat), (14 : Nat), (19 : Nat)), ((0 : Nat), (11 : Nat), (18 : Nat), (21 : Nat)), ((0 : Nat), (11 : Nat), (22 : Nat), (23 : Nat))] 8 133 1 6 [.ref (u 0), .int (iI a), .int (iI n), .ref o] S0 H (fun v9 H1 => v9 = some (.int (iI 1)) ∧ CW θ u H1 dt sy sm sd bc rf kn ∧ OB θ H1 o 8 [.long (lL nv), sv9]) (fun x : Nat => UA u H.size x ∨ x = o) := by
  refine ctw_of (by decide +kernel) (Nat.le_of_ble_eq_true rfl) ?_
  intro pg en s mi args below meth co ls fx hs hr hlk htab hl
  subst hs
  obtain ⟨hx, hb, hml, hown, hts⟩ := id fx.1
  have hS : va_S (fun x : Nat => UA u s.heap.size x ∨ x = o) s.heap s.heap [] := va_S.rf
  obtain ⟨hz, hu, hcw, hd, hsp⟩ := id hw
  have hK := sz_K fx.2 hz
  refine lv_aload_n hx hb dL_shift_0 rfl (lv_at hl 3 rfl) ?_
  refine lv_aload_n hx hb dL_shift_1 rfl (lv_at hl 0 rfl) ?_
  refine lv_iload_n hx hb dL_shift_2 rfl (lv_at hl 1 rfl) ?_
  refine lv_iload_n hx hb dL_shift_3 rfl (lv_at hl 2 rfl) ?_
  refine c_VT (As := [.int (iI a), .int (iI n)]) (rest := [.ref o]) (b := u 0) (C := RX1) (E := "java/lang/IndexOutOfBoundsException") (name := "java/lang/IndexOutOfBoundsException") (k := 0) (a0 := 0) (a1 := 11) (hpc := 14) (ct := 19) fx hl (no1_shift θ l hl0 S0 _ u _ _ _ _ _ _ _ hw a n h_0 h_1 h_2) (ob_recv hK hcw.1 rfl) dL_shift_4 k779 k780 k781 k1 k782 hd_X1_shift rfl ⟨by decide, by decide⟩ (Nat.le_of_ble_eq_true rfl) ⟨by (try dsimp only); omega, by (try dsimp only); omega⟩ hS (fun x h => Or.inl (Or.inr h)) htab rfl ⟨by decide, by decide⟩ (by decide) k696 (nw_at (args := args) fx.2 hz.2.2.2.2.2.2.2.2.1 (by decide +kernel)) (by show ∀ q ∈ ([] : List (Nat × Nat × Nat × Nat)), _; exact fun q h => absurd h List.not_mem_nil) (fun q2 H1 locs hszH1 hkH1 hS => ?_)
  have hcwH1 := hcw.kept (fun i hi => hkH1 _ (hcw.lt i hi))
  have hoH1 := ho.kept (hkH1 _ ho.lt)
  refine lv_astore (lv' := [(4, .ref q2), (0, .ref (u 0)), (1, .int (iI a)), (2, .int (iI n)), (3, .ref o)]) hx hb dL_shift_14 hl (by decide) rfl (fun ls hl => ?_)
  refine q_con hx hb dL_shift_16 ?_
  exact e_i hx hb hr hlk hS dL_shift_17 (by first | exact Nat.le_of_ble_eq_true rfl | ((try dsimp only); omega)) (by first | exact Nat.le_of_ble_eq_true rfl | ((try dsimp only); omega)) ⟨rfl, hcwH1, hoH1⟩

set_option maxHeartbeats 4000000 in
set_option maxRecDepth 100000 in
theorem wn2_shift (θ : TH) (l : Launch) (hl0 : l.stackTraces = false) (S0 : State) (H : Heap) (u : Nat → Nat) (dt sy sm sd : Nat → Int) (bc rf kn : Int) (hw : CWR θ S0 u H dt sy sm sd bc rf kn) (hj : SJ θ S0 H) (hn : NX S0) (o : Nat) (nv : Int) (sv9 : Value) (ho : OB θ H o 8 [.long (lL nv), sv9]) (hod : ∀ i : Nat, i < 7 → o ≠ u i) (a n : Int) (h_0 : -2147483648 ≤ a ∧ a < 2147483648) (h_1 : -2147483648 ≤ n ∧ n < 2147483648) (h_2 : 0 ≤ a ∧ a < 6) (h_3 : ¬ (-240000 ≤ n ∧ n ≤ 240000)) : CTW l yL_shift cL_shift 5 (some .int) [((0 : Nat), (11 : Nat), (14 : Nat), (19 : Nat)), ((0 : Nat), (11 : Nat), (18 : Nat), (21 : Nat)), ((0 : Nat), (11 : Nat), (22 : Nat), (23 : Nat))] 9 155 1 6 [.ref (u 0), .int (iI a), .int (iI n), .ref o] S0 H (fun v9 H1 => v9 = some (.int (iI 2)) ∧ CW θ u H1 dt sy sm sd bc rf kn ∧ OB θ H1 o 8 [.long (lL nv), sv9]) (fun x : Nat => UA u H.size x ∨ x = o) := by
  refine ctw_of (by decide +kernel) (Nat.le_of_ble_eq_true rfl) ?_
  intro pg en s mi args below meth co ls fx hs hr hlk htab hl
  subst hs
  obtain ⟨hx, hb, hml, hown, hts⟩ := id fx.1
  have hS : va_S (fun x : Nat => UA u s.heap.size x ∨ x = o) s.heap s.heap [] := va_S.rf
  obtain ⟨hz, hu, hcw, hd, hsp⟩ := id hw
  have hK := sz_K fx.2 hz
  refine lv_aload_n hx hb dL_shift_0 rfl (lv_at hl 3 rfl) ?_
  refine lv_aload_n hx hb dL_shift_1 rfl (lv_at hl 0 rfl) ?_
  refine lv_iload_n hx hb dL_shift_2 rfl (lv_at hl 1 rfl) ?_
  refine lv_iload_n hx hb dL_shift_3 rfl (lv_at hl 2 rfl) ?_
  refine c_VT (As := [.int (iI a), .int (iI n)]) (rest := [.ref o]) (b := u 0) (C := RX1) (E := "java/lang/IllegalArgumentException") (name := "java/lang/IllegalArgumentException") (k := 1) (a0 := 0) (a1 := 11) (hpc := 18) (ct := 21) fx hl (no2_shift θ l hl0 S0 _ u _ _ _ _ _ _ _ hw a n h_0 h_1 h_2 h_3) (ob_recv hK hcw.1 rfl) dL_shift_4 k779 k780 k781 k1 k782 hd_X1_shift rfl ⟨by decide, by decide⟩ (Nat.le_of_ble_eq_true rfl) ⟨by (try dsimp only); omega, by (try dsimp only); omega⟩ hS (fun x h => Or.inl (Or.inr h)) htab rfl ⟨by decide, by decide⟩ (by decide) k697 (nw_at (args := args) fx.2 hz.2.2.2.2.2.2.2.2.1 (by decide +kernel)) (by show ∀ q ∈ ([(0, 11, 14, 19)] : List (Nat × Nat × Nat × Nat)), _; exact List.forall_mem_cons.mpr ⟨⟨by decide, _, k696, hn.1.1⟩, fun q h => absurd h List.not_mem_nil⟩) (fun q2 H1 locs hszH1 hkH1 hS => ?_)
  have hcwH1 := hcw.kept (fun i hi => hkH1 _ (hcw.lt i hi))
  have hoH1 := ho.kept (hkH1 _ ho.lt)
  refine lv_astore (lv' := [(4, .ref q2), (0, .ref (u 0)), (1, .int (iI a)), (2, .int (iI n)), (3, .ref o)]) hx hb dL_shift_18 hl (by decide) rfl (fun ls hl => ?_)
  refine q_con hx hb dL_shift_20 ?_
  exact e_i hx hb hr hlk hS dL_shift_21 (by first | exact Nat.le_of_ble_eq_true rfl | ((try dsimp only); omega)) (by first | exact Nat.le_of_ble_eq_true rfl | ((try dsimp only); omega)) ⟨rfl, hcwH1, hoH1⟩

set_option maxHeartbeats 4000000 in
set_option maxRecDepth 100000 in
theorem wn3_shift (θ : TH) (l : Launch) (hl0 : l.stackTraces = false) (S0 : State) (H : Heap) (u : Nat → Nat) (dt sy sm sd : Nat → Int) (bc rf kn : Int) (hw : CWR θ S0 u H dt sy sm sd bc rf kn) (hj : SJ θ S0 H) (hn : NX S0) (o : Nat) (nv : Int) (sv9 : Value) (ho : OB θ H o 8 [.long (lL nv), sv9]) (hod : ∀ i : Nat, i < 7 → o ≠ u i) (a n : Int) (h_0 : -2147483648 ≤ a ∧ a < 2147483648) (h_1 : -2147483648 ≤ n ∧ n < 2147483648) (h_2 : 0 ≤ a ∧ a < 6) (h_3 : -240000 ≤ n ∧ n ≤ 240000) (h_4 : ¬ (-4371587 ≤ shI (dt a.toNat) n ∧ shI (dt a.toNat) n ≤ 2932896)) : CTW l yL_shift cL_shift 5 (some .int) [((0 : Nat), (11 : Nat), (14 : Nat), (19 : Nat)), ((0 : Nat), (11 : Nat), (18 : Nat), (21 : Nat)), ((0 : Nat), (11 : Nat), (22 : Nat), (23 : Nat))] 8 133 1 6 [.ref (u 0), .int (iI a), .int (iI n), .ref o] S0 H (fun v9 H1 => v9 = some (.int (iI 3)) ∧ CW θ u H1 dt sy sm sd bc rf kn ∧ OB θ H1 o 8 [.long (lL nv), sv9]) (fun x : Nat => UA u H.size x ∨ x = o) := by
  refine ctw_of (by decide +kernel) (Nat.le_of_ble_eq_true rfl) ?_
  intro pg en s mi args below meth co ls fx hs hr hlk htab hl
  subst hs
  obtain ⟨hx, hb, hml, hown, hts⟩ := id fx.1
  have hS : va_S (fun x : Nat => UA u s.heap.size x ∨ x = o) s.heap s.heap [] := va_S.rf
  obtain ⟨hz, hu, hcw, hd, hsp⟩ := id hw
  have hK := sz_K fx.2 hz
  refine lv_aload_n hx hb dL_shift_0 rfl (lv_at hl 3 rfl) ?_
  refine lv_aload_n hx hb dL_shift_1 rfl (lv_at hl 0 rfl) ?_
  refine lv_iload_n hx hb dL_shift_2 rfl (lv_at hl 1 rfl) ?_
  refine lv_iload_n hx hb dL_shift_3 rfl (lv_at hl 2 rfl) ?_
  refine c_VT (As := [.int (iI a), .int (iI n)]) (rest := [.ref o]) (b := u 0) (C := RX1) (E := "java/lang/IllegalStateException") (name := "java/lang/IllegalStateException") (k := 2) (a0 := 0) (a1 := 11) (hpc := 22) (ct := 23) fx hl (no3_shift θ l hl0 S0 _ u _ _ _ _ _ _ _ hw a n h_0 h_1 h_2 h_3 h_4) (ob_recv hK hcw.1 rfl) dL_shift_4 k779 k780 k781 k1 k782 hd_X1_shift rfl ⟨by decide, by decide⟩ (Nat.le_of_ble_eq_true rfl) ⟨by (try dsimp only); omega, by (try dsimp only); omega⟩ hS (fun x h => Or.inl (Or.inr h)) htab rfl ⟨by decide, by decide⟩ (by decide) k698 (nw_at (args := args) fx.2 hz.2.2.2.2.2.2.2.2.1 (by decide +kernel)) (by show ∀ q ∈ ([(0, 11, 14, 19), (0, 11, 18, 21)] : List (Nat × Nat × Nat × Nat)), _; exact List.forall_mem_cons.mpr ⟨⟨by decide, _, k696, hn.1.2.1⟩, List.forall_mem_cons.mpr ⟨⟨by decide, _, k697, hn.1.2.2⟩, fun q h => absurd h List.not_mem_nil⟩⟩) (fun q2 H1 locs hszH1 hkH1 hS => ?_)
  have hcwH1 := hcw.kept (fun i hi => hkH1 _ (hcw.lt i hi))
  have hoH1 := ho.kept (hkH1 _ ho.lt)
  refine lv_astore (lv' := [(4, .ref q2), (0, .ref (u 0)), (1, .int (iI a)), (2, .int (iI n)), (3, .ref o)]) hx hb dL_shift_22 hl (by decide) rfl (fun ls hl => ?_)
  refine q_con hx hb dL_shift_24 ?_
  exact e_i hx hb hr hlk hS dL_shift_25 (by first | exact Nat.le_of_ble_eq_true rfl | ((try dsimp only); omega)) (by first | exact Nat.le_of_ble_eq_true rfl | ((try dsimp only); omega)) ⟨rfl, hcwH1, hoH1⟩

set_option maxHeartbeats 4000000 in
set_option maxRecDepth 100000 in
theorem wr_shiftYears (θ : TH) (l : Launch) (hl0 : l.stackTraces = false) (S0 : State) (H : Heap) (u : Nat → Nat) (dt sy sm sd : Nat → Int) (bc rf kn : Int) (hw : CWR θ S0 u H dt sy sm sd bc rf kn) (hj : SJ θ S0 H) (hn : NX S0) (o : Nat) (nv : Int) (sv9 : Value) (ho : OB θ H o 8 [.long (lL nv), sv9]) (hod : ∀ i : Nat, i < 7 → o ≠ u i) (a n : Int) (h_0 : -2147483648 ≤ a ∧ a < 2147483648) (h_1 : -2147483648 ≤ n ∧ n < 2147483648) (h_2 : 0 ≤ a ∧ a < 6) (h_3 : -20000 ≤ n ∧ n ≤ 20000) (h_4 : -4371587 ≤ shI (dt a.toNat) (12 * n) ∧ shI (dt a.toNat) (12 * n) ≤ 2932896) : CTW l yL_shiftYears cL_shiftYears 5 (some .int) [((0 : Nat), (11 : Nat), (14 : Nat), (19 : Nat)), ((0 : Nat), (11 : Nat), (18 : Nat), (21 : Nat)), ((0 : Nat), (11 : Nat), (22 : Nat), (23 : Nat))] 5 115 0 0 [.ref (u 0), .int (iI a), .int (iI n), .ref o] S0 H (fun v9 H1 => v9 = some (.int (iI 0)) ∧ CW θ u H1 (up dt a.toNat (shI (dt a.toNat) (12 * n))) sy sm sd (bc + 1) rf kn ∧ OB θ H1 o 8 [.long (lL (iI (dI (shI (dt a.toNat) (12 * n)))).toInt), sv9]) (fun x : Nat => UA u H.size x ∨ x = o) := by
  refine ctw_of (by decide +kernel) (Nat.le_of_ble_eq_true rfl) ?_
  intro pg en s mi args below meth co ls fx hs hr hlk htab hl
  subst hs
  obtain ⟨hx, hb, hml, hown, hts⟩ := id fx.1
  have hS : va_S (fun x : Nat => UA u s.heap.size x ∨ x = o) s.heap s.heap [] := va_S.rf
  obtain ⟨hz, hu, hcw, hd, hsp⟩ := id hw
  have hK := sz_K fx.2 hz
  refine lv_aload_n hx hb dL_shiftYears_0 rfl (lv_at hl 3 rfl) ?_
  refine lv_aload_n hx hb dL_shiftYears_1 rfl (lv_at hl 0 rfl) ?_
  refine lv_iload_n hx hb dL_shiftYears_2 rfl (lv_at hl 1 rfl) ?_
  refine lv_iload_n hx hb dL_shiftYears_3 rfl (lv_at hl 2 rfl) ?_
  refine c_Vr (As := [.int (iI a), .int (iI n)]) (rest := [.ref o]) (b := u 0) (C := RX1) (r := some (.int (iI (dI (shI (dt a.toNat) (12 * n)))))) (st1 := [.int (iI (dI (shI (dt a.toNat) (12 * n)))), .ref o]) fx hl (ok_shiftYears θ l hl0 S0 _ u _ _ _ _ _ _ _ hw a n h_0 h_1 h_2 h_3 h_4) (ob_recv hK hcw.1 rfl) dL_shiftYears_4 k791 k792 k793 k1 k794 hd_X1_shiftYears rfl rfl ⟨by decide, by decide⟩ (Nat.le_of_ble_eq_true rfl) ⟨by (try dsimp only); omega, by (try dsimp only); omega⟩ hS (fun x h => Or.inl h) (fun H1 locs hpH1 hszH1 hk0H1 hS => ?_)
  have hoH1 := ho.kept (hk0H1 _ ho.lt (fun h => h.elim (fun ⟨i, hi, e⟩ => hod i hi e) (fun h => Nat.not_le.mpr ho.lt h)))
  have hcwH1 := hpH1
  refine q_i2lx hx hb dL_shiftYears_7 ?_
  refine r_putN (θ := θ) (C := RX2) (T := TX2) (N := 2) (ci := 8) (v := .long (lL ((iI (dI (shI (dt a.toNat) (12 * n)))).toInt))) (ty := .long) hx hb hts gwX2 tyX2 tyX2_ok nmX2 hown hK hoH1 (Or.inr rfl) hS rfl 0 (by decide) (va_Nw.use rfl (va_Nw.warmF fx.2 hn.2.1)) (fun _ h => h) rfl (by decide +kernel) rfl rfl (Nat.le_of_ble_eq_true rfl) dL_shiftYears_8 (fun H2 locs hqH2 hszH2 hkH2 hS => ?_)
  have hoH2 : OB θ H2 o 8 [.long (lL ((iI (dI (shI (dt a.toNat) (12 * n)))).toInt)), sv9] := hqH2
  have hcwH2 := hcwH1.kept (fun i hi => hkH2 _ (Ne.symm (hod i hi)))
  refine lv_goto (tgt := 26) hx hb dL_shiftYears_11 (by decide) ?_
  refine q_con hx hb dL_shiftYears_26 ?_
  exact e_i hx hb hr hlk hS dL_shiftYears_27 (by first | exact Nat.le_of_ble_eq_true rfl | ((try dsimp only); omega)) (by first | exact Nat.le_of_ble_eq_true rfl | ((try dsimp only); omega)) ⟨rfl, hcwH2, hoH2⟩

set_option maxHeartbeats 4000000 in
set_option maxRecDepth 100000 in
theorem wn1_shiftYears (θ : TH) (l : Launch) (hl0 : l.stackTraces = false) (S0 : State) (H : Heap) (u : Nat → Nat) (dt sy sm sd : Nat → Int) (bc rf kn : Int) (hw : CWR θ S0 u H dt sy sm sd bc rf kn) (hj : SJ θ S0 H) (hn : NX S0) (o : Nat) (nv : Int) (sv9 : Value) (ho : OB θ H o 8 [.long (lL nv), sv9]) (hod : ∀ i : Nat, i < 7 → o ≠ u i) (a n : Int) (h_0 : -2147483648 ≤ a ∧ a < 2147483648) (h_1 : -2147483648 ≤ n ∧ n < 2147483648) (h_2 : ¬ (0 ≤ a ∧ a < 6)) : CTW l yL_shiftYears cL_shiftYears 5 (some .int) [((0 : Nat), (11 : Nat), (14 : Nat), (19 : Nat)), ((0 : Nat), (11 : Nat), (18 : Nat), (21 : Nat)), ((0 : Nat), (11 : Nat), (22 : Nat), (23 : Nat))] 8 133 1 6 [.ref (u 0), .int (iI a), .int (iI n), .ref o] S0 H (fun v9 H1 => v9 = some (.int (iI 1)) ∧ CW θ u H1 dt sy sm sd bc rf kn ∧ OB θ H1 o 8 [.long (lL nv), sv9]) (fun x : Nat => UA u H.size x ∨ x = o) := by
  refine ctw_of (by decide +kernel) (Nat.le_of_ble_eq_true rfl) ?_
  intro pg en s mi args below meth co ls fx hs hr hlk htab hl
  subst hs
  obtain ⟨hx, hb, hml, hown, hts⟩ := id fx.1
  have hS : va_S (fun x : Nat => UA u s.heap.size x ∨ x = o) s.heap s.heap [] := va_S.rf
  obtain ⟨hz, hu, hcw, hd, hsp⟩ := id hw
  have hK := sz_K fx.2 hz
  refine lv_aload_n hx hb dL_shiftYears_0 rfl (lv_at hl 3 rfl) ?_
  refine lv_aload_n hx hb dL_shiftYears_1 rfl (lv_at hl 0 rfl) ?_
  refine lv_iload_n hx hb dL_shiftYears_2 rfl (lv_at hl 1 rfl) ?_
  refine lv_iload_n hx hb dL_shiftYears_3 rfl (lv_at hl 2 rfl) ?_
  refine c_VT (As := [.int (iI a), .int (iI n)]) (rest := [.ref o]) (b := u 0) (C := RX1) (E := "java/lang/IndexOutOfBoundsException") (name := "java/lang/IndexOutOfBoundsException") (k := 0) (a0 := 0) (a1 := 11) (hpc := 14) (ct := 19) fx hl (no1_shiftYears θ l hl0 S0 _ u _ _ _ _ _ _ _ hw a n h_0 h_1 h_2) (ob_recv hK hcw.1 rfl) dL_shiftYears_4 k791 k792 k793 k1 k794 hd_X1_shiftYears rfl ⟨by decide, by decide⟩ (Nat.le_of_ble_eq_true rfl) ⟨by (try dsimp only); omega, by (try dsimp only); omega⟩ hS (fun x h => Or.inl (Or.inr h)) htab rfl ⟨by decide, by decide⟩ (by decide) k696 (nw_at (args := args) fx.2 hz.2.2.2.2.2.2.2.2.1 (by decide +kernel)) (by show ∀ q ∈ ([] : List (Nat × Nat × Nat × Nat)), _; exact fun q h => absurd h List.not_mem_nil) (fun q2 H1 locs hszH1 hkH1 hS => ?_)
  have hcwH1 := hcw.kept (fun i hi => hkH1 _ (hcw.lt i hi))
  have hoH1 := ho.kept (hkH1 _ ho.lt)
  refine lv_astore (lv' := [(4, .ref q2), (0, .ref (u 0)), (1, .int (iI a)), (2, .int (iI n)), (3, .ref o)]) hx hb dL_shiftYears_14 hl (by decide) rfl (fun ls hl => ?_)
  refine q_con hx hb dL_shiftYears_16 ?_
  exact e_i hx hb hr hlk hS dL_shiftYears_17 (by first | exact Nat.le_of_ble_eq_true rfl | ((try dsimp only); omega)) (by first | exact Nat.le_of_ble_eq_true rfl | ((try dsimp only); omega)) ⟨rfl, hcwH1, hoH1⟩

set_option maxHeartbeats 4000000 in
set_option maxRecDepth 100000 in
theorem wn2_shiftYears (θ : TH) (l : Launch) (hl0 : l.stackTraces = false) (S0 : State) (H : Heap) (u : Nat → Nat) (dt sy sm sd : Nat → Int) (bc rf kn : Int) (hw : CWR θ S0 u H dt sy sm sd bc rf kn) (hj : SJ θ S0 H) (hn : NX S0) (o : Nat) (nv : Int) (sv9 : Value) (ho : OB θ H o 8 [.long (lL nv), sv9]) (hod : ∀ i : Nat, i < 7 → o ≠ u i) (a n : Int) (h_0 : -2147483648 ≤ a ∧ a < 2147483648) (h_1 : -2147483648 ≤ n ∧ n < 2147483648) (h_2 : 0 ≤ a ∧ a < 6) (h_3 : ¬ (-20000 ≤ n ∧ n ≤ 20000)) : CTW l yL_shiftYears cL_shiftYears 5 (some .int) [((0 : Nat), (11 : Nat), (14 : Nat), (19 : Nat)), ((0 : Nat), (11 : Nat), (18 : Nat), (21 : Nat)), ((0 : Nat), (11 : Nat), (22 : Nat), (23 : Nat))] 8 135 1 6 [.ref (u 0), .int (iI a), .int (iI n), .ref o] S0 H (fun v9 H1 => v9 = some (.int (iI 2)) ∧ CW θ u H1 dt sy sm sd bc rf kn ∧ OB θ H1 o 8 [.long (lL nv), sv9]) (fun x : Nat => UA u H.size x ∨ x = o) := by
  refine ctw_of (by decide +kernel) (Nat.le_of_ble_eq_true rfl) ?_
  intro pg en s mi args below meth co ls fx hs hr hlk htab hl
  subst hs
  obtain ⟨hx, hb, hml, hown, hts⟩ := id fx.1
  have hS : va_S (fun x : Nat => UA u s.heap.size x ∨ x = o) s.heap s.heap [] := va_S.rf
  obtain ⟨hz, hu, hcw, hd, hsp⟩ := id hw
  have hK := sz_K fx.2 hz
  refine lv_aload_n hx hb dL_shiftYears_0 rfl (lv_at hl 3 rfl) ?_
  refine lv_aload_n hx hb dL_shiftYears_1 rfl (lv_at hl 0 rfl) ?_
  refine lv_iload_n hx hb dL_shiftYears_2 rfl (lv_at hl 1 rfl) ?_
  refine lv_iload_n hx hb dL_shiftYears_3 rfl (lv_at hl 2 rfl) ?_
  refine c_VT (As := [.int (iI a), .int (iI n)]) (rest := [.ref o]) (b := u 0) (C := RX1) (E := "java/lang/IllegalArgumentException") (name := "java/lang/IllegalArgumentException") (k := 1) (a0 := 0) (a1 := 11) (hpc := 18) (ct := 21) fx hl (no2_shiftYears θ l hl0 S0 _ u _ _ _ _ _ _ _ hw a n h_0 h_1 h_2 h_3) (ob_recv hK hcw.1 rfl) dL_shiftYears_4 k791 k792 k793 k1 k794 hd_X1_shiftYears rfl ⟨by decide, by decide⟩ (Nat.le_of_ble_eq_true rfl) ⟨by (try dsimp only); omega, by (try dsimp only); omega⟩ hS (fun x h => Or.inl (Or.inr h)) htab rfl ⟨by decide, by decide⟩ (by decide) k697 (nw_at (args := args) fx.2 hz.2.2.2.2.2.2.2.2.1 (by decide +kernel)) (by show ∀ q ∈ ([(0, 11, 14, 19)] : List (Nat × Nat × Nat × Nat)), _; exact List.forall_mem_cons.mpr ⟨⟨by decide, _, k696, hn.1.1⟩, fun q h => absurd h List.not_mem_nil⟩) (fun q2 H1 locs hszH1 hkH1 hS => ?_)
  have hcwH1 := hcw.kept (fun i hi => hkH1 _ (hcw.lt i hi))
  have hoH1 := ho.kept (hkH1 _ ho.lt)
  refine lv_astore (lv' := [(4, .ref q2), (0, .ref (u 0)), (1, .int (iI a)), (2, .int (iI n)), (3, .ref o)]) hx hb dL_shiftYears_18 hl (by decide) rfl (fun ls hl => ?_)
  refine q_con hx hb dL_shiftYears_20 ?_
  exact e_i hx hb hr hlk hS dL_shiftYears_21 (by first | exact Nat.le_of_ble_eq_true rfl | ((try dsimp only); omega)) (by first | exact Nat.le_of_ble_eq_true rfl | ((try dsimp only); omega)) ⟨rfl, hcwH1, hoH1⟩

set_option maxHeartbeats 4000000 in
set_option maxRecDepth 100000 in
theorem wn3_shiftYears (θ : TH) (l : Launch) (hl0 : l.stackTraces = false) (S0 : State) (H : Heap) (u : Nat → Nat) (dt sy sm sd : Nat → Int) (bc rf kn : Int) (hw : CWR θ S0 u H dt sy sm sd bc rf kn) (hj : SJ θ S0 H) (hn : NX S0) (o : Nat) (nv : Int) (sv9 : Value) (ho : OB θ H o 8 [.long (lL nv), sv9]) (hod : ∀ i : Nat, i < 7 → o ≠ u i) (a n : Int) (h_0 : -2147483648 ≤ a ∧ a < 2147483648) (h_1 : -2147483648 ≤ n ∧ n < 2147483648) (h_2 : 0 ≤ a ∧ a < 6) (h_3 : -20000 ≤ n ∧ n ≤ 20000) (h_4 : ¬ (-4371587 ≤ shI (dt a.toNat) (12 * n) ∧ shI (dt a.toNat) (12 * n) ≤ 2932896)) : CTW l yL_shiftYears cL_shiftYears 5 (some .int) [((0 : Nat), (11 : Nat), (14 : Nat), (19 : Nat)), ((0 : Nat), (11 : Nat), (18 : Nat), (21 : Nat)), ((0 : Nat), (11 : Nat), (22 : Nat), (23 : Nat))] 8 133 1 6 [.ref (u 0), .int (iI a), .int (iI n), .ref o] S0 H (fun v9 H1 => v9 = some (.int (iI 3)) ∧ CW θ u H1 dt sy sm sd bc rf kn ∧ OB θ H1 o 8 [.long (lL nv), sv9]) (fun x : Nat => UA u H.size x ∨ x = o) := by
  refine ctw_of (by decide +kernel) (Nat.le_of_ble_eq_true rfl) ?_
  intro pg en s mi args below meth co ls fx hs hr hlk htab hl
  subst hs
  obtain ⟨hx, hb, hml, hown, hts⟩ := id fx.1
  have hS : va_S (fun x : Nat => UA u s.heap.size x ∨ x = o) s.heap s.heap [] := va_S.rf
  obtain ⟨hz, hu, hcw, hd, hsp⟩ := id hw
  have hK := sz_K fx.2 hz
  refine lv_aload_n hx hb dL_shiftYears_0 rfl (lv_at hl 3 rfl) ?_
  refine lv_aload_n hx hb dL_shiftYears_1 rfl (lv_at hl 0 rfl) ?_
  refine lv_iload_n hx hb dL_shiftYears_2 rfl (lv_at hl 1 rfl) ?_
  refine lv_iload_n hx hb dL_shiftYears_3 rfl (lv_at hl 2 rfl) ?_
  refine c_VT (As := [.int (iI a), .int (iI n)]) (rest := [.ref o]) (b := u 0) (C := RX1) (E := "java/lang/IllegalStateException") (name := "java/lang/IllegalStateException") (k := 2) (a0 := 0) (a1 := 11) (hpc := 22) (ct := 23) fx hl (no3_shiftYears θ l hl0 S0 _ u _ _ _ _ _ _ _ hw a n h_0 h_1 h_2 h_3 h_4) (ob_recv hK hcw.1 rfl) dL_shiftYears_4 k791 k792 k793 k1 k794 hd_X1_shiftYears rfl ⟨by decide, by decide⟩ (Nat.le_of_ble_eq_true rfl) ⟨by (try dsimp only); omega, by (try dsimp only); omega⟩ hS (fun x h => Or.inl (Or.inr h)) htab rfl ⟨by decide, by decide⟩ (by decide) k698 (nw_at (args := args) fx.2 hz.2.2.2.2.2.2.2.2.1 (by decide +kernel)) (by show ∀ q ∈ ([(0, 11, 14, 19), (0, 11, 18, 21)] : List (Nat × Nat × Nat × Nat)), _; exact List.forall_mem_cons.mpr ⟨⟨by decide, _, k696, hn.1.2.1⟩, List.forall_mem_cons.mpr ⟨⟨by decide, _, k697, hn.1.2.2⟩, fun q h => absurd h List.not_mem_nil⟩⟩) (fun q2 H1 locs hszH1 hkH1 hS => ?_)
  have hcwH1 := hcw.kept (fun i hi => hkH1 _ (hcw.lt i hi))
  have hoH1 := ho.kept (hkH1 _ ho.lt)
  refine lv_astore (lv' := [(4, .ref q2), (0, .ref (u 0)), (1, .int (iI a)), (2, .int (iI n)), (3, .ref o)]) hx hb dL_shiftYears_22 hl (by decide) rfl (fun ls hl => ?_)
  refine q_con hx hb dL_shiftYears_24 ?_
  exact e_i hx hb hr hlk hS dL_shiftYears_25 (by first | exact Nat.le_of_ble_eq_true rfl | ((try dsimp only); omega)) (by first | exact Nat.le_of_ble_eq_true rfl | ((try dsimp only); omega)) ⟨rfl, hcwH1, hoH1⟩

set_option maxHeartbeats 4000000 in
set_option maxRecDepth 100000 in
theorem wr_days (θ : TH) (l : Launch) (hl0 : l.stackTraces = false) (S0 : State) (H : Heap) (u : Nat → Nat) (dt sy sm sd : Nat → Int) (bc rf kn : Int) (hw : CWR θ S0 u H dt sy sm sd bc rf kn) (hj : SJ θ S0 H) (hn : NX S0) (o : Nat) (nv : Int) (sv9 : Value) (ho : OB θ H o 8 [.long (lL nv), sv9]) (hod : ∀ i : Nat, i < 7 → o ≠ u i) (a n : Int) (h_0 : -2147483648 ≤ a ∧ a < 2147483648) (h_1 : -2147483648 ≤ n ∧ n < 2147483648) (h_2 : 0 ≤ a ∧ a < 6) (h_3 : -8000000 ≤ n ∧ n ≤ 8000000) (h_4 : -4371587 ≤ (dt a.toNat + n) ∧ (dt a.toNat + n) ≤ 2932896) : CTW l yL_days cL_days 5 (some .int) [((0 : Nat), (11 : Nat), (14 : Nat), (19 : Nat)), ((0 : Nat), (11 : Nat), (18 : Nat), (21 : Nat)), ((0 : Nat), (11 : Nat), (22 : Nat), (23 : Nat))] 2 45 0 0 [.ref (u 0), .int (iI a), .int (iI n), .ref o] S0 H (fun v9 H1 => v9 = some (.int (iI 0)) ∧ CW θ u H1 (up dt a.toNat (dt a.toNat + n)) sy sm sd (bc + 1) rf kn ∧ OB θ H1 o 8 [.long (lL (iI (dt a.toNat + n)).toInt), sv9]) (fun x : Nat => UA u H.size x ∨ x = o) := by
  refine ctw_of (by decide +kernel) (Nat.le_of_ble_eq_true rfl) ?_
  intro pg en s mi args below meth co ls fx hs hr hlk htab hl
  subst hs
  obtain ⟨hx, hb, hml, hown, hts⟩ := id fx.1
  have hS : va_S (fun x : Nat => UA u s.heap.size x ∨ x = o) s.heap s.heap [] := va_S.rf
  obtain ⟨hz, hu, hcw, hd, hsp⟩ := id hw
  have hK := sz_K fx.2 hz
  refine lv_aload_n hx hb dL_days_0 rfl (lv_at hl 3 rfl) ?_
  refine lv_aload_n hx hb dL_days_1 rfl (lv_at hl 0 rfl) ?_
  refine lv_iload_n hx hb dL_days_2 rfl (lv_at hl 1 rfl) ?_
  refine lv_iload_n hx hb dL_days_3 rfl (lv_at hl 2 rfl) ?_
  refine c_Vr (As := [.int (iI a), .int (iI n)]) (rest := [.ref o]) (b := u 0) (C := RX1) (r := some (.int (iI (dt a.toNat + n)))) (st1 := [.int (iI (dt a.toNat + n)), .ref o]) fx hl (ok_days θ l hl0 S0 _ u _ _ _ _ _ _ _ hw a n h_0 h_1 h_2 h_3 h_4) (ob_recv hK hcw.1 rfl) dL_days_4 k798 k799 k800 k1 k801 hd_X1_days rfl rfl ⟨by decide, by decide⟩ (Nat.le_of_ble_eq_true rfl) ⟨by (try dsimp only); omega, by (try dsimp only); omega⟩ hS (fun x h => Or.inl h) (fun H1 locs hpH1 hszH1 hk0H1 hS => ?_)
  have hoH1 := ho.kept (hk0H1 _ ho.lt (fun h => h.elim (fun ⟨i, hi, e⟩ => hod i hi e) (fun h => Nat.not_le.mpr ho.lt h)))
  have hcwH1 := hpH1
  refine q_i2lx hx hb dL_days_7 ?_
  refine r_putN (θ := θ) (C := RX2) (T := TX2) (N := 2) (ci := 8) (v := .long (lL ((iI (dt a.toNat + n)).toInt))) (ty := .long) hx hb hts gwX2 tyX2 tyX2_ok nmX2 hown hK hoH1 (Or.inr rfl) hS rfl 0 (by decide) (va_Nw.use rfl (va_Nw.warmF fx.2 hn.2.1)) (fun _ h => h) rfl (by decide +kernel) rfl rfl (Nat.le_of_ble_eq_true rfl) dL_days_8 (fun H2 locs hqH2 hszH2 hkH2 hS => ?_)
  have hoH2 : OB θ H2 o 8 [.long (lL ((iI (dt a.toNat + n)).toInt)), sv9] := hqH2
  have hcwH2 := hcwH1.kept (fun i hi => hkH2 _ (Ne.symm (hod i hi)))
  refine lv_goto (tgt := 26) hx hb dL_days_11 (by decide) ?_
  refine q_con hx hb dL_days_26 ?_
  exact e_i hx hb hr hlk hS dL_days_27 (by first | exact Nat.le_of_ble_eq_true rfl | ((try dsimp only); omega)) (by first | exact Nat.le_of_ble_eq_true rfl | ((try dsimp only); omega)) ⟨rfl, hcwH2, hoH2⟩

set_option maxHeartbeats 4000000 in
set_option maxRecDepth 100000 in
theorem wn1_days (θ : TH) (l : Launch) (hl0 : l.stackTraces = false) (S0 : State) (H : Heap) (u : Nat → Nat) (dt sy sm sd : Nat → Int) (bc rf kn : Int) (hw : CWR θ S0 u H dt sy sm sd bc rf kn) (hj : SJ θ S0 H) (hn : NX S0) (o : Nat) (nv : Int) (sv9 : Value) (ho : OB θ H o 8 [.long (lL nv), sv9]) (hod : ∀ i : Nat, i < 7 → o ≠ u i) (a n : Int) (h_0 : -2147483648 ≤ a ∧ a < 2147483648) (h_1 : -2147483648 ≤ n ∧ n < 2147483648) (h_2 : ¬ (0 ≤ a ∧ a < 6)) : CTW l yL_days cL_days 5 (some .int) [((0 : Nat), (11 : Nat), (14 : Nat), (19 : Nat)), ((0 : Nat), (11 : Nat), (18 : Nat), (21 : Nat)), ((0 : Nat), (11 : Nat), (22 : Nat), (23 : Nat))] 8 133 1 6 [.ref (u 0), .int (iI a), .int (iI n), .ref o] S0 H (fun v9 H1 => v9 = some (.int (iI 1)) ∧ CW θ u H1 dt sy sm sd bc rf kn ∧ OB θ H1 o 8 [.long (lL nv), sv9]) (fun x : Nat => UA u H.size x ∨ x = o) := by
  refine ctw_of (by decide +kernel) (Nat.le_of_ble_eq_true rfl) ?_
  intro pg en s mi args below meth co ls fx hs hr hlk htab hl
  subst hs
  obtain ⟨hx, hb, hml, hown, hts⟩ := id fx.1
  have hS : va_S (fun x : Nat => UA u s.heap.size x ∨ x = o) s.heap s.heap [] := va_S.rf
  obtain ⟨hz, hu, hcw, hd, hsp⟩ := id hw
  have hK := sz_K fx.2 hz
  refine lv_aload_n hx hb dL_days_0 rfl (lv_at hl 3 rfl) ?_
  refine lv_aload_n hx hb dL_days_1 rfl (lv_at hl 0 rfl) ?_
  refine lv_iload_n hx hb dL_days_2 rfl (lv_at hl 1 rfl) ?_
  refine lv_iload_n hx hb dL_days_3 rfl (lv_at hl 2 rfl) ?_
  refine c_VT (As := [.int (iI a), .int (iI n)]) (rest := [.ref o]) (b := u 0) (C := RX1) (E := "java/lang/IndexOutOfBoundsException") (name := "java/lang/IndexOutOfBoundsException") (k := 0) (a0 := 0) (a1 := 11) (hpc := 14) (ct := 19) fx hl (no1_days θ l hl0 S0 _ u _ _ _ _ _ _ _ hw a n h_0 h_1 h_2) (ob_recv hK hcw.1 rfl) dL_days_4 k798 k799 k800 k1 k801 hd_X1_days rfl ⟨by decide, by decide⟩ (Nat.le_of_ble_eq_true rfl) ⟨by (try dsimp only); omega, by (try dsimp only); omega⟩ hS (fun x h => Or.inl (Or.inr h)) htab rfl ⟨by decide, by decide⟩ (by decide) k696 (nw_at (args := args) fx.2 hz.2.2.2.2.2.2.2.2.1 (by decide +kernel)) (by show ∀ q ∈ ([] : List (Nat × Nat × Nat × Nat)), _; exact fun q h => absurd h List.not_mem_nil) (fun q2 H1 locs hszH1 hkH1 hS => ?_)
  have hcwH1 := hcw.kept (fun i hi => hkH1 _ (hcw.lt i hi))
  have hoH1 := ho.kept (hkH1 _ ho.lt)
  refine lv_astore (lv' := [(4, .ref q2), (0, .ref (u 0)), (1, .int (iI a)), (2, .int (iI n)), (3, .ref o)]) hx hb dL_days_14 hl (by decide) rfl (fun ls hl => ?_)
  refine q_con hx hb dL_days_16 ?_
  exact e_i hx hb hr hlk hS dL_days_17 (by first | exact Nat.le_of_ble_eq_true rfl | ((try dsimp only); omega)) (by first | exact Nat.le_of_ble_eq_true rfl | ((try dsimp only); omega)) ⟨rfl, hcwH1, hoH1⟩

set_option maxHeartbeats 4000000 in
set_option maxRecDepth 100000 in
theorem wn2_days (θ : TH) (l : Launch) (hl0 : l.stackTraces = false) (S0 : State) (H : Heap) (u : Nat → Nat) (dt sy sm sd : Nat → Int) (bc rf kn : Int) (hw : CWR θ S0 u H dt sy sm sd bc rf kn) (hj : SJ θ S0 H) (hn : NX S0) (o : Nat) (nv : Int) (sv9 : Value) (ho : OB θ H o 8 [.long (lL nv), sv9]) (hod : ∀ i : Nat, i < 7 → o ≠ u i) (a n : Int) (h_0 : -2147483648 ≤ a ∧ a < 2147483648) (h_1 : -2147483648 ≤ n ∧ n < 2147483648) (h_2 : 0 ≤ a ∧ a < 6) (h_3 : ¬ (-8000000 ≤ n ∧ n ≤ 8000000)) : CTW l yL_days cL_days 5 (some .int) [((0 : Nat), (11 : Nat), (14 : Nat), (19 : Nat)), ((0 : Nat), (11 : Nat), (18 : Nat), (21 : Nat)), ((0 : Nat), (11 : Nat), (22 : Nat), (23 : Nat))] 8 135 1 6 [.ref (u 0), .int (iI a), .int (iI n), .ref o] S0 H (fun v9 H1 => v9 = some (.int (iI 2)) ∧ CW θ u H1 dt sy sm sd bc rf kn ∧ OB θ H1 o 8 [.long (lL nv), sv9]) (fun x : Nat => UA u H.size x ∨ x = o) := by
  refine ctw_of (by decide +kernel) (Nat.le_of_ble_eq_true rfl) ?_
  intro pg en s mi args below meth co ls fx hs hr hlk htab hl
  subst hs
  obtain ⟨hx, hb, hml, hown, hts⟩ := id fx.1
  have hS : va_S (fun x : Nat => UA u s.heap.size x ∨ x = o) s.heap s.heap [] := va_S.rf
  obtain ⟨hz, hu, hcw, hd, hsp⟩ := id hw
  have hK := sz_K fx.2 hz
  refine lv_aload_n hx hb dL_days_0 rfl (lv_at hl 3 rfl) ?_
  refine lv_aload_n hx hb dL_days_1 rfl (lv_at hl 0 rfl) ?_
  refine lv_iload_n hx hb dL_days_2 rfl (lv_at hl 1 rfl) ?_
  refine lv_iload_n hx hb dL_days_3 rfl (lv_at hl 2 rfl) ?_
  refine c_VT (As := [.int (iI a), .int (iI n)]) (rest := [.ref o]) (b := u 0) (C := RX1) (E := "java/lang/IllegalArgumentException") (name := "java/lang/IllegalArgumentException") (k := 1) (a0 := 0) (a1 := 11) (hpc := 18) (ct := 21) fx hl (no2_days θ l hl0 S0 _ u _ _ _ _ _ _ _ hw a n h_0 h_1 h_2 h_3) (ob_recv hK hcw.1 rfl) dL_days_4 k798 k799 k800 k1 k801 hd_X1_days rfl ⟨by decide, by decide⟩ (Nat.le_of_ble_eq_true rfl) ⟨by (try dsimp only); omega, by (try dsimp only); omega⟩ hS (fun x h => Or.inl (Or.inr h)) htab rfl ⟨by decide, by decide⟩ (by decide) k697 (nw_at (args := args) fx.2 hz.2.2.2.2.2.2.2.2.1 (by decide +kernel)) (by show ∀ q ∈ ([(0, 11, 14, 19)] : List (Nat × Nat × Nat × Nat)), _; exact List.forall_mem_cons.mpr ⟨⟨by decide, _, k696, hn.1.1⟩, fun q h => absurd h List.not_mem_nil⟩) (fun q2 H1 locs hszH1 hkH1 hS => ?_)
  have hcwH1 := hcw.kept (fun i hi => hkH1 _ (hcw.lt i hi))
  have hoH1 := ho.kept (hkH1 _ ho.lt)
  refine lv_astore (lv' := [(4, .ref q2), (0, .ref (u 0)), (1, .int (iI a)), (2, .int (iI n)), (3, .ref o)]) hx hb dL_days_18 hl (by decide) rfl (fun ls hl => ?_)
  refine q_con hx hb dL_days_20 ?_
  exact e_i hx hb hr hlk hS dL_days_21 (by first | exact Nat.le_of_ble_eq_true rfl | ((try dsimp only); omega)) (by first | exact Nat.le_of_ble_eq_true rfl | ((try dsimp only); omega)) ⟨rfl, hcwH1, hoH1⟩

set_option maxHeartbeats 4000000 in
set_option maxRecDepth 100000 in
theorem wn3_days (θ : TH) (l : Launch) (hl0 : l.stackTraces = false) (S0 : State) (H : Heap) (u : Nat → Nat) (dt sy sm sd : Nat → Int) (bc rf kn : Int) (hw : CWR θ S0 u H dt sy sm sd bc rf kn) (hj : SJ θ S0 H) (hn : NX S0) (o : Nat) (nv : Int) (sv9 : Value) (ho : OB θ H o 8 [.long (lL nv), sv9]) (hod : ∀ i : Nat, i < 7 → o ≠ u i) (a n : Int) (h_0 : -2147483648 ≤ a ∧ a < 2147483648) (h_1 : -2147483648 ≤ n ∧ n < 2147483648) (h_2 : 0 ≤ a ∧ a < 6) (h_3 : -8000000 ≤ n ∧ n ≤ 8000000) (h_4 : ¬ (-4371587 ≤ (dt a.toNat + n) ∧ (dt a.toNat + n) ≤ 2932896)) : CTW l yL_days cL_days 5 (some .int) [((0 : Nat), (11 : Nat), (14 : Nat), (19 : Nat)), ((0 : Nat), (11 : Nat), (18 : Nat), (21 : Nat)), ((0 : Nat), (11 : Nat), (22 : Nat), (23 : Nat))] 8 133 1 6 [.ref (u 0), .int (iI a), .int (iI n), .ref o] S0 H (fun v9 H1 => v9 = some (.int (iI 3)) ∧ CW θ u H1 dt sy sm sd bc rf kn ∧ OB θ H1 o 8 [.long (lL nv), sv9]) (fun x : Nat => UA u H.size x ∨ x = o) := by
  refine ctw_of (by decide +kernel) (Nat.le_of_ble_eq_true rfl) ?_
  intro pg en s mi args below meth co ls fx hs hr hlk htab hl
  subst hs
  obtain ⟨hx, hb, hml, hown, hts⟩ := id fx.1
  have hS : va_S (fun x : Nat => UA u s.heap.size x ∨ x = o) s.heap s.heap [] := va_S.rf
  obtain ⟨hz, hu, hcw, hd, hsp⟩ := id hw
  have hK := sz_K fx.2 hz
  refine lv_aload_n hx hb dL_days_0 rfl (lv_at hl 3 rfl) ?_
  refine lv_aload_n hx hb dL_days_1 rfl (lv_at hl 0 rfl) ?_
  refine lv_iload_n hx hb dL_days_2 rfl (lv_at hl 1 rfl) ?_
  refine lv_iload_n hx hb dL_days_3 rfl (lv_at hl 2 rfl) ?_
  refine c_VT (As := [.int (iI a), .int (iI n)]) (rest := [.ref o]) (b := u 0) (C := RX1) (E := "java/lang/IllegalStateException") (name := "java/lang/IllegalStateException") (k := 2) (a0 := 0) (a1 := 11) (hpc := 22) (ct := 23) fx hl (no3_days θ l hl0 S0 _ u _ _ _ _ _ _ _ hw a n h_0 h_1 h_2 h_3 h_4) (ob_recv hK hcw.1 rfl) dL_days_4 k798 k799 k800 k1 k801 hd_X1_days rfl ⟨by decide, by decide⟩ (Nat.le_of_ble_eq_true rfl) ⟨by (try dsimp only); omega, by (try dsimp only); omega⟩ hS (fun x h => Or.inl (Or.inr h)) htab rfl ⟨by decide, by decide⟩ (by decide) k698 (nw_at (args := args) fx.2 hz.2.2.2.2.2.2.2.2.1 (by decide +kernel)) (by show ∀ q ∈ ([(0, 11, 14, 19), (0, 11, 18, 21)] : List (Nat × Nat × Nat × Nat)), _; exact List.forall_mem_cons.mpr ⟨⟨by decide, _, k696, hn.1.2.1⟩, List.forall_mem_cons.mpr ⟨⟨by decide, _, k697, hn.1.2.2⟩, fun q h => absurd h List.not_mem_nil⟩⟩) (fun q2 H1 locs hszH1 hkH1 hS => ?_)
  have hcwH1 := hcw.kept (fun i hi => hkH1 _ (hcw.lt i hi))
  have hoH1 := ho.kept (hkH1 _ ho.lt)
  refine lv_astore (lv' := [(4, .ref q2), (0, .ref (u 0)), (1, .int (iI a)), (2, .int (iI n)), (3, .ref o)]) hx hb dL_days_22 hl (by decide) rfl (fun ls hl => ?_)
  refine q_con hx hb dL_days_24 ?_
  exact e_i hx hb hr hlk hS dL_days_25 (by first | exact Nat.le_of_ble_eq_true rfl | ((try dsimp only); omega)) (by first | exact Nat.le_of_ble_eq_true rfl | ((try dsimp only); omega)) ⟨rfl, hcwH1, hoH1⟩

set_option maxHeartbeats 4000000 in
set_option maxRecDepth 100000 in
theorem wr_cycles (θ : TH) (l : Launch) (hl0 : l.stackTraces = false) (S0 : State) (H : Heap) (u : Nat → Nat) (dt sy sm sd : Nat → Int) (bc rf kn : Int) (hw : CWR θ S0 u H dt sy sm sd bc rf kn) (hj : SJ θ S0 H) (hn : NX S0) (o : Nat) (nv : Int) (sv9 : Value) (ho : OB θ H o 8 [.long (lL nv), sv9]) (hod : ∀ i : Nat, i < 7 → o ≠ u i) (a n : Int) (h_0 : -2147483648 ≤ a ∧ a < 2147483648) (h_1 : -2147483648 ≤ n ∧ n < 2147483648) (h_2 : 0 ≤ a ∧ a < 6) (h_3 : -60 ≤ n ∧ n ≤ 60) (h_4 : -4371587 ≤ shI (dt a.toNat) (4800 * n) ∧ shI (dt a.toNat) (4800 * n) ≤ 2932896) : CTW l yL_cycles cL_cycles 5 (some .int) [((0 : Nat), (11 : Nat), (14 : Nat), (19 : Nat)), ((0 : Nat), (11 : Nat), (18 : Nat), (21 : Nat)), ((0 : Nat), (11 : Nat), (22 : Nat), (23 : Nat))] 5 115 0 0 [.ref (u 0), .int (iI a), .int (iI n), .ref o] S0 H (fun v9 H1 => v9 = some (.int (iI 0)) ∧ CW θ u H1 (up dt a.toNat (shI (dt a.toNat) (4800 * n))) sy sm sd (bc + 1) rf kn ∧ OB θ H1 o 8 [.long (lL (iI (shI (dt a.toNat) (4800 * n))).toInt), sv9]) (fun x : Nat => UA u H.size x ∨ x = o) := by
  refine ctw_of (by decide +kernel) (Nat.le_of_ble_eq_true rfl) ?_
  intro pg en s mi args below meth co ls fx hs hr hlk htab hl
  subst hs
  obtain ⟨hx, hb, hml, hown, hts⟩ := id fx.1
  have hS : va_S (fun x : Nat => UA u s.heap.size x ∨ x = o) s.heap s.heap [] := va_S.rf
  obtain ⟨hz, hu, hcw, hd, hsp⟩ := id hw
  have hK := sz_K fx.2 hz
  refine lv_aload_n hx hb dL_cycles_0 rfl (lv_at hl 3 rfl) ?_
  refine lv_aload_n hx hb dL_cycles_1 rfl (lv_at hl 0 rfl) ?_
  refine lv_iload_n hx hb dL_cycles_2 rfl (lv_at hl 1 rfl) ?_
  refine lv_iload_n hx hb dL_cycles_3 rfl (lv_at hl 2 rfl) ?_
  refine c_Vr (As := [.int (iI a), .int (iI n)]) (rest := [.ref o]) (b := u 0) (C := RX1) (r := some (.int (iI (shI (dt a.toNat) (4800 * n))))) (st1 := [.int (iI (shI (dt a.toNat) (4800 * n))), .ref o]) fx hl (ok_cycles θ l hl0 S0 _ u _ _ _ _ _ _ _ hw a n h_0 h_1 h_2 h_3 h_4) (ob_recv hK hcw.1 rfl) dL_cycles_4 k807 k808 k809 k1 k810 hd_X1_cycles rfl rfl ⟨by decide, by decide⟩ (Nat.le_of_ble_eq_true rfl) ⟨by (try dsimp only); omega, by (try dsimp only); omega⟩ hS (fun x h => Or.inl h) (fun H1 locs hpH1 hszH1 hk0H1 hS => ?_)
  have hoH1 := ho.kept (hk0H1 _ ho.lt (fun h => h.elim (fun ⟨i, hi, e⟩ => hod i hi e) (fun h => Nat.not_le.mpr ho.lt h)))
  have hcwH1 := hpH1
  refine q_i2lx hx hb dL_cycles_7 ?_
  refine r_putN (θ := θ) (C := RX2) (T := TX2) (N := 2) (ci := 8) (v := .long (lL ((iI (shI (dt a.toNat) (4800 * n))).toInt))) (ty := .long) hx hb hts gwX2 tyX2 tyX2_ok nmX2 hown hK hoH1 (Or.inr rfl) hS rfl 0 (by decide) (va_Nw.use rfl (va_Nw.warmF fx.2 hn.2.1)) (fun _ h => h) rfl (by decide +kernel) rfl rfl (Nat.le_of_ble_eq_true rfl) dL_cycles_8 (fun H2 locs hqH2 hszH2 hkH2 hS => ?_)
  have hoH2 : OB θ H2 o 8 [.long (lL ((iI (shI (dt a.toNat) (4800 * n))).toInt)), sv9] := hqH2
  have hcwH2 := hcwH1.kept (fun i hi => hkH2 _ (Ne.symm (hod i hi)))
  refine lv_goto (tgt := 26) hx hb dL_cycles_11 (by decide) ?_
  refine q_con hx hb dL_cycles_26 ?_
  exact e_i hx hb hr hlk hS dL_cycles_27 (by first | exact Nat.le_of_ble_eq_true rfl | ((try dsimp only); omega)) (by first | exact Nat.le_of_ble_eq_true rfl | ((try dsimp only); omega)) ⟨rfl, hcwH2, hoH2⟩

set_option maxHeartbeats 4000000 in
set_option maxRecDepth 100000 in
theorem wn1_cycles (θ : TH) (l : Launch) (hl0 : l.stackTraces = false) (S0 : State) (H : Heap) (u : Nat → Nat) (dt sy sm sd : Nat → Int) (bc rf kn : Int) (hw : CWR θ S0 u H dt sy sm sd bc rf kn) (hj : SJ θ S0 H) (hn : NX S0) (o : Nat) (nv : Int) (sv9 : Value) (ho : OB θ H o 8 [.long (lL nv), sv9]) (hod : ∀ i : Nat, i < 7 → o ≠ u i) (a n : Int) (h_0 : -2147483648 ≤ a ∧ a < 2147483648) (h_1 : -2147483648 ≤ n ∧ n < 2147483648) (h_2 : ¬ (0 ≤ a ∧ a < 6)) : CTW l yL_cycles cL_cycles 5 (some .int) [((0 : Nat), (11 : Nat), (14 : Nat), (19 : Nat)), ((0 : Nat), (11 : Nat), (18 : Nat), (21 : Nat)), ((0 : Nat), (11 : Nat), (22 : Nat), (23 : Nat))] 8 133 1 6 [.ref (u 0), .int (iI a), .int (iI n), .ref o] S0 H (fun v9 H1 => v9 = some (.int (iI 1)) ∧ CW θ u H1 dt sy sm sd bc rf kn ∧ OB θ H1 o 8 [.long (lL nv), sv9]) (fun x : Nat => UA u H.size x ∨ x = o) := by
  refine ctw_of (by decide +kernel) (Nat.le_of_ble_eq_true rfl) ?_
  intro pg en s mi args below meth co ls fx hs hr hlk htab hl
  subst hs
  obtain ⟨hx, hb, hml, hown, hts⟩ := id fx.1
  have hS : va_S (fun x : Nat => UA u s.heap.size x ∨ x = o) s.heap s.heap [] := va_S.rf
  obtain ⟨hz, hu, hcw, hd, hsp⟩ := id hw
  have hK := sz_K fx.2 hz
  refine lv_aload_n hx hb dL_cycles_0 rfl (lv_at hl 3 rfl) ?_
  refine lv_aload_n hx hb dL_cycles_1 rfl (lv_at hl 0 rfl) ?_
  refine lv_iload_n hx hb dL_cycles_2 rfl (lv_at hl 1 rfl) ?_
  refine lv_iload_n hx hb dL_cycles_3 rfl (lv_at hl 2 rfl) ?_
  refine c_VT (As := [.int (iI a), .int (iI n)]) (rest := [.ref o]) (b := u 0) (C := RX1) (E := "java/lang/IndexOutOfBoundsException") (name := "java/lang/IndexOutOfBoundsException") (k := 0) (a0 := 0) (a1 := 11) (hpc := 14) (ct := 19) fx hl (no1_cycles θ l hl0 S0 _ u _ _ _ _ _ _ _ hw a n h_0 h_1 h_2) (ob_recv hK hcw.1 rfl) dL_cycles_4 k807 k808 k809 k1 k810 hd_X1_cycles rfl ⟨by decide, by decide⟩ (Nat.le_of_ble_eq_true rfl) ⟨by (try dsimp only); omega, by (try dsimp only); omega⟩ hS (fun x h => Or.inl (Or.inr h)) htab rfl ⟨by decide, by decide⟩ (by decide) k696 (nw_at (args := args) fx.2 hz.2.2.2.2.2.2.2.2.1 (by decide +kernel)) (by show ∀ q ∈ ([] : List (Nat × Nat × Nat × Nat)), _; exact fun q h => absurd h List.not_mem_nil) (fun q2 H1 locs hszH1 hkH1 hS => ?_)
  have hcwH1 := hcw.kept (fun i hi => hkH1 _ (hcw.lt i hi))
  have hoH1 := ho.kept (hkH1 _ ho.lt)
  refine lv_astore (lv' := [(4, .ref q2), (0, .ref (u 0)), (1, .int (iI a)), (2, .int (iI n)), (3, .ref o)]) hx hb dL_cycles_14 hl (by decide) rfl (fun ls hl => ?_)
  refine q_con hx hb dL_cycles_16 ?_
  exact e_i hx hb hr hlk hS dL_cycles_17 (by first | exact Nat.le_of_ble_eq_true rfl | ((try dsimp only); omega)) (by first | exact Nat.le_of_ble_eq_true rfl | ((try dsimp only); omega)) ⟨rfl, hcwH1, hoH1⟩

set_option maxHeartbeats 4000000 in
set_option maxRecDepth 100000 in
theorem wn2_cycles (θ : TH) (l : Launch) (hl0 : l.stackTraces = false) (S0 : State) (H : Heap) (u : Nat → Nat) (dt sy sm sd : Nat → Int) (bc rf kn : Int) (hw : CWR θ S0 u H dt sy sm sd bc rf kn) (hj : SJ θ S0 H) (hn : NX S0) (o : Nat) (nv : Int) (sv9 : Value) (ho : OB θ H o 8 [.long (lL nv), sv9]) (hod : ∀ i : Nat, i < 7 → o ≠ u i) (a n : Int) (h_0 : -2147483648 ≤ a ∧ a < 2147483648) (h_1 : -2147483648 ≤ n ∧ n < 2147483648) (h_2 : 0 ≤ a ∧ a < 6) (h_3 : ¬ (-60 ≤ n ∧ n ≤ 60)) : CTW l yL_cycles cL_cycles 5 (some .int) [((0 : Nat), (11 : Nat), (14 : Nat), (19 : Nat)), ((0 : Nat), (11 : Nat), (18 : Nat), (21 : Nat)), ((0 : Nat), (11 : Nat), (22 : Nat), (23 : Nat))] 8 135 1 6 [.ref (u 0), .int (iI a), .int (iI n), .ref o] S0 H (fun v9 H1 => v9 = some (.int (iI 2)) ∧ CW θ u H1 dt sy sm sd bc rf kn ∧ OB θ H1 o 8 [.long (lL nv), sv9]) (fun x : Nat => UA u H.size x ∨ x = o) := by
  refine ctw_of (by decide +kernel) (Nat.le_of_ble_eq_true rfl) ?_
  intro pg en s mi args below meth co ls fx hs hr hlk htab hl
  subst hs
  obtain ⟨hx, hb, hml, hown, hts⟩ := id fx.1
  have hS : va_S (fun x : Nat => UA u s.heap.size x ∨ x = o) s.heap s.heap [] := va_S.rf
  obtain ⟨hz, hu, hcw, hd, hsp⟩ := id hw
  have hK := sz_K fx.2 hz
  refine lv_aload_n hx hb dL_cycles_0 rfl (lv_at hl 3 rfl) ?_
  refine lv_aload_n hx hb dL_cycles_1 rfl (lv_at hl 0 rfl) ?_
  refine lv_iload_n hx hb dL_cycles_2 rfl (lv_at hl 1 rfl) ?_
  refine lv_iload_n hx hb dL_cycles_3 rfl (lv_at hl 2 rfl) ?_
  refine c_VT (As := [.int (iI a), .int (iI n)]) (rest := [.ref o]) (b := u 0) (C := RX1) (E := "java/lang/IllegalArgumentException") (name := "java/lang/IllegalArgumentException") (k := 1) (a0 := 0) (a1 := 11) (hpc := 18) (ct := 21) fx hl (no2_cycles θ l hl0 S0 _ u _ _ _ _ _ _ _ hw a n h_0 h_1 h_2 h_3) (ob_recv hK hcw.1 rfl) dL_cycles_4 k807 k808 k809 k1 k810 hd_X1_cycles rfl ⟨by decide, by decide⟩ (Nat.le_of_ble_eq_true rfl) ⟨by (try dsimp only); omega, by (try dsimp only); omega⟩ hS (fun x h => Or.inl (Or.inr h)) htab rfl ⟨by decide, by decide⟩ (by decide) k697 (nw_at (args := args) fx.2 hz.2.2.2.2.2.2.2.2.1 (by decide +kernel)) (by show ∀ q ∈ ([(0, 11, 14, 19)] : List (Nat × Nat × Nat × Nat)), _; exact List.forall_mem_cons.mpr ⟨⟨by decide, _, k696, hn.1.1⟩, fun q h => absurd h List.not_mem_nil⟩) (fun q2 H1 locs hszH1 hkH1 hS => ?_)
  have hcwH1 := hcw.kept (fun i hi => hkH1 _ (hcw.lt i hi))
  have hoH1 := ho.kept (hkH1 _ ho.lt)
  refine lv_astore (lv' := [(4, .ref q2), (0, .ref (u 0)), (1, .int (iI a)), (2, .int (iI n)), (3, .ref o)]) hx hb dL_cycles_18 hl (by decide) rfl (fun ls hl => ?_)
  refine q_con hx hb dL_cycles_20 ?_
  exact e_i hx hb hr hlk hS dL_cycles_21 (by first | exact Nat.le_of_ble_eq_true rfl | ((try dsimp only); omega)) (by first | exact Nat.le_of_ble_eq_true rfl | ((try dsimp only); omega)) ⟨rfl, hcwH1, hoH1⟩

set_option maxHeartbeats 4000000 in
set_option maxRecDepth 100000 in
theorem wn3_cycles (θ : TH) (l : Launch) (hl0 : l.stackTraces = false) (S0 : State) (H : Heap) (u : Nat → Nat) (dt sy sm sd : Nat → Int) (bc rf kn : Int) (hw : CWR θ S0 u H dt sy sm sd bc rf kn) (hj : SJ θ S0 H) (hn : NX S0) (o : Nat) (nv : Int) (sv9 : Value) (ho : OB θ H o 8 [.long (lL nv), sv9]) (hod : ∀ i : Nat, i < 7 → o ≠ u i) (a n : Int) (h_0 : -2147483648 ≤ a ∧ a < 2147483648) (h_1 : -2147483648 ≤ n ∧ n < 2147483648) (h_2 : 0 ≤ a ∧ a < 6) (h_3 : -60 ≤ n ∧ n ≤ 60) (h_4 : ¬ (-4371587 ≤ shI (dt a.toNat) (4800 * n) ∧ shI (dt a.toNat) (4800 * n) ≤ 2932896)) : CTW l yL_cycles cL_cycles 5 (some .int) [((0 : Nat), (11 : Nat), (14 : Nat), (19 : Nat)), ((0 : Nat), (11 : Nat), (18 : Nat), (21 : Nat)), ((0 : Nat), (11 : Nat), (22 : Nat), (23 : Nat))] 8 133 1 6 [.ref (u 0), .int (iI a), .int (iI n), .ref o] S0 H (fun v9 H1 => v9 = some (.int (iI 3)) ∧ CW θ u H1 dt sy sm sd bc rf kn ∧ OB θ H1 o 8 [.long (lL nv), sv9]) (fun x : Nat => UA u H.size x ∨ x = o) := by
  refine ctw_of (by decide +kernel) (Nat.le_of_ble_eq_true rfl) ?_
  intro pg en s mi args below meth co ls fx hs hr hlk htab hl
  subst hs
  obtain ⟨hx, hb, hml, hown, hts⟩ := id fx.1
  have hS : va_S (fun x : Nat => UA u s.heap.size x ∨ x = o) s.heap s.heap [] := va_S.rf
  obtain ⟨hz, hu, hcw, hd, hsp⟩ := id hw
  have hK := sz_K fx.2 hz
  refine lv_aload_n hx hb dL_cycles_0 rfl (lv_at hl 3 rfl) ?_
  refine lv_aload_n hx hb dL_cycles_1 rfl (lv_at hl 0 rfl) ?_
  refine lv_iload_n hx hb dL_cycles_2 rfl (lv_at hl 1 rfl) ?_
  refine lv_iload_n hx hb dL_cycles_3 rfl (lv_at hl 2 rfl) ?_
  refine c_VT (As := [.int (iI a), .int (iI n)]) (rest := [.ref o]) (b := u 0) (C := RX1) (E := "java/lang/IllegalStateException") (name := "java/lang/IllegalStateException") (k := 2) (a0 := 0) (a1 := 11) (hpc := 22) (ct := 23) fx hl (no3_cycles θ l hl0 S0 _ u _ _ _ _ _ _ _ hw a n h_0 h_1 h_2 h_3 h_4) (ob_recv hK hcw.1 rfl) dL_cycles_4 k807 k808 k809 k1 k810 hd_X1_cycles rfl ⟨by decide, by decide⟩ (Nat.le_of_ble_eq_true rfl) ⟨by (try dsimp only); omega, by (try dsimp only); omega⟩ hS (fun x h => Or.inl (Or.inr h)) htab rfl ⟨by decide, by decide⟩ (by decide) k698 (nw_at (args := args) fx.2 hz.2.2.2.2.2.2.2.2.1 (by decide +kernel)) (by show ∀ q ∈ ([(0, 11, 14, 19), (0, 11, 18, 21)] : List (Nat × Nat × Nat × Nat)), _; exact List.forall_mem_cons.mpr ⟨⟨by decide, _, k696, hn.1.2.1⟩, List.forall_mem_cons.mpr ⟨⟨by decide, _, k697, hn.1.2.2⟩, fun q h => absurd h List.not_mem_nil⟩⟩) (fun q2 H1 locs hszH1 hkH1 hS => ?_)
  have hcwH1 := hcw.kept (fun i hi => hkH1 _ (hcw.lt i hi))
  have hoH1 := ho.kept (hkH1 _ ho.lt)
  refine lv_astore (lv' := [(4, .ref q2), (0, .ref (u 0)), (1, .int (iI a)), (2, .int (iI n)), (3, .ref o)]) hx hb dL_cycles_22 hl (by decide) rfl (fun ls hl => ?_)
  refine q_con hx hb dL_cycles_24 ?_
  exact e_i hx hb hr hlk hS dL_cycles_25 (by first | exact Nat.le_of_ble_eq_true rfl | ((try dsimp only); omega)) (by first | exact Nat.le_of_ble_eq_true rfl | ((try dsimp only); omega)) ⟨rfl, hcwH1, hoH1⟩

set_option maxHeartbeats 4000000 in
set_option maxRecDepth 100000 in
theorem wr_act (θ : TH) (l : Launch) (hl0 : l.stackTraces = false) (S0 : State) (H : Heap) (u : Nat → Nat) (dt sy sm sd : Nat → Int) (bc rf kn : Int) (hw : CWR θ S0 u H dt sy sm sd bc rf kn) (hj : SJ θ S0 H) (hn : NX S0) (o : Nat) (nv : Int) (sv9 : Value) (ho : OB θ H o 8 [.long (lL nv), sv9]) (hod : ∀ i : Nat, i < 7 → o ≠ u i) (a s1 f g n k r : Int) (h_0 : -2147483648 ≤ a ∧ a < 2147483648) (h_1 : -2147483648 ≤ s1 ∧ s1 < 2147483648) (h_2 : -2147483648 ≤ f ∧ f < 2147483648) (h_3 : -2147483648 ≤ g ∧ g < 2147483648) (h_4 : f = 0 ∨ f = 1) (h_5 : g = 0 ∨ g = 1) (h_6 : (g = 0 → n = 12 * sy s1.toNat + sm s1.toNat) ∧ (g = 1 → n = -(12 * sy s1.toNat + sm s1.toNat))) (h_7 : (g = 0 → k = sd s1.toNat) ∧ (g = 1 → k = -(sd s1.toNat))) (h_8 : (f = 1 → r = shI (dt a.toNat + k) n) ∧ (f = 0 → r = shI (dt a.toNat) n + k)) (h_9 : 0 ≤ a ∧ a < 6) (h_10 : 0 ≤ s1 ∧ s1 < 3) (h_11 : -4371587 ≤ r ∧ r ≤ 2932896) : CTW l yL_act cL_act 7 (some .int) [((0 : Nat), (15 : Nat), (18 : Nat), (19 : Nat)), ((0 : Nat), (15 : Nat), (22 : Nat), (23 : Nat))] 6 142 0 0 [.ref (u 0), .int (iI a), .int (iI s1), .int (iI f), .int (iI g), .ref o] S0 H (fun v9 H1 => v9 = some (.int (iI 0)) ∧ CW θ u H1 (up dt a.toNat r) sy sm sd (bc + 1) rf kn ∧ OB θ H1 o 8 [.long (lL (iI r).toInt), sv9]) (fun x : Nat => UA u H.size x ∨ x = o) := by
  refine ctw_of (by decide +kernel) (Nat.le_of_ble_eq_true rfl) ?_
  intro pg en s mi args below meth co ls fx hs hr hlk htab hl
  subst hs
  obtain ⟨hx, hb, hml, hown, hts⟩ := id fx.1
  have hS : va_S (fun x : Nat => UA u s.heap.size x ∨ x = o) s.heap s.heap [] := va_S.rf
  obtain ⟨hz, hu, hcw, hd, hsp⟩ := id hw
  have hK := sz_K fx.2 hz
  refine lv_aload hx hb dL_act_0 (lv_at hl 5 rfl) ?_
  refine lv_aload_n hx hb dL_act_2 rfl (lv_at hl 0 rfl) ?_
  refine lv_iload_n hx hb dL_act_3 rfl (lv_at hl 1 rfl) ?_
  refine lv_iload_n hx hb dL_act_4 rfl (lv_at hl 2 rfl) ?_
  refine lv_iload_n hx hb dL_act_5 rfl (lv_at hl 3 rfl) ?_
  refine lv_iload hx hb dL_act_6 (lv_at hl 4 rfl) ?_
  refine c_Vr (As := [.int (iI a), .int (iI s1), .int (iI f), .int (iI g)]) (rest := [.ref o]) (b := u 0) (C := RX1) (r := some (.int (iI r))) (st1 := [.int (iI r), .ref o]) fx hl (ok_act θ l hl0 S0 _ u _ _ _ _ _ _ _ hw a s1 f g n k r h_0 h_1 h_2 h_3 h_4 h_5 h_6 h_7 h_8 h_9 h_10 h_11) (ob_recv hK hcw.1 rfl) dL_act_8 k814 k815 k816 k1 k817 hd_X1_act rfl rfl ⟨by decide, by decide⟩ (Nat.le_of_ble_eq_true rfl) ⟨by (try dsimp only); omega, by (try dsimp only); omega⟩ hS (fun x h => Or.inl h) (fun H1 locs hpH1 hszH1 hk0H1 hS => ?_)
  have hoH1 := ho.kept (hk0H1 _ ho.lt (fun h => h.elim (fun ⟨i, hi, e⟩ => hod i hi e) (fun h => Nat.not_le.mpr ho.lt h)))
  have hcwH1 := hpH1
  refine q_i2lx hx hb dL_act_11 ?_
  refine r_putN (θ := θ) (C := RX2) (T := TX2) (N := 2) (ci := 8) (v := .long (lL ((iI r).toInt))) (ty := .long) hx hb hts gwX2 tyX2 tyX2_ok nmX2 hown hK hoH1 (Or.inr rfl) hS rfl 0 (by decide) (va_Nw.use rfl (va_Nw.warmF fx.2 hn.2.1)) (fun _ h => h) rfl (by decide +kernel) rfl rfl (Nat.le_of_ble_eq_true rfl) dL_act_12 (fun H2 locs hqH2 hszH2 hkH2 hS => ?_)
  have hoH2 : OB θ H2 o 8 [.long (lL ((iI r).toInt)), sv9] := hqH2
  have hcwH2 := hcwH1.kept (fun i hi => hkH2 _ (Ne.symm (hod i hi)))
  refine lv_goto (tgt := 26) hx hb dL_act_15 (by decide) ?_
  refine q_con hx hb dL_act_26 ?_
  exact e_i hx hb hr hlk hS dL_act_27 (by first | exact Nat.le_of_ble_eq_true rfl | ((try dsimp only); omega)) (by first | exact Nat.le_of_ble_eq_true rfl | ((try dsimp only); omega)) ⟨rfl, hcwH2, hoH2⟩

set_option maxHeartbeats 4000000 in
set_option maxRecDepth 100000 in
theorem wn1_act (θ : TH) (l : Launch) (hl0 : l.stackTraces = false) (S0 : State) (H : Heap) (u : Nat → Nat) (dt sy sm sd : Nat → Int) (bc rf kn : Int) (hw : CWR θ S0 u H dt sy sm sd bc rf kn) (hj : SJ θ S0 H) (hn : NX S0) (o : Nat) (nv : Int) (sv9 : Value) (ho : OB θ H o 8 [.long (lL nv), sv9]) (hod : ∀ i : Nat, i < 7 → o ≠ u i) (a s1 f g n k r : Int) (h_0 : -2147483648 ≤ a ∧ a < 2147483648) (h_1 : -2147483648 ≤ s1 ∧ s1 < 2147483648) (h_2 : -2147483648 ≤ f ∧ f < 2147483648) (h_3 : -2147483648 ≤ g ∧ g < 2147483648) (h_4 : f = 0 ∨ f = 1) (h_5 : g = 0 ∨ g = 1) (h_6 : (g = 0 → n = 12 * sy s1.toNat + sm s1.toNat) ∧ (g = 1 → n = -(12 * sy s1.toNat + sm s1.toNat))) (h_7 : (g = 0 → k = sd s1.toNat) ∧ (g = 1 → k = -(sd s1.toNat))) (h_8 : (f = 1 → r = shI (dt a.toNat + k) n) ∧ (f = 0 → r = shI (dt a.toNat) n + k)) (h_9 : ¬ (0 ≤ a ∧ a < 6)) : CTW l yL_act cL_act 7 (some .int) [((0 : Nat), (15 : Nat), (18 : Nat), (19 : Nat)), ((0 : Nat), (15 : Nat), (22 : Nat), (23 : Nat))] 8 138 1 6 [.ref (u 0), .int (iI a), .int (iI s1), .int (iI f), .int (iI g), .ref o] S0 H (fun v9 H1 => v9 = some (.int (iI 1)) ∧ CW θ u H1 dt sy sm sd bc rf kn ∧ OB θ H1 o 8 [.long (lL nv), sv9]) (fun x : Nat => UA u H.size x ∨ x = o) := by
  refine ctw_of (by decide +kernel) (Nat.le_of_ble_eq_true rfl) ?_
  intro pg en s mi args below meth co ls fx hs hr hlk htab hl
  subst hs
  obtain ⟨hx, hb, hml, hown, hts⟩ := id fx.1
  have hS : va_S (fun x : Nat => UA u s.heap.size x ∨ x = o) s.heap s.heap [] := va_S.rf
  obtain ⟨hz, hu, hcw, hd, hsp⟩ := id hw
  have hK := sz_K fx.2 hz
  refine lv_aload hx hb dL_act_0 (lv_at hl 5 rfl) ?_
  refine lv_aload_n hx hb dL_act_2 rfl (lv_at hl 0 rfl) ?_
  refine lv_iload_n hx hb dL_act_3 rfl (lv_at hl 1 rfl) ?_
  refine lv_iload_n hx hb dL_act_4 rfl (lv_at hl 2 rfl) ?_
  refine lv_iload_n hx hb dL_act_5 rfl (lv_at hl 3 rfl) ?_
  refine lv_iload hx hb dL_act_6 (lv_at hl 4 rfl) ?_
  refine c_VT (As := [.int (iI a), .int (iI s1), .int (iI f), .int (iI g)]) (rest := [.ref o]) (b := u 0) (C := RX1) (E := "java/lang/IndexOutOfBoundsException") (name := "java/lang/IndexOutOfBoundsException") (k := 0) (a0 := 0) (a1 := 15) (hpc := 18) (ct := 19) fx hl (no1_act θ l hl0 S0 _ u _ _ _ _ _ _ _ hw a s1 f g n k r h_0 h_1 h_2 h_3 h_4 h_5 h_6 h_7 h_8 h_9) (ob_recv hK hcw.1 rfl) dL_act_8 k814 k815 k816 k1 k817 hd_X1_act rfl ⟨by decide, by decide⟩ (Nat.le_of_ble_eq_true rfl) ⟨by (try dsimp only); omega, by (try dsimp only); omega⟩ hS (fun x h => Or.inl (Or.inr h)) htab rfl ⟨by decide, by decide⟩ (by decide) k696 (nw_at (args := args) fx.2 hz.2.2.2.2.2.2.2.2.1 (by decide +kernel)) (by show ∀ q ∈ ([] : List (Nat × Nat × Nat × Nat)), _; exact fun q h => absurd h List.not_mem_nil) (fun q2 H1 locs hszH1 hkH1 hS => ?_)
  have hcwH1 := hcw.kept (fun i hi => hkH1 _ (hcw.lt i hi))
  have hoH1 := ho.kept (hkH1 _ ho.lt)
  refine lv_astore (lv' := [(6, .ref q2), (0, .ref (u 0)), (1, .int (iI a)), (2, .int (iI s1)), (3, .int (iI f)), (4, .int (iI g)), (5, .ref o)]) hx hb dL_act_18 hl (by decide) rfl (fun ls hl => ?_)
  refine q_con hx hb dL_act_20 ?_
  exact e_i hx hb hr hlk hS dL_act_21 (by first | exact Nat.le_of_ble_eq_true rfl | ((try dsimp only); omega)) (by first | exact Nat.le_of_ble_eq_true rfl | ((try dsimp only); omega)) ⟨rfl, hcwH1, hoH1⟩

set_option maxHeartbeats 4000000 in
set_option maxRecDepth 100000 in
theorem wn2_act (θ : TH) (l : Launch) (hl0 : l.stackTraces = false) (S0 : State) (H : Heap) (u : Nat → Nat) (dt sy sm sd : Nat → Int) (bc rf kn : Int) (hw : CWR θ S0 u H dt sy sm sd bc rf kn) (hj : SJ θ S0 H) (hn : NX S0) (o : Nat) (nv : Int) (sv9 : Value) (ho : OB θ H o 8 [.long (lL nv), sv9]) (hod : ∀ i : Nat, i < 7 → o ≠ u i) (a s1 f g n k r : Int) (h_0 : -2147483648 ≤ a ∧ a < 2147483648) (h_1 : -2147483648 ≤ s1 ∧ s1 < 2147483648) (h_2 : -2147483648 ≤ f ∧ f < 2147483648) (h_3 : -2147483648 ≤ g ∧ g < 2147483648) (h_4 : f = 0 ∨ f = 1) (h_5 : g = 0 ∨ g = 1) (h_6 : (g = 0 → n = 12 * sy s1.toNat + sm s1.toNat) ∧ (g = 1 → n = -(12 * sy s1.toNat + sm s1.toNat))) (h_7 : (g = 0 → k = sd s1.toNat) ∧ (g = 1 → k = -(sd s1.toNat))) (h_8 : (f = 1 → r = shI (dt a.toNat + k) n) ∧ (f = 0 → r = shI (dt a.toNat) n + k)) (h_9 : 0 ≤ a ∧ a < 6) (h_10 : ¬ (0 ≤ s1 ∧ s1 < 3)) : CTW l yL_act cL_act 7 (some .int) [((0 : Nat), (15 : Nat), (18 : Nat), (19 : Nat)), ((0 : Nat), (15 : Nat), (22 : Nat), (23 : Nat))] 8 138 1 6 [.ref (u 0), .int (iI a), .int (iI s1), .int (iI f), .int (iI g), .ref o] S0 H (fun v9 H1 => v9 = some (.int (iI 1)) ∧ CW θ u H1 dt sy sm sd bc rf kn ∧ OB θ H1 o 8 [.long (lL nv), sv9]) (fun x : Nat => UA u H.size x ∨ x = o) := by
  refine ctw_of (by decide +kernel) (Nat.le_of_ble_eq_true rfl) ?_
  intro pg en s mi args below meth co ls fx hs hr hlk htab hl
  subst hs
  obtain ⟨hx, hb, hml, hown, hts⟩ := id fx.1
  have hS : va_S (fun x : Nat => UA u s.heap.size x ∨ x = o) s.heap s.heap [] := va_S.rf
  obtain ⟨hz, hu, hcw, hd, hsp⟩ := id hw
  have hK := sz_K fx.2 hz
  refine lv_aload hx hb dL_act_0 (lv_at hl 5 rfl) ?_
  refine lv_aload_n hx hb dL_act_2 rfl (lv_at hl 0 rfl) ?_
  refine lv_iload_n hx hb dL_act_3 rfl (lv_at hl 1 rfl) ?_
  refine lv_iload_n hx hb dL_act_4 rfl (lv_at hl 2 rfl) ?_
  refine lv_iload_n hx hb dL_act_5 rfl (lv_at hl 3 rfl) ?_
  refine lv_iload hx hb dL_act_6 (lv_at hl 4 rfl) ?_
  refine c_VT (As := [.int (iI a), .int (iI s1), .int (iI f), .int (iI g)]) (rest := [.ref o]) (b := u 0) (C := RX1) (E := "java/lang/IndexOutOfBoundsException") (name := "java/lang/IndexOutOfBoundsException") (k := 0) (a0 := 0) (a1 := 15) (hpc := 18) (ct := 19) fx hl (no2_act θ l hl0 S0 _ u _ _ _ _ _ _ _ hw a s1 f g n k r h_0 h_1 h_2 h_3 h_4 h_5 h_6 h_7 h_8 h_9 h_10) (ob_recv hK hcw.1 rfl) dL_act_8 k814 k815 k816 k1 k817 hd_X1_act rfl ⟨by decide, by decide⟩ (Nat.le_of_ble_eq_true rfl) ⟨by (try dsimp only); omega, by (try dsimp only); omega⟩ hS (fun x h => Or.inl (Or.inr h)) htab rfl ⟨by decide, by decide⟩ (by decide) k696 (nw_at (args := args) fx.2 hz.2.2.2.2.2.2.2.2.1 (by decide +kernel)) (by show ∀ q ∈ ([] : List (Nat × Nat × Nat × Nat)), _; exact fun q h => absurd h List.not_mem_nil) (fun q2 H1 locs hszH1 hkH1 hS => ?_)
  have hcwH1 := hcw.kept (fun i hi => hkH1 _ (hcw.lt i hi))
  have hoH1 := ho.kept (hkH1 _ ho.lt)
  refine lv_astore (lv' := [(6, .ref q2), (0, .ref (u 0)), (1, .int (iI a)), (2, .int (iI s1)), (3, .int (iI f)), (4, .int (iI g)), (5, .ref o)]) hx hb dL_act_18 hl (by decide) rfl (fun ls hl => ?_)
  refine q_con hx hb dL_act_20 ?_
  exact e_i hx hb hr hlk hS dL_act_21 (by first | exact Nat.le_of_ble_eq_true rfl | ((try dsimp only); omega)) (by first | exact Nat.le_of_ble_eq_true rfl | ((try dsimp only); omega)) ⟨rfl, hcwH1, hoH1⟩

set_option maxHeartbeats 4000000 in
set_option maxRecDepth 100000 in
theorem wn3_act (θ : TH) (l : Launch) (hl0 : l.stackTraces = false) (S0 : State) (H : Heap) (u : Nat → Nat) (dt sy sm sd : Nat → Int) (bc rf kn : Int) (hw : CWR θ S0 u H dt sy sm sd bc rf kn) (hj : SJ θ S0 H) (hn : NX S0) (o : Nat) (nv : Int) (sv9 : Value) (ho : OB θ H o 8 [.long (lL nv), sv9]) (hod : ∀ i : Nat, i < 7 → o ≠ u i) (a s1 f g n k r : Int) (h_0 : -2147483648 ≤ a ∧ a < 2147483648) (h_1 : -2147483648 ≤ s1 ∧ s1 < 2147483648) (h_2 : -2147483648 ≤ f ∧ f < 2147483648) (h_3 : -2147483648 ≤ g ∧ g < 2147483648) (h_4 : f = 0 ∨ f = 1) (h_5 : g = 0 ∨ g = 1) (h_6 : (g = 0 → n = 12 * sy s1.toNat + sm s1.toNat) ∧ (g = 1 → n = -(12 * sy s1.toNat + sm s1.toNat))) (h_7 : (g = 0 → k = sd s1.toNat) ∧ (g = 1 → k = -(sd s1.toNat))) (h_8 : (f = 1 → r = shI (dt a.toNat + k) n) ∧ (f = 0 → r = shI (dt a.toNat) n + k)) (h_9 : 0 ≤ a ∧ a < 6) (h_10 : 0 ≤ s1 ∧ s1 < 3) (h_11 : ¬ (-4371587 ≤ r ∧ r ≤ 2932896)) : CTW l yL_act cL_act 7 (some .int) [((0 : Nat), (15 : Nat), (18 : Nat), (19 : Nat)), ((0 : Nat), (15 : Nat), (22 : Nat), (23 : Nat))] 8 142 1 6 [.ref (u 0), .int (iI a), .int (iI s1), .int (iI f), .int (iI g), .ref o] S0 H (fun v9 H1 => v9 = some (.int (iI 2)) ∧ CW θ u H1 dt sy sm sd bc rf kn ∧ OB θ H1 o 8 [.long (lL nv), sv9]) (fun x : Nat => UA u H.size x ∨ x = o) := by
  refine ctw_of (by decide +kernel) (Nat.le_of_ble_eq_true rfl) ?_
  intro pg en s mi args below meth co ls fx hs hr hlk htab hl
  subst hs
  obtain ⟨hx, hb, hml, hown, hts⟩ := id fx.1
  have hS : va_S (fun x : Nat => UA u s.heap.size x ∨ x = o) s.heap s.heap [] := va_S.rf
  obtain ⟨hz, hu, hcw, hd, hsp⟩ := id hw
  have hK := sz_K fx.2 hz
  refine lv_aload hx hb dL_act_0 (lv_at hl 5 rfl) ?_
  refine lv_aload_n hx hb dL_act_2 rfl (lv_at hl 0 rfl) ?_
  refine lv_iload_n hx hb dL_act_3 rfl (lv_at hl 1 rfl) ?_
  refine lv_iload_n hx hb dL_act_4 rfl (lv_at hl 2 rfl) ?_
  refine lv_iload_n hx hb dL_act_5 rfl (lv_at hl 3 rfl) ?_
  refine lv_iload hx hb dL_act_6 (lv_at hl 4 rfl) ?_
  refine c_VT (As := [.int (iI a), .int (iI s1), .int (iI f), .int (iI g)]) (rest := [.ref o]) (b := u 0) (C := RX1) (E := "java/lang/IllegalStateException") (name := "java/lang/IllegalStateException") (k := 1) (a0 := 0) (a1 := 15) (hpc := 22) (ct := 23) fx hl (no3_act θ l hl0 S0 _ u _ _ _ _ _ _ _ hw a s1 f g n k r h_0 h_1 h_2 h_3 h_4 h_5 h_6 h_7 h_8 h_9 h_10 h_11) (ob_recv hK hcw.1 rfl) dL_act_8 k814 k815 k816 k1 k817 hd_X1_act rfl ⟨by decide, by decide⟩ (Nat.le_of_ble_eq_true rfl) ⟨by (try dsimp only); omega, by (try dsimp only); omega⟩ hS (fun x h => Or.inl (Or.inr h)) htab rfl ⟨by decide, by decide⟩ (by decide) k698 (nw_at (args := args) fx.2 hz.2.2.2.2.2.2.2.2.1 (by decide +kernel)) (by show ∀ q ∈ ([(0, 15, 18, 19)] : List (Nat × Nat × Nat × Nat)), _; exact List.forall_mem_cons.mpr ⟨⟨by decide, _, k696, hn.1.2.1⟩, fun q h => absurd h List.not_mem_nil⟩) (fun q2 H1 locs hszH1 hkH1 hS => ?_)
  have hcwH1 := hcw.kept (fun i hi => hkH1 _ (hcw.lt i hi))
  have hoH1 := ho.kept (hkH1 _ ho.lt)
  refine lv_astore (lv' := [(6, .ref q2), (0, .ref (u 0)), (1, .int (iI a)), (2, .int (iI s1)), (3, .int (iI f)), (4, .int (iI g)), (5, .ref o)]) hx hb dL_act_22 hl (by decide) rfl (fun ls hl => ?_)
  refine q_con hx hb dL_act_24 ?_
  exact e_i hx hb hr hlk hS dL_act_25 (by first | exact Nat.le_of_ble_eq_true rfl | ((try dsimp only); omega)) (by first | exact Nat.le_of_ble_eq_true rfl | ((try dsimp only); omega)) ⟨rfl, hcwH1, hoH1⟩

set_option maxHeartbeats 4000000 in
set_option maxRecDepth 100000 in
theorem wr_actOften (θ : TH) (l : Launch) (hl0 : l.stackTraces = false) (S0 : State) (H : Heap) (u : Nat → Nat) (dt sy sm sd : Nat → Int) (bc rf kn : Int) (hw : CWR θ S0 u H dt sy sm sd bc rf kn) (hj : SJ θ S0 H) (hn : NX S0) (o : Nat) (nv : Int) (sv9 : Value) (ho : OB θ H o 8 [.long (lL nv), sv9]) (hod : ∀ i : Nat, i < 7 → o ≠ u i) (a s1 t n : Int) (h_0 : -2147483648 ≤ a ∧ a < 2147483648) (h_1 : -2147483648 ≤ s1 ∧ s1 < 2147483648) (h_2 : -2147483648 ≤ t ∧ t < 2147483648) (h_3 : n = 12 * sy s1.toNat + sm s1.toNat) (h_4 : 0 ≤ a ∧ a < 6) (h_5 : 0 ≤ s1 ∧ s1 < 3) (h_6 : 0 ≤ t ∧ t ≤ 24) (h_7 : -4371587 ≤ (itA (dt a.toNat) n (sd s1.toNat) t.toNat) ∧ (itA (dt a.toNat) n (sd s1.toNat) t.toNat) ≤ 2932896) : CTW l yL_actOften cL_actOften 6 (some .int) [((0 : Nat), (13 : Nat), (16 : Nat), (19 : Nat)), ((0 : Nat), (13 : Nat), (20 : Nat), (21 : Nat)), ((0 : Nat), (13 : Nat), (24 : Nat), (23 : Nat))] 6 140 0 0 [.ref (u 0), .int (iI a), .int (iI s1), .int (iI t), .ref o] S0 H (fun v9 H1 => v9 = some (.int (iI 0)) ∧ CW θ u H1 (up dt a.toNat (itA (dt a.toNat) n (sd s1.toNat) t.toNat)) sy sm sd (bc + 1) rf kn ∧ OB θ H1 o 8 [.long (lL (iI (itA (dt a.toNat) n (sd s1.toNat) t.toNat)).toInt), sv9]) (fun x : Nat => UA u H.size x ∨ x = o) := by
  refine ctw_of (by decide +kernel) (Nat.le_of_ble_eq_true rfl) ?_
  intro pg en s mi args below meth co ls fx hs hr hlk htab hl
  subst hs
  obtain ⟨hx, hb, hml, hown, hts⟩ := id fx.1
  have hS : va_S (fun x : Nat => UA u s.heap.size x ∨ x = o) s.heap s.heap [] := va_S.rf
  obtain ⟨hz, hu, hcw, hd, hsp⟩ := id hw
  have hK := sz_K fx.2 hz
  refine lv_aload hx hb dL_actOften_0 (lv_at hl 4 rfl) ?_
  refine lv_aload_n hx hb dL_actOften_2 rfl (lv_at hl 0 rfl) ?_
  refine lv_iload_n hx hb dL_actOften_3 rfl (lv_at hl 1 rfl) ?_
  refine lv_iload_n hx hb dL_actOften_4 rfl (lv_at hl 2 rfl) ?_
  refine lv_iload_n hx hb dL_actOften_5 rfl (lv_at hl 3 rfl) ?_
  refine c_Vr (As := [.int (iI a), .int (iI s1), .int (iI t)]) (rest := [.ref o]) (b := u 0) (C := RX1) (r := some (.int (iI (itA (dt a.toNat) n (sd s1.toNat) t.toNat)))) (st1 := [.int (iI (itA (dt a.toNat) n (sd s1.toNat) t.toNat)), .ref o]) fx hl (ok_actOften θ l hl0 S0 _ u _ _ _ _ _ _ _ hw a s1 t n h_0 h_1 h_2 h_3 h_4 h_5 h_6 h_7) (ob_recv hK hcw.1 rfl) dL_actOften_6 k821 k822 k823 k1 k824 hd_X1_actOften rfl rfl ⟨by decide, by decide⟩ (Nat.le_of_ble_eq_true rfl) ⟨by (try dsimp only); omega, by (try dsimp only); omega⟩ hS (fun x h => Or.inl h) (fun H1 locs hpH1 hszH1 hk0H1 hS => ?_)
  have hoH1 := ho.kept (hk0H1 _ ho.lt (fun h => h.elim (fun ⟨i, hi, e⟩ => hod i hi e) (fun h => Nat.not_le.mpr ho.lt h)))
  have hcwH1 := hpH1
  refine q_i2lx hx hb dL_actOften_9 ?_
  refine r_putN (θ := θ) (C := RX2) (T := TX2) (N := 2) (ci := 8) (v := .long (lL ((iI (itA (dt a.toNat) n (sd s1.toNat) t.toNat)).toInt))) (ty := .long) hx hb hts gwX2 tyX2 tyX2_ok nmX2 hown hK hoH1 (Or.inr rfl) hS rfl 0 (by decide) (va_Nw.use rfl (va_Nw.warmF fx.2 hn.2.1)) (fun _ h => h) rfl (by decide +kernel) rfl rfl (Nat.le_of_ble_eq_true rfl) dL_actOften_10 (fun H2 locs hqH2 hszH2 hkH2 hS => ?_)
  have hoH2 : OB θ H2 o 8 [.long (lL ((iI (itA (dt a.toNat) n (sd s1.toNat) t.toNat)).toInt)), sv9] := hqH2
  have hcwH2 := hcwH1.kept (fun i hi => hkH2 _ (Ne.symm (hod i hi)))
  refine lv_goto (tgt := 28) hx hb dL_actOften_13 (by decide) ?_
  refine q_con hx hb dL_actOften_28 ?_
  exact e_i hx hb hr hlk hS dL_actOften_29 (by first | exact Nat.le_of_ble_eq_true rfl | ((try dsimp only); omega)) (by first | exact Nat.le_of_ble_eq_true rfl | ((try dsimp only); omega)) ⟨rfl, hcwH2, hoH2⟩

set_option maxHeartbeats 4000000 in
set_option maxRecDepth 100000 in
theorem wn1_actOften (θ : TH) (l : Launch) (hl0 : l.stackTraces = false) (S0 : State) (H : Heap) (u : Nat → Nat) (dt sy sm sd : Nat → Int) (bc rf kn : Int) (hw : CWR θ S0 u H dt sy sm sd bc rf kn) (hj : SJ θ S0 H) (hn : NX S0) (o : Nat) (nv : Int) (sv9 : Value) (ho : OB θ H o 8 [.long (lL nv), sv9]) (hod : ∀ i : Nat, i < 7 → o ≠ u i) (a s1 t n : Int) (h_0 : -2147483648 ≤ a ∧ a < 2147483648) (h_1 : -2147483648 ≤ s1 ∧ s1 < 2147483648) (h_2 : -2147483648 ≤ t ∧ t < 2147483648) (h_3 : n = 12 * sy s1.toNat + sm s1.toNat) (h_4 : ¬ (0 ≤ a ∧ a < 6)) : CTW l yL_actOften cL_actOften 6 (some .int) [((0 : Nat), (13 : Nat), (16 : Nat), (19 : Nat)), ((0 : Nat), (13 : Nat), (20 : Nat), (21 : Nat)), ((0 : Nat), (13 : Nat), (24 : Nat), (23 : Nat))] 8 136 1 6 [.ref (u 0), .int (iI a), .int (iI s1), .int (iI t), .ref o] S0 H (fun v9 H1 => v9 = some (.int (iI 1)) ∧ CW θ u H1 dt sy sm sd bc rf kn ∧ OB θ H1 o 8 [.long (lL nv), sv9]) (fun x : Nat => UA u H.size x ∨ x = o) := by
  refine ctw_of (by decide +kernel) (Nat.le_of_ble_eq_true rfl) ?_
  intro pg en s mi args below meth co ls fx hs hr hlk htab hl
  subst hs
  obtain ⟨hx, hb, hml, hown, hts⟩ := id fx.1
  have hS : va_S (fun x : Nat => UA u s.heap.size x ∨ x = o) s.heap s.heap [] := va_S.rf
  obtain ⟨hz, hu, hcw, hd, hsp⟩ := id hw
  have hK := sz_K fx.2 hz
  refine lv_aload hx hb dL_actOften_0 (lv_at hl 4 rfl) ?_
  refine lv_aload_n hx hb dL_actOften_2 rfl (lv_at hl 0 rfl) ?_
  refine lv_iload_n hx hb dL_actOften_3 rfl (lv_at hl 1 rfl) ?_
  refine lv_iload_n hx hb dL_actOften_4 rfl (lv_at hl 2 rfl) ?_
  refine lv_iload_n hx hb dL_actOften_5 rfl (lv_at hl 3 rfl) ?_
  refine c_VT (As := [.int (iI a), .int (iI s1), .int (iI t)]) (rest := [.ref o]) (b := u 0) (C := RX1) (E := "java/lang/IndexOutOfBoundsException") (name := "java/lang/IndexOutOfBoundsException") (k := 0) (a0 := 0) (a1 := 13) (hpc := 16) (ct := 19) fx hl (no1_actOften θ l hl0 S0 _ u _ _ _ _ _ _ _ hw a s1 t n h_0 h_1 h_2 h_3 h_4) (ob_recv hK hcw.1 rfl) dL_actOften_6 k821 k822 k823 k1 k824 hd_X1_actOften rfl ⟨by decide, by decide⟩ (Nat.le_of_ble_eq_true rfl) ⟨by (try dsimp only); omega, by (try dsimp only); omega⟩ hS (fun x h => Or.inl (Or.inr h)) htab rfl ⟨by decide, by decide⟩ (by decide) k696 (nw_at (args := args) fx.2 hz.2.2.2.2.2.2.2.2.1 (by decide +kernel)) (by show ∀ q ∈ ([] : List (Nat × Nat × Nat × Nat)), _; exact fun q h => absurd h List.not_mem_nil) (fun q2 H1 locs hszH1 hkH1 hS => ?_)
  have hcwH1 := hcw.kept (fun i hi => hkH1 _ (hcw.lt i hi))
  have hoH1 := ho.kept (hkH1 _ ho.lt)
  refine lv_astore (lv' := [(5, .ref q2), (0, .ref (u 0)), (1, .int (iI a)), (2, .int (iI s1)), (3, .int (iI t)), (4, .ref o)]) hx hb dL_actOften_16 hl (by decide) rfl (fun ls hl => ?_)
  refine q_con hx hb dL_actOften_18 ?_
  exact e_i hx hb hr hlk hS dL_actOften_19 (by first | exact Nat.le_of_ble_eq_true rfl | ((try dsimp only); omega)) (by first | exact Nat.le_of_ble_eq_true rfl | ((try dsimp only); omega)) ⟨rfl, hcwH1, hoH1⟩

set_option maxHeartbeats 4000000 in
set_option maxRecDepth 100000 in
theorem wn2_actOften (θ : TH) (l : Launch) (hl0 : l.stackTraces = false) (S0 : State) (H : Heap) (u : Nat → Nat) (dt sy sm sd : Nat → Int) (bc rf kn : Int) (hw : CWR θ S0 u H dt sy sm sd bc rf kn) (hj : SJ θ S0 H) (hn : NX S0) (o : Nat) (nv : Int) (sv9 : Value) (ho : OB θ H o 8 [.long (lL nv), sv9]) (hod : ∀ i : Nat, i < 7 → o ≠ u i) (a s1 t n : Int) (h_0 : -2147483648 ≤ a ∧ a < 2147483648) (h_1 : -2147483648 ≤ s1 ∧ s1 < 2147483648) (h_2 : -2147483648 ≤ t ∧ t < 2147483648) (h_3 : n = 12 * sy s1.toNat + sm s1.toNat) (h_4 : 0 ≤ a ∧ a < 6) (h_5 : ¬ (0 ≤ s1 ∧ s1 < 3)) : CTW l yL_actOften cL_actOften 6 (some .int) [((0 : Nat), (13 : Nat), (16 : Nat), (19 : Nat)), ((0 : Nat), (13 : Nat), (20 : Nat), (21 : Nat)), ((0 : Nat), (13 : Nat), (24 : Nat), (23 : Nat))] 8 136 1 6 [.ref (u 0), .int (iI a), .int (iI s1), .int (iI t), .ref o] S0 H (fun v9 H1 => v9 = some (.int (iI 1)) ∧ CW θ u H1 dt sy sm sd bc rf kn ∧ OB θ H1 o 8 [.long (lL nv), sv9]) (fun x : Nat => UA u H.size x ∨ x = o) := by
  refine ctw_of (by decide +kernel) (Nat.le_of_ble_eq_true rfl) ?_
  intro pg en s mi args below meth co ls fx hs hr hlk htab hl
  subst hs
  obtain ⟨hx, hb, hml, hown, hts⟩ := id fx.1
  have hS : va_S (fun x : Nat => UA u s.heap.size x ∨ x = o) s.heap s.heap [] := va_S.rf
  obtain ⟨hz, hu, hcw, hd, hsp⟩ := id hw
  have hK := sz_K fx.2 hz
  refine lv_aload hx hb dL_actOften_0 (lv_at hl 4 rfl) ?_
  refine lv_aload_n hx hb dL_actOften_2 rfl (lv_at hl 0 rfl) ?_
  refine lv_iload_n hx hb dL_actOften_3 rfl (lv_at hl 1 rfl) ?_
  refine lv_iload_n hx hb dL_actOften_4 rfl (lv_at hl 2 rfl) ?_
  refine lv_iload_n hx hb dL_actOften_5 rfl (lv_at hl 3 rfl) ?_
  refine c_VT (As := [.int (iI a), .int (iI s1), .int (iI t)]) (rest := [.ref o]) (b := u 0) (C := RX1) (E := "java/lang/IndexOutOfBoundsException") (name := "java/lang/IndexOutOfBoundsException") (k := 0) (a0 := 0) (a1 := 13) (hpc := 16) (ct := 19) fx hl (no2_actOften θ l hl0 S0 _ u _ _ _ _ _ _ _ hw a s1 t n h_0 h_1 h_2 h_3 h_4 h_5) (ob_recv hK hcw.1 rfl) dL_actOften_6 k821 k822 k823 k1 k824 hd_X1_actOften rfl ⟨by decide, by decide⟩ (Nat.le_of_ble_eq_true rfl) ⟨by (try dsimp only); omega, by (try dsimp only); omega⟩ hS (fun x h => Or.inl (Or.inr h)) htab rfl ⟨by decide, by decide⟩ (by decide) k696 (nw_at (args := args) fx.2 hz.2.2.2.2.2.2.2.2.1 (by decide +kernel)) (by show ∀ q ∈ ([] : List (Nat × Nat × Nat × Nat)), _; exact fun q h => absurd h List.not_mem_nil) (fun q2 H1 locs hszH1 hkH1 hS => ?_)
  have hcwH1 := hcw.kept (fun i hi => hkH1 _ (hcw.lt i hi))
  have hoH1 := ho.kept (hkH1 _ ho.lt)
  refine lv_astore (lv' := [(5, .ref q2), (0, .ref (u 0)), (1, .int (iI a)), (2, .int (iI s1)), (3, .int (iI t)), (4, .ref o)]) hx hb dL_actOften_16 hl (by decide) rfl (fun ls hl => ?_)
  refine q_con hx hb dL_actOften_18 ?_
  exact e_i hx hb hr hlk hS dL_actOften_19 (by first | exact Nat.le_of_ble_eq_true rfl | ((try dsimp only); omega)) (by first | exact Nat.le_of_ble_eq_true rfl | ((try dsimp only); omega)) ⟨rfl, hcwH1, hoH1⟩

set_option maxHeartbeats 4000000 in
set_option maxRecDepth 100000 in
theorem wn3_actOften (θ : TH) (l : Launch) (hl0 : l.stackTraces = false) (S0 : State) (H : Heap) (u : Nat → Nat) (dt sy sm sd : Nat → Int) (bc rf kn : Int) (hw : CWR θ S0 u H dt sy sm sd bc rf kn) (hj : SJ θ S0 H) (hn : NX S0) (o : Nat) (nv : Int) (sv9 : Value) (ho : OB θ H o 8 [.long (lL nv), sv9]) (hod : ∀ i : Nat, i < 7 → o ≠ u i) (a s1 t n : Int) (h_0 : -2147483648 ≤ a ∧ a < 2147483648) (h_1 : -2147483648 ≤ s1 ∧ s1 < 2147483648) (h_2 : -2147483648 ≤ t ∧ t < 2147483648) (h_3 : n = 12 * sy s1.toNat + sm s1.toNat) (h_4 : 0 ≤ a ∧ a < 6) (h_5 : 0 ≤ s1 ∧ s1 < 3) (h_6 : ¬ (0 ≤ t ∧ t ≤ 24)) : CTW l yL_actOften cL_actOften 6 (some .int) [((0 : Nat), (13 : Nat), (16 : Nat), (19 : Nat)), ((0 : Nat), (13 : Nat), (20 : Nat), (21 : Nat)), ((0 : Nat), (13 : Nat), (24 : Nat), (23 : Nat))] 8 138 1 6 [.ref (u 0), .int (iI a), .int (iI s1), .int (iI t), .ref o] S0 H (fun v9 H1 => v9 = some (.int (iI 2)) ∧ CW θ u H1 dt sy sm sd bc rf kn ∧ OB θ H1 o 8 [.long (lL nv), sv9]) (fun x : Nat => UA u H.size x ∨ x = o) := by
  refine ctw_of (by decide +kernel) (Nat.le_of_ble_eq_true rfl) ?_
  intro pg en s mi args below meth co ls fx hs hr hlk htab hl
  subst hs
  obtain ⟨hx, hb, hml, hown, hts⟩ := id fx.1
  have hS : va_S (fun x : Nat => UA u s.heap.size x ∨ x = o) s.heap s.heap [] := va_S.rf
  obtain ⟨hz, hu, hcw, hd, hsp⟩ := id hw
  have hK := sz_K fx.2 hz
  refine lv_aload hx hb dL_actOften_0 (lv_at hl 4 rfl) ?_
  refine lv_aload_n hx hb dL_actOften_2 rfl (lv_at hl 0 rfl) ?_
  refine lv_iload_n hx hb dL_actOften_3 rfl (lv_at hl 1 rfl) ?_
  refine lv_iload_n hx hb dL_actOften_4 rfl (lv_at hl 2 rfl) ?_
  refine lv_iload_n hx hb dL_actOften_5 rfl (lv_at hl 3 rfl) ?_
  refine c_VT (As := [.int (iI a), .int (iI s1), .int (iI t)]) (rest := [.ref o]) (b := u 0) (C := RX1) (E := "java/lang/IllegalArgumentException") (name := "java/lang/IllegalArgumentException") (k := 1) (a0 := 0) (a1 := 13) (hpc := 20) (ct := 21) fx hl (no3_actOften θ l hl0 S0 _ u _ _ _ _ _ _ _ hw a s1 t n h_0 h_1 h_2 h_3 h_4 h_5 h_6) (ob_recv hK hcw.1 rfl) dL_actOften_6 k821 k822 k823 k1 k824 hd_X1_actOften rfl ⟨by decide, by decide⟩ (Nat.le_of_ble_eq_true rfl) ⟨by (try dsimp only); omega, by (try dsimp only); omega⟩ hS (fun x h => Or.inl (Or.inr h)) htab rfl ⟨by decide, by decide⟩ (by decide) k697 (nw_at (args := args) fx.2 hz.2.2.2.2.2.2.2.2.1 (by decide +kernel)) (by show ∀ q ∈ ([(0, 13, 16, 19)] : List (Nat × Nat × Nat × Nat)), _; exact List.forall_mem_cons.mpr ⟨⟨by decide, _, k696, hn.1.1⟩, fun q h => absurd h List.not_mem_nil⟩) (fun q2 H1 locs hszH1 hkH1 hS => ?_)
  have hcwH1 := hcw.kept (fun i hi => hkH1 _ (hcw.lt i hi))
  have hoH1 := ho.kept (hkH1 _ ho.lt)
  refine lv_astore (lv' := [(5, .ref q2), (0, .ref (u 0)), (1, .int (iI a)), (2, .int (iI s1)), (3, .int (iI t)), (4, .ref o)]) hx hb dL_actOften_20 hl (by decide) rfl (fun ls hl => ?_)
  refine q_con hx hb dL_actOften_22 ?_
  exact e_i hx hb hr hlk hS dL_actOften_23 (by first | exact Nat.le_of_ble_eq_true rfl | ((try dsimp only); omega)) (by first | exact Nat.le_of_ble_eq_true rfl | ((try dsimp only); omega)) ⟨rfl, hcwH1, hoH1⟩

set_option maxHeartbeats 4000000 in
set_option maxRecDepth 100000 in
theorem wn4_actOften (θ : TH) (l : Launch) (hl0 : l.stackTraces = false) (S0 : State) (H : Heap) (u : Nat → Nat) (dt sy sm sd : Nat → Int) (bc rf kn : Int) (hw : CWR θ S0 u H dt sy sm sd bc rf kn) (hj : SJ θ S0 H) (hn : NX S0) (o : Nat) (nv : Int) (sv9 : Value) (ho : OB θ H o 8 [.long (lL nv), sv9]) (hod : ∀ i : Nat, i < 7 → o ≠ u i) (a s1 t n : Int) (h_0 : -2147483648 ≤ a ∧ a < 2147483648) (h_1 : -2147483648 ≤ s1 ∧ s1 < 2147483648) (h_2 : -2147483648 ≤ t ∧ t < 2147483648) (h_3 : n = 12 * sy s1.toNat + sm s1.toNat) (h_4 : 0 ≤ a ∧ a < 6) (h_5 : 0 ≤ s1 ∧ s1 < 3) (h_6 : 0 ≤ t ∧ t ≤ 24) (h_7 : ¬ (-4371587 ≤ (itA (dt a.toNat) n (sd s1.toNat) t.toNat) ∧ (itA (dt a.toNat) n (sd s1.toNat) t.toNat) ≤ 2932896)) : CTW l yL_actOften cL_actOften 6 (some .int) [((0 : Nat), (13 : Nat), (16 : Nat), (19 : Nat)), ((0 : Nat), (13 : Nat), (20 : Nat), (21 : Nat)), ((0 : Nat), (13 : Nat), (24 : Nat), (23 : Nat))] 8 140 1 6 [.ref (u 0), .int (iI a), .int (iI s1), .int (iI t), .ref o] S0 H (fun v9 H1 => v9 = some (.int (iI 3)) ∧ CW θ u H1 dt sy sm sd bc rf kn ∧ OB θ H1 o 8 [.long (lL nv), sv9]) (fun x : Nat => UA u H.size x ∨ x = o) := by
  refine ctw_of (by decide +kernel) (Nat.le_of_ble_eq_true rfl) ?_
  intro pg en s mi args below meth co ls fx hs hr hlk htab hl
  subst hs
  obtain ⟨hx, hb, hml, hown, hts⟩ := id fx.1
  have hS : va_S (fun x : Nat => UA u s.heap.size x ∨ x = o) s.heap s.heap [] := va_S.rf
  obtain ⟨hz, hu, hcw, hd, hsp⟩ := id hw
  have hK := sz_K fx.2 hz
  refine lv_aload hx hb dL_actOften_0 (lv_at hl 4 rfl) ?_
  refine lv_aload_n hx hb dL_actOften_2 rfl (lv_at hl 0 rfl) ?_
  refine lv_iload_n hx hb dL_actOften_3 rfl (lv_at hl 1 rfl) ?_
  refine lv_iload_n hx hb dL_actOften_4 rfl (lv_at hl 2 rfl) ?_
  refine lv_iload_n hx hb dL_actOften_5 rfl (lv_at hl 3 rfl) ?_
  refine c_VT (As := [.int (iI a), .int (iI s1), .int (iI t)]) (rest := [.ref o]) (b := u 0) (C := RX1) (E := "java/lang/IllegalStateException") (name := "java/lang/IllegalStateException") (k := 2) (a0 := 0) (a1 := 13) (hpc := 24) (ct := 23) fx hl (no4_actOften θ l hl0 S0 _ u _ _ _ _ _ _ _ hw a s1 t n h_0 h_1 h_2 h_3 h_4 h_5 h_6 h_7) (ob_recv hK hcw.1 rfl) dL_actOften_6 k821 k822 k823 k1 k824 hd_X1_actOften rfl ⟨by decide, by decide⟩ (Nat.le_of_ble_eq_true rfl) ⟨by (try dsimp only); omega, by (try dsimp only); omega⟩ hS (fun x h => Or.inl (Or.inr h)) htab rfl ⟨by decide, by decide⟩ (by decide) k698 (nw_at (args := args) fx.2 hz.2.2.2.2.2.2.2.2.1 (by decide +kernel)) (by show ∀ q ∈ ([(0, 13, 16, 19), (0, 13, 20, 21)] : List (Nat × Nat × Nat × Nat)), _; exact List.forall_mem_cons.mpr ⟨⟨by decide, _, k696, hn.1.2.1⟩, List.forall_mem_cons.mpr ⟨⟨by decide, _, k697, hn.1.2.2⟩, fun q h => absurd h List.not_mem_nil⟩⟩) (fun q2 H1 locs hszH1 hkH1 hS => ?_)
  have hcwH1 := hcw.kept (fun i hi => hkH1 _ (hcw.lt i hi))
  have hoH1 := ho.kept (hkH1 _ ho.lt)
  refine lv_astore (lv' := [(5, .ref q2), (0, .ref (u 0)), (1, .int (iI a)), (2, .int (iI s1)), (3, .int (iI t)), (4, .ref o)]) hx hb dL_actOften_24 hl (by decide) rfl (fun ls hl => ?_)
  refine q_con hx hb dL_actOften_26 ?_
  exact e_i hx hb hr hlk hS dL_actOften_27 (by first | exact Nat.le_of_ble_eq_true rfl | ((try dsimp only); omega)) (by first | exact Nat.le_of_ble_eq_true rfl | ((try dsimp only); omega)) ⟨rfl, hcwH1, hoH1⟩

set_option maxHeartbeats 4000000 in
set_option maxRecDepth 100000 in
theorem wr_span (θ : TH) (l : Launch) (hl0 : l.stackTraces = false) (S0 : State) (H : Heap) (u : Nat → Nat) (dt sy sm sd : Nat → Int) (bc rf kn : Int) (hw : CWR θ S0 u H dt sy sm sd bc rf kn) (hj : SJ θ S0 H) (hn : NX S0) (o : Nat) (nv : Int) (sv9 : Value) (ho : OB θ H o 8 [.long (lL nv), sv9]) (hod : ∀ i : Nat, i < 7 → o ≠ u i) (a x y z : Int) (h_0 : -2147483648 ≤ a ∧ a < 2147483648) (h_1 : -2147483648 ≤ x ∧ x < 2147483648) (h_2 : -2147483648 ≤ y ∧ y < 2147483648) (h_3 : -2147483648 ≤ z ∧ z < 2147483648) (h_4 : 0 ≤ a ∧ a < 3) (h_5 : -20000 ≤ x ∧ x ≤ 20000) (h_6 : -240000 ≤ y ∧ y ≤ 240000) (h_7 : -100000 ≤ z ∧ z ≤ 100000) : CTW l yL_span cL_span 7 (some .int) [((0 : Nat), (15 : Nat), (18 : Nat), (19 : Nat)), ((0 : Nat), (15 : Nat), (22 : Nat), (21 : Nat))] 3 66 0 0 [.ref (u 0), .int (iI a), .int (iI x), .int (iI y), .int (iI z), .ref o] S0 H (fun v9 H1 => v9 = some (.int (iI 0)) ∧ CW θ u H1 dt (up sy a.toNat (x)) (up sm a.toNat (y)) (up sd a.toNat (z)) (bc + 1) rf kn ∧ OB θ H1 o 8 [.long (lL (iI (12 * x + y)).toInt), sv9]) (fun x : Nat => UA u H.size x ∨ x = o) := by
  refine ctw_of (by decide +kernel) (Nat.le_of_ble_eq_true rfl) ?_
  intro pg en s mi args below meth co ls fx hs hr hlk htab hl
  subst hs
  obtain ⟨hx, hb, hml, hown, hts⟩ := id fx.1
  have hS : va_S (fun x : Nat => UA u s.heap.size x ∨ x = o) s.heap s.heap [] := va_S.rf
  obtain ⟨hz, hu, hcw, hd, hsp⟩ := id hw
  have hK := sz_K fx.2 hz
  refine lv_aload hx hb dL_span_0 (lv_at hl 5 rfl) ?_
  refine lv_aload_n hx hb dL_span_2 rfl (lv_at hl 0 rfl) ?_
  refine lv_iload_n hx hb dL_span_3 rfl (lv_at hl 1 rfl) ?_
  refine lv_iload_n hx hb dL_span_4 rfl (lv_at hl 2 rfl) ?_
  refine lv_iload_n hx hb dL_span_5 rfl (lv_at hl 3 rfl) ?_
  refine lv_iload hx hb dL_span_6 (lv_at hl 4 rfl) ?_
  refine c_Vr (As := [.int (iI a), .int (iI x), .int (iI y), .int (iI z)]) (rest := [.ref o]) (b := u 0) (C := RX1) (r := some (.int (iI (12 * x + y)))) (st1 := [.int (iI (12 * x + y)), .ref o]) fx hl (ok_span θ l hl0 S0 _ u _ _ _ _ _ _ _ hw a x y z h_0 h_1 h_2 h_3 h_4 h_5 h_6 h_7) (ob_recv hK hcw.1 rfl) dL_span_8 k828 k829 k830 k1 k831 hd_X1_span rfl rfl ⟨by decide, by decide⟩ (Nat.le_of_ble_eq_true rfl) ⟨by (try dsimp only); omega, by (try dsimp only); omega⟩ hS (fun x h => Or.inl h) (fun H1 locs hpH1 hszH1 hk0H1 hS => ?_)
  have hoH1 := ho.kept (hk0H1 _ ho.lt (fun h => h.elim (fun ⟨i, hi, e⟩ => hod i hi e) (fun h => Nat.not_le.mpr ho.lt h)))
  have hcwH1 := hpH1
  refine q_i2lx hx hb dL_span_11 ?_
  refine r_putN (θ := θ) (C := RX2) (T := TX2) (N := 2) (ci := 8) (v := .long (lL ((iI (12 * x + y)).toInt))) (ty := .long) hx hb hts gwX2 tyX2 tyX2_ok nmX2 hown hK hoH1 (Or.inr rfl) hS rfl 0 (by decide) (va_Nw.use rfl (va_Nw.warmF fx.2 hn.2.1)) (fun _ h => h) rfl (by decide +kernel) rfl rfl (Nat.le_of_ble_eq_true rfl) dL_span_12 (fun H2 locs hqH2 hszH2 hkH2 hS => ?_)
  have hoH2 : OB θ H2 o 8 [.long (lL ((iI (12 * x + y)).toInt)), sv9] := hqH2
  have hcwH2 := hcwH1.kept (fun i hi => hkH2 _ (Ne.symm (hod i hi)))
  refine lv_goto (tgt := 26) hx hb dL_span_15 (by decide) ?_
  refine q_con hx hb dL_span_26 ?_
  exact e_i hx hb hr hlk hS dL_span_27 (by first | exact Nat.le_of_ble_eq_true rfl | ((try dsimp only); omega)) (by first | exact Nat.le_of_ble_eq_true rfl | ((try dsimp only); omega)) ⟨rfl, hcwH2, hoH2⟩

set_option maxHeartbeats 4000000 in
set_option maxRecDepth 100000 in
theorem wn1_span (θ : TH) (l : Launch) (hl0 : l.stackTraces = false) (S0 : State) (H : Heap) (u : Nat → Nat) (dt sy sm sd : Nat → Int) (bc rf kn : Int) (hw : CWR θ S0 u H dt sy sm sd bc rf kn) (hj : SJ θ S0 H) (hn : NX S0) (o : Nat) (nv : Int) (sv9 : Value) (ho : OB θ H o 8 [.long (lL nv), sv9]) (hod : ∀ i : Nat, i < 7 → o ≠ u i) (a x y z : Int) (h_0 : -2147483648 ≤ a ∧ a < 2147483648) (h_1 : -2147483648 ≤ x ∧ x < 2147483648) (h_2 : -2147483648 ≤ y ∧ y < 2147483648) (h_3 : -2147483648 ≤ z ∧ z < 2147483648) (h_4 : ¬ (0 ≤ a ∧ a < 3)) : CTW l yL_span cL_span 7 (some .int) [((0 : Nat), (15 : Nat), (18 : Nat), (19 : Nat)), ((0 : Nat), (15 : Nat), (22 : Nat), (21 : Nat))] 8 134 1 6 [.ref (u 0), .int (iI a), .int (iI x), .int (iI y), .int (iI z), .ref o] S0 H (fun v9 H1 => v9 = some (.int (iI 1)) ∧ CW θ u H1 dt sy sm sd bc rf kn ∧ OB θ H1 o 8 [.long (lL nv), sv9]) (fun x : Nat => UA u H.size x ∨ x = o) := by
  refine ctw_of (by decide +kernel) (Nat.le_of_ble_eq_true rfl) ?_
  intro pg en s mi args below meth co ls fx hs hr hlk htab hl
  subst hs
  obtain ⟨hx, hb, hml, hown, hts⟩ := id fx.1
  have hS : va_S (fun x : Nat => UA u s.heap.size x ∨ x = o) s.heap s.heap [] := va_S.rf
  obtain ⟨hz, hu, hcw, hd, hsp⟩ := id hw
  have hK := sz_K fx.2 hz
  refine lv_aload hx hb dL_span_0 (lv_at hl 5 rfl) ?_
  refine lv_aload_n hx hb dL_span_2 rfl (lv_at hl 0 rfl) ?_
  refine lv_iload_n hx hb dL_span_3 rfl (lv_at hl 1 rfl) ?_
  refine lv_iload_n hx hb dL_span_4 rfl (lv_at hl 2 rfl) ?_
  refine lv_iload_n hx hb dL_span_5 rfl (lv_at hl 3 rfl) ?_
  refine lv_iload hx hb dL_span_6 (lv_at hl 4 rfl) ?_
  refine c_VT (As := [.int (iI a), .int (iI x), .int (iI y), .int (iI z)]) (rest := [.ref o]) (b := u 0) (C := RX1) (E := "java/lang/IndexOutOfBoundsException") (name := "java/lang/IndexOutOfBoundsException") (k := 0) (a0 := 0) (a1 := 15) (hpc := 18) (ct := 19) fx hl (no1_span θ l hl0 S0 _ u _ _ _ _ _ _ _ hw a x y z h_0 h_1 h_2 h_3 h_4) (ob_recv hK hcw.1 rfl) dL_span_8 k828 k829 k830 k1 k831 hd_X1_span rfl ⟨by decide, by decide⟩ (Nat.le_of_ble_eq_true rfl) ⟨by (try dsimp only); omega, by (try dsimp only); omega⟩ hS (fun x h => Or.inl (Or.inr h)) htab rfl ⟨by decide, by decide⟩ (by decide) k696 (nw_at (args := args) fx.2 hz.2.2.2.2.2.2.2.2.1 (by decide +kernel)) (by show ∀ q ∈ ([] : List (Nat × Nat × Nat × Nat)), _; exact fun q h => absurd h List.not_mem_nil) (fun q2 H1 locs hszH1 hkH1 hS => ?_)
  have hcwH1 := hcw.kept (fun i hi => hkH1 _ (hcw.lt i hi))
  have hoH1 := ho.kept (hkH1 _ ho.lt)
  refine lv_astore (lv' := [(6, .ref q2), (0, .ref (u 0)), (1, .int (iI a)), (2, .int (iI x)), (3, .int (iI y)), (4, .int (iI z)), (5, .ref o)]) hx hb dL_span_18 hl (by decide) rfl (fun ls hl => ?_)
  refine q_con hx hb dL_span_20 ?_
  exact e_i hx hb hr hlk hS dL_span_21 (by first | exact Nat.le_of_ble_eq_true rfl | ((try dsimp only); omega)) (by first | exact Nat.le_of_ble_eq_true rfl | ((try dsimp only); omega)) ⟨rfl, hcwH1, hoH1⟩

set_option maxHeartbeats 4000000 in
set_option maxRecDepth 100000 in
theorem wn2_span (θ : TH) (l : Launch) (hl0 : l.stackTraces = false) (S0 : State) (H : Heap) (u : Nat → Nat) (dt sy sm sd : Nat → Int) (bc rf kn : Int) (hw : CWR θ S0 u H dt sy sm sd bc rf kn) (hj : SJ θ S0 H) (hn : NX S0) (o : Nat) (nv : Int) (sv9 : Value) (ho : OB θ H o 8 [.long (lL nv), sv9]) (hod : ∀ i : Nat, i < 7 → o ≠ u i) (a x y z : Int) (h_0 : -2147483648 ≤ a ∧ a < 2147483648) (h_1 : -2147483648 ≤ x ∧ x < 2147483648) (h_2 : -2147483648 ≤ y ∧ y < 2147483648) (h_3 : -2147483648 ≤ z ∧ z < 2147483648) (h_4 : 0 ≤ a ∧ a < 3) (h_5 : ¬ (-20000 ≤ x ∧ x ≤ 20000)) : CTW l yL_span cL_span 7 (some .int) [((0 : Nat), (15 : Nat), (18 : Nat), (19 : Nat)), ((0 : Nat), (15 : Nat), (22 : Nat), (21 : Nat))] 8 136 1 6 [.ref (u 0), .int (iI a), .int (iI x), .int (iI y), .int (iI z), .ref o] S0 H (fun v9 H1 => v9 = some (.int (iI 2)) ∧ CW θ u H1 dt sy sm sd bc rf kn ∧ OB θ H1 o 8 [.long (lL nv), sv9]) (fun x : Nat => UA u H.size x ∨ x = o) := by
  refine ctw_of (by decide +kernel) (Nat.le_of_ble_eq_true rfl) ?_
  intro pg en s mi args below meth co ls fx hs hr hlk htab hl
  subst hs
  obtain ⟨hx, hb, hml, hown, hts⟩ := id fx.1
  have hS : va_S (fun x : Nat => UA u s.heap.size x ∨ x = o) s.heap s.heap [] := va_S.rf
  obtain ⟨hz, hu, hcw, hd, hsp⟩ := id hw
  have hK := sz_K fx.2 hz
  refine lv_aload hx hb dL_span_0 (lv_at hl 5 rfl) ?_
  refine lv_aload_n hx hb dL_span_2 rfl (lv_at hl 0 rfl) ?_
  refine lv_iload_n hx hb dL_span_3 rfl (lv_at hl 1 rfl) ?_
  refine lv_iload_n hx hb dL_span_4 rfl (lv_at hl 2 rfl) ?_
  refine lv_iload_n hx hb dL_span_5 rfl (lv_at hl 3 rfl) ?_
  refine lv_iload hx hb dL_span_6 (lv_at hl 4 rfl) ?_
  refine c_VT (As := [.int (iI a), .int (iI x), .int (iI y), .int (iI z)]) (rest := [.ref o]) (b := u 0) (C := RX1) (E := "java/lang/IllegalArgumentException") (name := "java/lang/IllegalArgumentException") (k := 1) (a0 := 0) (a1 := 15) (hpc := 22) (ct := 21) fx hl (no2_span θ l hl0 S0 _ u _ _ _ _ _ _ _ hw a x y z h_0 h_1 h_2 h_3 h_4 h_5) (ob_recv hK hcw.1 rfl) dL_span_8 k828 k829 k830 k1 k831 hd_X1_span rfl ⟨by decide, by decide⟩ (Nat.le_of_ble_eq_true rfl) ⟨by (try dsimp only); omega, by (try dsimp only); omega⟩ hS (fun x h => Or.inl (Or.inr h)) htab rfl ⟨by decide, by decide⟩ (by decide) k697 (nw_at (args := args) fx.2 hz.2.2.2.2.2.2.2.2.1 (by decide +kernel)) (by show ∀ q ∈ ([(0, 15, 18, 19)] : List (Nat × Nat × Nat × Nat)), _; exact List.forall_mem_cons.mpr ⟨⟨by decide, _, k696, hn.1.1⟩, fun q h => absurd h List.not_mem_nil⟩) (fun q2 H1 locs hszH1 hkH1 hS => ?_)
  have hcwH1 := hcw.kept (fun i hi => hkH1 _ (hcw.lt i hi))
  have hoH1 := ho.kept (hkH1 _ ho.lt)
  refine lv_astore (lv' := [(6, .ref q2), (0, .ref (u 0)), (1, .int (iI a)), (2, .int (iI x)), (3, .int (iI y)), (4, .int (iI z)), (5, .ref o)]) hx hb dL_span_22 hl (by decide) rfl (fun ls hl => ?_)
  refine q_con hx hb dL_span_24 ?_
  exact e_i hx hb hr hlk hS dL_span_25 (by first | exact Nat.le_of_ble_eq_true rfl | ((try dsimp only); omega)) (by first | exact Nat.le_of_ble_eq_true rfl | ((try dsimp only); omega)) ⟨rfl, hcwH1, hoH1⟩

set_option maxHeartbeats 4000000 in
set_option maxRecDepth 100000 in
theorem wn3_span (θ : TH) (l : Launch) (hl0 : l.stackTraces = false) (S0 : State) (H : Heap) (u : Nat → Nat) (dt sy sm sd : Nat → Int) (bc rf kn : Int) (hw : CWR θ S0 u H dt sy sm sd bc rf kn) (hj : SJ θ S0 H) (hn : NX S0) (o : Nat) (nv : Int) (sv9 : Value) (ho : OB θ H o 8 [.long (lL nv), sv9]) (hod : ∀ i : Nat, i < 7 → o ≠ u i) (a x y z : Int) (h_0 : -2147483648 ≤ a ∧ a < 2147483648) (h_1 : -2147483648 ≤ x ∧ x < 2147483648) (h_2 : -2147483648 ≤ y ∧ y < 2147483648) (h_3 : -2147483648 ≤ z ∧ z < 2147483648) (h_4 : 0 ≤ a ∧ a < 3) (h_5 : -20000 ≤ x ∧ x ≤ 20000) (h_6 : ¬ (-240000 ≤ y ∧ y ≤ 240000)) : CTW l yL_span cL_span 7 (some .int) [((0 : Nat), (15 : Nat), (18 : Nat), (19 : Nat)), ((0 : Nat), (15 : Nat), (22 : Nat), (21 : Nat))] 9 156 1 6 [.ref (u 0), .int (iI a), .int (iI x), .int (iI y), .int (iI z), .ref o] S0 H (fun v9 H1 => v9 = some (.int (iI 2)) ∧ CW θ u H1 dt sy sm sd bc rf kn ∧ OB θ H1 o 8 [.long (lL nv), sv9]) (fun x : Nat => UA u H.size x ∨ x = o) := by
  refine ctw_of (by decide +kernel) (Nat.le_of_ble_eq_true rfl) ?_
  intro pg en s mi args below meth co ls fx hs hr hlk htab hl
  subst hs
  obtain ⟨hx, hb, hml, hown, hts⟩ := id fx.1
  have hS : va_S (fun x : Nat => UA u s.heap.size x ∨ x = o) s.heap s.heap [] := va_S.rf
  obtain ⟨hz, hu, hcw, hd, hsp⟩ := id hw
  have hK := sz_K fx.2 hz
  refine lv_aload hx hb dL_span_0 (lv_at hl 5 rfl) ?_
  refine lv_aload_n hx hb dL_span_2 rfl (lv_at hl 0 rfl) ?_
  refine lv_iload_n hx hb dL_span_3 rfl (lv_at hl 1 rfl) ?_
  refine lv_iload_n hx hb dL_span_4 rfl (lv_at hl 2 rfl) ?_
  refine lv_iload_n hx hb dL_span_5 rfl (lv_at hl 3 rfl) ?_
  refine lv_iload hx hb dL_span_6 (lv_at hl 4 rfl) ?_
  refine c_VT (As := [.int (iI a), .int (iI x), .int (iI y), .int (iI z)]) (rest := [.ref o]) (b := u 0) (C := RX1) (E := "java/lang/IllegalArgumentException") (name := "java/lang/IllegalArgumentException") (k := 1) (a0 := 0) (a1 := 15) (hpc := 22) (ct := 21) fx hl (no3_span θ l hl0 S0 _ u _ _ _ _ _ _ _ hw a x y z h_0 h_1 h_2 h_3 h_4 h_5 h_6) (ob_recv hK hcw.1 rfl) dL_span_8 k828 k829 k830 k1 k831 hd_X1_span rfl ⟨by decide, by decide⟩ (Nat.le_of_ble_eq_true rfl) ⟨by (try dsimp only); omega, by (try dsimp only); omega⟩ hS (fun x h => Or.inl (Or.inr h)) htab rfl ⟨by decide, by decide⟩ (by decide) k697 (nw_at (args := args) fx.2 hz.2.2.2.2.2.2.2.2.1 (by decide +kernel)) (by show ∀ q ∈ ([(0, 15, 18, 19)] : List (Nat × Nat × Nat × Nat)), _; exact List.forall_mem_cons.mpr ⟨⟨by decide, _, k696, hn.1.1⟩, fun q h => absurd h List.not_mem_nil⟩) (fun q2 H1 locs hszH1 hkH1 hS => ?_)
  have hcwH1 := hcw.kept (fun i hi => hkH1 _ (hcw.lt i hi))
  have hoH1 := ho.kept (hkH1 _ ho.lt)
  refine lv_astore (lv' := [(6, .ref q2), (0, .ref (u 0)), (1, .int (iI a)), (2, .int (iI x)), (3, .int (iI y)), (4, .int (iI z)), (5, .ref o)]) hx hb dL_span_22 hl (by decide) rfl (fun ls hl => ?_)
  refine q_con hx hb dL_span_24 ?_
  exact e_i hx hb hr hlk hS dL_span_25 (by first | exact Nat.le_of_ble_eq_true rfl | ((try dsimp only); omega)) (by first | exact Nat.le_of_ble_eq_true rfl | ((try dsimp only); omega)) ⟨rfl, hcwH1, hoH1⟩

set_option maxHeartbeats 4000000 in
set_option maxRecDepth 100000 in
theorem wn4_span (θ : TH) (l : Launch) (hl0 : l.stackTraces = false) (S0 : State) (H : Heap) (u : Nat → Nat) (dt sy sm sd : Nat → Int) (bc rf kn : Int) (hw : CWR θ S0 u H dt sy sm sd bc rf kn) (hj : SJ θ S0 H) (hn : NX S0) (o : Nat) (nv : Int) (sv9 : Value) (ho : OB θ H o 8 [.long (lL nv), sv9]) (hod : ∀ i : Nat, i < 7 → o ≠ u i) (a x y z : Int) (h_0 : -2147483648 ≤ a ∧ a < 2147483648) (h_1 : -2147483648 ≤ x ∧ x < 2147483648) (h_2 : -2147483648 ≤ y ∧ y < 2147483648) (h_3 : -2147483648 ≤ z ∧ z < 2147483648) (h_4 : 0 ≤ a ∧ a < 3) (h_5 : -20000 ≤ x ∧ x ≤ 20000) (h_6 : -240000 ≤ y ∧ y ≤ 240000) (h_7 : ¬ (-100000 ≤ z ∧ z ≤ 100000)) : CTW l yL_span cL_span 7 (some .int) [((0 : Nat), (15 : Nat), (18 : Nat), (19 : Nat)), ((0 : Nat), (15 : Nat), (22 : Nat), (21 : Nat))] 8 136 1 6 [.ref (u 0), .int (iI a), .int (iI x), .int (iI y), .int (iI z), .ref o] S0 H (fun v9 H1 => v9 = some (.int (iI 2)) ∧ CW θ u H1 dt sy sm sd bc rf kn ∧ OB θ H1 o 8 [.long (lL nv), sv9]) (fun x : Nat => UA u H.size x ∨ x = o) := by
  refine ctw_of (by decide +kernel) (Nat.le_of_ble_eq_true rfl) ?_
  intro pg en s mi args below meth co ls fx hs hr hlk htab hl
  subst hs
  obtain ⟨hx, hb, hml, hown, hts⟩ := id fx.1
  have hS : va_S (fun x : Nat => UA u s.heap.size x ∨ x = o) s.heap s.heap [] := va_S.rf
  obtain ⟨hz, hu, hcw, hd, hsp⟩ := id hw
  have hK := sz_K fx.2 hz
  refine lv_aload hx hb dL_span_0 (lv_at hl 5 rfl) ?_
  refine lv_aload_n hx hb dL_span_2 rfl (lv_at hl 0 rfl) ?_
  refine lv_iload_n hx hb dL_span_3 rfl (lv_at hl 1 rfl) ?_
  refine lv_iload_n hx hb dL_span_4 rfl (lv_at hl 2 rfl) ?_
  refine lv_iload_n hx hb dL_span_5 rfl (lv_at hl 3 rfl) ?_
  refine lv_iload hx hb dL_span_6 (lv_at hl 4 rfl) ?_
  refine c_VT (As := [.int (iI a), .int (iI x), .int (iI y), .int (iI z)]) (rest := [.ref o]) (b := u 0) (C := RX1) (E := "java/lang/IllegalArgumentException") (name := "java/lang/IllegalArgumentException") (k := 1) (a0 := 0) (a1 := 15) (hpc := 22) (ct := 21) fx hl (no4_span θ l hl0 S0 _ u _ _ _ _ _ _ _ hw a x y z h_0 h_1 h_2 h_3 h_4 h_5 h_6 h_7) (ob_recv hK hcw.1 rfl) dL_span_8 k828 k829 k830 k1 k831 hd_X1_span rfl ⟨by decide, by decide⟩ (Nat.le_of_ble_eq_true rfl) ⟨by (try dsimp only); omega, by (try dsimp only); omega⟩ hS (fun x h => Or.inl (Or.inr h)) htab rfl ⟨by decide, by decide⟩ (by decide) k697 (nw_at (args := args) fx.2 hz.2.2.2.2.2.2.2.2.1 (by decide +kernel)) (by show ∀ q ∈ ([(0, 15, 18, 19)] : List (Nat × Nat × Nat × Nat)), _; exact List.forall_mem_cons.mpr ⟨⟨by decide, _, k696, hn.1.1⟩, fun q h => absurd h List.not_mem_nil⟩) (fun q2 H1 locs hszH1 hkH1 hS => ?_)
  have hcwH1 := hcw.kept (fun i hi => hkH1 _ (hcw.lt i hi))
  have hoH1 := ho.kept (hkH1 _ ho.lt)
  refine lv_astore (lv' := [(6, .ref q2), (0, .ref (u 0)), (1, .int (iI a)), (2, .int (iI x)), (3, .int (iI y)), (4, .int (iI z)), (5, .ref o)]) hx hb dL_span_22 hl (by decide) rfl (fun ls hl => ?_)
  refine q_con hx hb dL_span_24 ?_
  exact e_i hx hb hr hlk hS dL_span_25 (by first | exact Nat.le_of_ble_eq_true rfl | ((try dsimp only); omega)) (by first | exact Nat.le_of_ble_eq_true rfl | ((try dsimp only); omega)) ⟨rfl, hcwH1, hoH1⟩

set_option maxHeartbeats 4000000 in
set_option maxRecDepth 100000 in
theorem wr_until (θ : TH) (l : Launch) (hl0 : l.stackTraces = false) (S0 : State) (H : Heap) (u : Nat → Nat) (dt sy sm sd : Nat → Int) (bc rf kn : Int) (hw : CWR θ S0 u H dt sy sm sd bc rf kn) (hj : SJ θ S0 H) (hn : NX S0) (o : Nat) (nv : Int) (sv9 : Value) (ho : OB θ H o 8 [.long (lL nv), sv9]) (hod : ∀ i : Nat, i < 7 → o ≠ u i) (a b c : Int) (h_0 : -2147483648 ≤ a ∧ a < 2147483648) (h_1 : -2147483648 ≤ b ∧ b < 2147483648) (h_2 : -2147483648 ≤ c ∧ c < 2147483648) (h_3 : 0 ≤ a ∧ a < 3) (h_4 : 0 ≤ b ∧ b < 6) (h_5 : 0 ≤ c ∧ c < 6) (h_6 : dt b.toNat ≤ dt c.toNat) : CTW l yL_until cL_until 6 (some .int) [((0 : Nat), (13 : Nat), (16 : Nat), (19 : Nat)), ((0 : Nat), (13 : Nat), (20 : Nat), (23 : Nat))] 6 136 0 0 [.ref (u 0), .int (iI a), .int (iI b), .int (iI c), .ref o] S0 H (fun v9 H1 => v9 = some (.int (iI 0)) ∧ CW θ u H1 dt (up sy a.toNat (muI (dt b.toNat) (dt c.toNat) / 12)) (up sm a.toNat (muI (dt b.toNat) (dt c.toNat) % 12)) (up sd a.toNat (dt c.toNat - shI (dt b.toNat) (muI (dt b.toNat) (dt c.toNat)))) (bc + 1) rf kn ∧ OB θ H1 o 8 [.long (lL (iI (dt c.toNat - shI (dt b.toNat) (muI (dt b.toNat) (dt c.toNat)))).toInt), sv9]) (fun x : Nat => UA u H.size x ∨ x = o) := by
  refine ctw_of (by decide +kernel) (Nat.le_of_ble_eq_true rfl) ?_
  intro pg en s mi args below meth co ls fx hs hr hlk htab hl
  subst hs
  obtain ⟨hx, hb, hml, hown, hts⟩ := id fx.1
  have hS : va_S (fun x : Nat => UA u s.heap.size x ∨ x = o) s.heap s.heap [] := va_S.rf
  obtain ⟨hz, hu, hcw, hd, hsp⟩ := id hw
  have hK := sz_K fx.2 hz
  refine lv_aload hx hb dL_until_0 (lv_at hl 4 rfl) ?_
  refine lv_aload_n hx hb dL_until_2 rfl (lv_at hl 0 rfl) ?_
  refine lv_iload_n hx hb dL_until_3 rfl (lv_at hl 1 rfl) ?_
  refine lv_iload_n hx hb dL_until_4 rfl (lv_at hl 2 rfl) ?_
  refine lv_iload_n hx hb dL_until_5 rfl (lv_at hl 3 rfl) ?_
  refine c_Vr (As := [.int (iI a), .int (iI b), .int (iI c)]) (rest := [.ref o]) (b := u 0) (C := RX1) (r := some (.int (iI (dt c.toNat - shI (dt b.toNat) (muI (dt b.toNat) (dt c.toNat)))))) (st1 := [.int (iI (dt c.toNat - shI (dt b.toNat) (muI (dt b.toNat) (dt c.toNat)))), .ref o]) fx hl (ok_until θ l hl0 S0 _ u _ _ _ _ _ _ _ hw a b c h_0 h_1 h_2 h_3 h_4 h_5 h_6) (ob_recv hK hcw.1 rfl) dL_until_6 k839 k840 k841 k1 k842 hd_X1_until rfl rfl ⟨by decide, by decide⟩ (Nat.le_of_ble_eq_true rfl) ⟨by (try dsimp only); omega, by (try dsimp only); omega⟩ hS (fun x h => Or.inl h) (fun H1 locs hpH1 hszH1 hk0H1 hS => ?_)
  have hoH1 := ho.kept (hk0H1 _ ho.lt (fun h => h.elim (fun ⟨i, hi, e⟩ => hod i hi e) (fun h => Nat.not_le.mpr ho.lt h)))
  have hcwH1 := hpH1
  refine q_i2lx hx hb dL_until_9 ?_
  refine r_putN (θ := θ) (C := RX2) (T := TX2) (N := 2) (ci := 8) (v := .long (lL ((iI (dt c.toNat - shI (dt b.toNat) (muI (dt b.toNat) (dt c.toNat)))).toInt))) (ty := .long) hx hb hts gwX2 tyX2 tyX2_ok nmX2 hown hK hoH1 (Or.inr rfl) hS rfl 0 (by decide) (va_Nw.use rfl (va_Nw.warmF fx.2 hn.2.1)) (fun _ h => h) rfl (by decide +kernel) rfl rfl (Nat.le_of_ble_eq_true rfl) dL_until_10 (fun H2 locs hqH2 hszH2 hkH2 hS => ?_)
  have hoH2 : OB θ H2 o 8 [.long (lL ((iI (dt c.toNat - shI (dt b.toNat) (muI (dt b.toNat) (dt c.toNat)))).toInt)), sv9] := hqH2
  have hcwH2 := hcwH1.kept (fun i hi => hkH2 _ (Ne.symm (hod i hi)))
  refine lv_goto (tgt := 24) hx hb dL_until_13 (by decide) ?_
  refine q_con hx hb dL_until_24 ?_
  exact e_i hx hb hr hlk hS dL_until_25 (by first | exact Nat.le_of_ble_eq_true rfl | ((try dsimp only); omega)) (by first | exact Nat.le_of_ble_eq_true rfl | ((try dsimp only); omega)) ⟨rfl, hcwH2, hoH2⟩

set_option maxHeartbeats 4000000 in
set_option maxRecDepth 100000 in
theorem wn1_until (θ : TH) (l : Launch) (hl0 : l.stackTraces = false) (S0 : State) (H : Heap) (u : Nat → Nat) (dt sy sm sd : Nat → Int) (bc rf kn : Int) (hw : CWR θ S0 u H dt sy sm sd bc rf kn) (hj : SJ θ S0 H) (hn : NX S0) (o : Nat) (nv : Int) (sv9 : Value) (ho : OB θ H o 8 [.long (lL nv), sv9]) (hod : ∀ i : Nat, i < 7 → o ≠ u i) (a b c : Int) (h_0 : -2147483648 ≤ a ∧ a < 2147483648) (h_1 : -2147483648 ≤ b ∧ b < 2147483648) (h_2 : -2147483648 ≤ c ∧ c < 2147483648) (h_3 : ¬ (0 ≤ a ∧ a < 3)) : CTW l yL_until cL_until 6 (some .int) [((0 : Nat), (13 : Nat), (16 : Nat), (19 : Nat)), ((0 : Nat), (13 : Nat), (20 : Nat), (23 : Nat))] 8 134 1 6 [.ref (u 0), .int (iI a), .int (iI b), .int (iI c), .ref o] S0 H (fun v9 H1 => v9 = some (.int (iI 1)) ∧ CW θ u H1 dt sy sm sd bc rf kn ∧ OB θ H1 o 8 [.long (lL nv), sv9]) (fun x : Nat => UA u H.size x ∨ x = o) := by
  refine ctw_of (by decide +kernel) (Nat.le_of_ble_eq_true rfl) ?_
  intro pg en s mi args below meth co ls fx hs hr hlk htab hl
  subst hs
  obtain ⟨hx, hb, hml, hown, hts⟩ := id fx.1
  have hS : va_S (fun x : Nat => UA u s.heap.size x ∨ x = o) s.heap s.heap [] := va_S.rf
  obtain ⟨hz, hu, hcw, hd, hsp⟩ := id hw
  have hK := sz_K fx.2 hz
  refine lv_aload hx hb dL_until_0 (lv_at hl 4 rfl) ?_
  refine lv_aload_n hx hb dL_until_2 rfl (lv_at hl 0 rfl) ?_
  refine lv_iload_n hx hb dL_until_3 rfl (lv_at hl 1 rfl) ?_
  refine lv_iload_n hx hb dL_until_4 rfl (lv_at hl 2 rfl) ?_
  refine lv_iload_n hx hb dL_until_5 rfl (lv_at hl 3 rfl) ?_
  refine c_VT (As := [.int (iI a), .int (iI b), .int (iI c)]) (rest := [.ref o]) (b := u 0) (C := RX1) (E := "java/lang/IndexOutOfBoundsException") (name := "java/lang/IndexOutOfBoundsException") (k := 0) (a0 := 0) (a1 := 13) (hpc := 16) (ct := 19) fx hl (no1_until θ l hl0 S0 _ u _ _ _ _ _ _ _ hw a b c h_0 h_1 h_2 h_3) (ob_recv hK hcw.1 rfl) dL_until_6 k839 k840 k841 k1 k842 hd_X1_until rfl ⟨by decide, by decide⟩ (Nat.le_of_ble_eq_true rfl) ⟨by (try dsimp only); omega, by (try dsimp only); omega⟩ hS (fun x h => Or.inl (Or.inr h)) htab rfl ⟨by decide, by decide⟩ (by decide) k696 (nw_at (args := args) fx.2 hz.2.2.2.2.2.2.2.2.1 (by decide +kernel)) (by show ∀ q ∈ ([] : List (Nat × Nat × Nat × Nat)), _; exact fun q h => absurd h List.not_mem_nil) (fun q2 H1 locs hszH1 hkH1 hS => ?_)
  have hcwH1 := hcw.kept (fun i hi => hkH1 _ (hcw.lt i hi))
  have hoH1 := ho.kept (hkH1 _ ho.lt)
  refine lv_astore (lv' := [(5, .ref q2), (0, .ref (u 0)), (1, .int (iI a)), (2, .int (iI b)), (3, .int (iI c)), (4, .ref o)]) hx hb dL_until_16 hl (by decide) rfl (fun ls hl => ?_)
  refine q_con hx hb dL_until_18 ?_
  exact e_i hx hb hr hlk hS dL_until_19 (by first | exact Nat.le_of_ble_eq_true rfl | ((try dsimp only); omega)) (by first | exact Nat.le_of_ble_eq_true rfl | ((try dsimp only); omega)) ⟨rfl, hcwH1, hoH1⟩

set_option maxHeartbeats 4000000 in
set_option maxRecDepth 100000 in
theorem wn2_until (θ : TH) (l : Launch) (hl0 : l.stackTraces = false) (S0 : State) (H : Heap) (u : Nat → Nat) (dt sy sm sd : Nat → Int) (bc rf kn : Int) (hw : CWR θ S0 u H dt sy sm sd bc rf kn) (hj : SJ θ S0 H) (hn : NX S0) (o : Nat) (nv : Int) (sv9 : Value) (ho : OB θ H o 8 [.long (lL nv), sv9]) (hod : ∀ i : Nat, i < 7 → o ≠ u i) (a b c : Int) (h_0 : -2147483648 ≤ a ∧ a < 2147483648) (h_1 : -2147483648 ≤ b ∧ b < 2147483648) (h_2 : -2147483648 ≤ c ∧ c < 2147483648) (h_3 : 0 ≤ a ∧ a < 3) (h_4 : ¬ (0 ≤ b ∧ b < 6)) : CTW l yL_until cL_until 6 (some .int) [((0 : Nat), (13 : Nat), (16 : Nat), (19 : Nat)), ((0 : Nat), (13 : Nat), (20 : Nat), (23 : Nat))] 8 134 1 6 [.ref (u 0), .int (iI a), .int (iI b), .int (iI c), .ref o] S0 H (fun v9 H1 => v9 = some (.int (iI 1)) ∧ CW θ u H1 dt sy sm sd bc rf kn ∧ OB θ H1 o 8 [.long (lL nv), sv9]) (fun x : Nat => UA u H.size x ∨ x = o) := by
  refine ctw_of (by decide +kernel) (Nat.le_of_ble_eq_true rfl) ?_
  intro pg en s mi args below meth co ls fx hs hr hlk htab hl
  subst hs
  obtain ⟨hx, hb, hml, hown, hts⟩ := id fx.1
  have hS : va_S (fun x : Nat => UA u s.heap.size x ∨ x = o) s.heap s.heap [] := va_S.rf
  obtain ⟨hz, hu, hcw, hd, hsp⟩ := id hw
  have hK := sz_K fx.2 hz
  refine lv_aload hx hb dL_until_0 (lv_at hl 4 rfl) ?_
  refine lv_aload_n hx hb dL_until_2 rfl (lv_at hl 0 rfl) ?_
  refine lv_iload_n hx hb dL_until_3 rfl (lv_at hl 1 rfl) ?_
  refine lv_iload_n hx hb dL_until_4 rfl (lv_at hl 2 rfl) ?_
  refine lv_iload_n hx hb dL_until_5 rfl (lv_at hl 3 rfl) ?_
  refine c_VT (As := [.int (iI a), .int (iI b), .int (iI c)]) (rest := [.ref o]) (b := u 0) (C := RX1) (E := "java/lang/IndexOutOfBoundsException") (name := "java/lang/IndexOutOfBoundsException") (k := 0) (a0 := 0) (a1 := 13) (hpc := 16) (ct := 19) fx hl (no2_until θ l hl0 S0 _ u _ _ _ _ _ _ _ hw a b c h_0 h_1 h_2 h_3 h_4) (ob_recv hK hcw.1 rfl) dL_until_6 k839 k840 k841 k1 k842 hd_X1_until rfl ⟨by decide, by decide⟩ (Nat.le_of_ble_eq_true rfl) ⟨by (try dsimp only); omega, by (try dsimp only); omega⟩ hS (fun x h => Or.inl (Or.inr h)) htab rfl ⟨by decide, by decide⟩ (by decide) k696 (nw_at (args := args) fx.2 hz.2.2.2.2.2.2.2.2.1 (by decide +kernel)) (by show ∀ q ∈ ([] : List (Nat × Nat × Nat × Nat)), _; exact fun q h => absurd h List.not_mem_nil) (fun q2 H1 locs hszH1 hkH1 hS => ?_)
  have hcwH1 := hcw.kept (fun i hi => hkH1 _ (hcw.lt i hi))
  have hoH1 := ho.kept (hkH1 _ ho.lt)
  refine lv_astore (lv' := [(5, .ref q2), (0, .ref (u 0)), (1, .int (iI a)), (2, .int (iI b)), (3, .int (iI c)), (4, .ref o)]) hx hb dL_until_16 hl (by decide) rfl (fun ls hl => ?_)
  refine q_con hx hb dL_until_18 ?_
  exact e_i hx hb hr hlk hS dL_until_19 (by first | exact Nat.le_of_ble_eq_true rfl | ((try dsimp only); omega)) (by first | exact Nat.le_of_ble_eq_true rfl | ((try dsimp only); omega)) ⟨rfl, hcwH1, hoH1⟩

set_option maxHeartbeats 4000000 in
set_option maxRecDepth 100000 in
theorem wn3_until (θ : TH) (l : Launch) (hl0 : l.stackTraces = false) (S0 : State) (H : Heap) (u : Nat → Nat) (dt sy sm sd : Nat → Int) (bc rf kn : Int) (hw : CWR θ S0 u H dt sy sm sd bc rf kn) (hj : SJ θ S0 H) (hn : NX S0) (o : Nat) (nv : Int) (sv9 : Value) (ho : OB θ H o 8 [.long (lL nv), sv9]) (hod : ∀ i : Nat, i < 7 → o ≠ u i) (a b c : Int) (h_0 : -2147483648 ≤ a ∧ a < 2147483648) (h_1 : -2147483648 ≤ b ∧ b < 2147483648) (h_2 : -2147483648 ≤ c ∧ c < 2147483648) (h_3 : 0 ≤ a ∧ a < 3) (h_4 : 0 ≤ b ∧ b < 6) (h_5 : ¬ (0 ≤ c ∧ c < 6)) : CTW l yL_until cL_until 6 (some .int) [((0 : Nat), (13 : Nat), (16 : Nat), (19 : Nat)), ((0 : Nat), (13 : Nat), (20 : Nat), (23 : Nat))] 8 134 1 6 [.ref (u 0), .int (iI a), .int (iI b), .int (iI c), .ref o] S0 H (fun v9 H1 => v9 = some (.int (iI 1)) ∧ CW θ u H1 dt sy sm sd bc rf kn ∧ OB θ H1 o 8 [.long (lL nv), sv9]) (fun x : Nat => UA u H.size x ∨ x = o) := by
  refine ctw_of (by decide +kernel) (Nat.le_of_ble_eq_true rfl) ?_
  intro pg en s mi args below meth co ls fx hs hr hlk htab hl
  subst hs
  obtain ⟨hx, hb, hml, hown, hts⟩ := id fx.1
  have hS : va_S (fun x : Nat => UA u s.heap.size x ∨ x = o) s.heap s.heap [] := va_S.rf
  obtain ⟨hz, hu, hcw, hd, hsp⟩ := id hw
  have hK := sz_K fx.2 hz
  refine lv_aload hx hb dL_until_0 (lv_at hl 4 rfl) ?_
  refine lv_aload_n hx hb dL_until_2 rfl (lv_at hl 0 rfl) ?_
  refine lv_iload_n hx hb dL_until_3 rfl (lv_at hl 1 rfl) ?_
  refine lv_iload_n hx hb dL_until_4 rfl (lv_at hl 2 rfl) ?_
  refine lv_iload_n hx hb dL_until_5 rfl (lv_at hl 3 rfl) ?_
  refine c_VT (As := [.int (iI a), .int (iI b), .int (iI c)]) (rest := [.ref o]) (b := u 0) (C := RX1) (E := "java/lang/IndexOutOfBoundsException") (name := "java/lang/IndexOutOfBoundsException") (k := 0) (a0 := 0) (a1 := 13) (hpc := 16) (ct := 19) fx hl (no3_until θ l hl0 S0 _ u _ _ _ _ _ _ _ hw a b c h_0 h_1 h_2 h_3 h_4 h_5) (ob_recv hK hcw.1 rfl) dL_until_6 k839 k840 k841 k1 k842 hd_X1_until rfl ⟨by decide, by decide⟩ (Nat.le_of_ble_eq_true rfl) ⟨by (try dsimp only); omega, by (try dsimp only); omega⟩ hS (fun x h => Or.inl (Or.inr h)) htab rfl ⟨by decide, by decide⟩ (by decide) k696 (nw_at (args := args) fx.2 hz.2.2.2.2.2.2.2.2.1 (by decide +kernel)) (by show ∀ q ∈ ([] : List (Nat × Nat × Nat × Nat)), _; exact fun q h => absurd h List.not_mem_nil) (fun q2 H1 locs hszH1 hkH1 hS => ?_)
  have hcwH1 := hcw.kept (fun i hi => hkH1 _ (hcw.lt i hi))
  have hoH1 := ho.kept (hkH1 _ ho.lt)
  refine lv_astore (lv' := [(5, .ref q2), (0, .ref (u 0)), (1, .int (iI a)), (2, .int (iI b)), (3, .int (iI c)), (4, .ref o)]) hx hb dL_until_16 hl (by decide) rfl (fun ls hl => ?_)
  refine q_con hx hb dL_until_18 ?_
  exact e_i hx hb hr hlk hS dL_until_19 (by first | exact Nat.le_of_ble_eq_true rfl | ((try dsimp only); omega)) (by first | exact Nat.le_of_ble_eq_true rfl | ((try dsimp only); omega)) ⟨rfl, hcwH1, hoH1⟩

set_option maxHeartbeats 4000000 in
set_option maxRecDepth 100000 in
theorem wn4_until (θ : TH) (l : Launch) (hl0 : l.stackTraces = false) (S0 : State) (H : Heap) (u : Nat → Nat) (dt sy sm sd : Nat → Int) (bc rf kn : Int) (hw : CWR θ S0 u H dt sy sm sd bc rf kn) (hj : SJ θ S0 H) (hn : NX S0) (o : Nat) (nv : Int) (sv9 : Value) (ho : OB θ H o 8 [.long (lL nv), sv9]) (hod : ∀ i : Nat, i < 7 → o ≠ u i) (a b c : Int) (h_0 : -2147483648 ≤ a ∧ a < 2147483648) (h_1 : -2147483648 ≤ b ∧ b < 2147483648) (h_2 : -2147483648 ≤ c ∧ c < 2147483648) (h_3 : 0 ≤ a ∧ a < 3) (h_4 : 0 ≤ b ∧ b < 6) (h_5 : 0 ≤ c ∧ c < 6) (h_6 : ¬ (dt b.toNat ≤ dt c.toNat)) : CTW l yL_until cL_until 6 (some .int) [((0 : Nat), (13 : Nat), (16 : Nat), (19 : Nat)), ((0 : Nat), (13 : Nat), (20 : Nat), (23 : Nat))] 8 135 1 6 [.ref (u 0), .int (iI a), .int (iI b), .int (iI c), .ref o] S0 H (fun v9 H1 => v9 = some (.int (iI 2)) ∧ CW θ u H1 dt sy sm sd bc rf kn ∧ OB θ H1 o 8 [.long (lL nv), sv9]) (fun x : Nat => UA u H.size x ∨ x = o) := by
  refine ctw_of (by decide +kernel) (Nat.le_of_ble_eq_true rfl) ?_
  intro pg en s mi args below meth co ls fx hs hr hlk htab hl
  subst hs
  obtain ⟨hx, hb, hml, hown, hts⟩ := id fx.1
  have hS : va_S (fun x : Nat => UA u s.heap.size x ∨ x = o) s.heap s.heap [] := va_S.rf
  obtain ⟨hz, hu, hcw, hd, hsp⟩ := id hw
  have hK := sz_K fx.2 hz
  refine lv_aload hx hb dL_until_0 (lv_at hl 4 rfl) ?_
  refine lv_aload_n hx hb dL_until_2 rfl (lv_at hl 0 rfl) ?_
  refine lv_iload_n hx hb dL_until_3 rfl (lv_at hl 1 rfl) ?_
  refine lv_iload_n hx hb dL_until_4 rfl (lv_at hl 2 rfl) ?_
  refine lv_iload_n hx hb dL_until_5 rfl (lv_at hl 3 rfl) ?_
  refine c_VT (As := [.int (iI a), .int (iI b), .int (iI c)]) (rest := [.ref o]) (b := u 0) (C := RX1) (E := "java/lang/IllegalStateException") (name := "java/lang/IllegalStateException") (k := 1) (a0 := 0) (a1 := 13) (hpc := 20) (ct := 23) fx hl (no4_until θ l hl0 S0 _ u _ _ _ _ _ _ _ hw a b c h_0 h_1 h_2 h_3 h_4 h_5 h_6) (ob_recv hK hcw.1 rfl) dL_until_6 k839 k840 k841 k1 k842 hd_X1_until rfl ⟨by decide, by decide⟩ (Nat.le_of_ble_eq_true rfl) ⟨by (try dsimp only); omega, by (try dsimp only); omega⟩ hS (fun x h => Or.inl (Or.inr h)) htab rfl ⟨by decide, by decide⟩ (by decide) k698 (nw_at (args := args) fx.2 hz.2.2.2.2.2.2.2.2.1 (by decide +kernel)) (by show ∀ q ∈ ([(0, 13, 16, 19)] : List (Nat × Nat × Nat × Nat)), _; exact List.forall_mem_cons.mpr ⟨⟨by decide, _, k696, hn.1.2.1⟩, fun q h => absurd h List.not_mem_nil⟩) (fun q2 H1 locs hszH1 hkH1 hS => ?_)
  have hcwH1 := hcw.kept (fun i hi => hkH1 _ (hcw.lt i hi))
  have hoH1 := ho.kept (hkH1 _ ho.lt)
  refine lv_astore (lv' := [(5, .ref q2), (0, .ref (u 0)), (1, .int (iI a)), (2, .int (iI b)), (3, .int (iI c)), (4, .ref o)]) hx hb dL_until_20 hl (by decide) rfl (fun ls hl => ?_)
  refine q_con hx hb dL_until_22 ?_
  exact e_i hx hb hr hlk hS dL_until_23 (by first | exact Nat.le_of_ble_eq_true rfl | ((try dsimp only); omega)) (by first | exact Nat.le_of_ble_eq_true rfl | ((try dsimp only); omega)) ⟨rfl, hcwH1, hoH1⟩

set_option maxHeartbeats 4000000 in
set_option maxRecDepth 100000 in
theorem wr_addSpan (θ : TH) (l : Launch) (hl0 : l.stackTraces = false) (S0 : State) (H : Heap) (u : Nat → Nat) (dt sy sm sd : Nat → Int) (bc rf kn : Int) (hw : CWR θ S0 u H dt sy sm sd bc rf kn) (hj : SJ θ S0 H) (hn : NX S0) (o : Nat) (nv : Int) (sv9 : Value) (ho : OB θ H o 8 [.long (lL nv), sv9]) (hod : ∀ i : Nat, i < 7 → o ≠ u i) (a b : Int) (h_0 : -2147483648 ≤ a ∧ a < 2147483648) (h_1 : -2147483648 ≤ b ∧ b < 2147483648) (h_2 : 0 ≤ a ∧ a < 3) (h_3 : 0 ≤ b ∧ b < 3) (h_4 : -20000 ≤ sy a.toNat + sy b.toNat ∧ sy a.toNat + sy b.toNat ≤ 20000) (h_5 : -240000 ≤ sm a.toNat + sm b.toNat ∧ sm a.toNat + sm b.toNat ≤ 240000) (h_6 : -100000 ≤ sd a.toNat + sd b.toNat ∧ sd a.toNat + sd b.toNat ≤ 100000) : CTW l yL_addSpan cL_addSpan 5 (some .int) [((0 : Nat), (11 : Nat), (14 : Nat), (19 : Nat)), ((0 : Nat), (11 : Nat), (18 : Nat), (23 : Nat))] 2 49 0 0 [.ref (u 0), .int (iI a), .int (iI b), .ref o] S0 H (fun v9 H1 => v9 = some (.int (iI 0)) ∧ CW θ u H1 dt (up sy a.toNat (sy a.toNat + sy b.toNat)) (up sm a.toNat (sm a.toNat + sm b.toNat)) (up sd a.toNat (sd a.toNat + sd b.toNat)) (bc + 1) rf kn ∧ OB θ H1 o 8 [.long (lL (iI (sd a.toNat + sd b.toNat)).toInt), sv9]) (fun x : Nat => UA u H.size x ∨ x = o) := by
  refine ctw_of (by decide +kernel) (Nat.le_of_ble_eq_true rfl) ?_
  intro pg en s mi args below meth co ls fx hs hr hlk htab hl
  subst hs
  obtain ⟨hx, hb, hml, hown, hts⟩ := id fx.1
  have hS : va_S (fun x : Nat => UA u s.heap.size x ∨ x = o) s.heap s.heap [] := va_S.rf
  obtain ⟨hz, hu, hcw, hd, hsp⟩ := id hw
  have hK := sz_K fx.2 hz
  refine lv_aload_n hx hb dL_addSpan_0 rfl (lv_at hl 3 rfl) ?_
  refine lv_aload_n hx hb dL_addSpan_1 rfl (lv_at hl 0 rfl) ?_
  refine lv_iload_n hx hb dL_addSpan_2 rfl (lv_at hl 1 rfl) ?_
  refine lv_iload_n hx hb dL_addSpan_3 rfl (lv_at hl 2 rfl) ?_
  refine c_Vr (As := [.int (iI a), .int (iI b)]) (rest := [.ref o]) (b := u 0) (C := RX1) (r := some (.int (iI (sd a.toNat + sd b.toNat)))) (st1 := [.int (iI (sd a.toNat + sd b.toNat)), .ref o]) fx hl (ok_addSpan θ l hl0 S0 _ u _ _ _ _ _ _ _ hw a b h_0 h_1 h_2 h_3 h_4 h_5 h_6) (ob_recv hK hcw.1 rfl) dL_addSpan_4 k850 k851 k852 k1 k853 hd_X1_addSpan rfl rfl ⟨by decide, by decide⟩ (Nat.le_of_ble_eq_true rfl) ⟨by (try dsimp only); omega, by (try dsimp only); omega⟩ hS (fun x h => Or.inl h) (fun H1 locs hpH1 hszH1 hk0H1 hS => ?_)
  have hoH1 := ho.kept (hk0H1 _ ho.lt (fun h => h.elim (fun ⟨i, hi, e⟩ => hod i hi e) (fun h => Nat.not_le.mpr ho.lt h)))
  have hcwH1 := hpH1
  refine q_i2lx hx hb dL_addSpan_7 ?_
  refine r_putN (θ := θ) (C := RX2) (T := TX2) (N := 2) (ci := 8) (v := .long (lL ((iI (sd a.toNat + sd b.toNat)).toInt))) (ty := .long) hx hb hts gwX2 tyX2 tyX2_ok nmX2 hown hK hoH1 (Or.inr rfl) hS rfl 0 (by decide) (va_Nw.use rfl (va_Nw.warmF fx.2 hn.2.1)) (fun _ h => h) rfl (by decide +kernel) rfl rfl (Nat.le_of_ble_eq_true rfl) dL_addSpan_8 (fun H2 locs hqH2 hszH2 hkH2 hS => ?_)
  have hoH2 : OB θ H2 o 8 [.long (lL ((iI (sd a.toNat + sd b.toNat)).toInt)), sv9] := hqH2
  have hcwH2 := hcwH1.kept (fun i hi => hkH2 _ (Ne.symm (hod i hi)))
  refine lv_goto (tgt := 22) hx hb dL_addSpan_11 (by decide) ?_
  refine q_con hx hb dL_addSpan_22 ?_
  exact e_i hx hb hr hlk hS dL_addSpan_23 (by first | exact Nat.le_of_ble_eq_true rfl | ((try dsimp only); omega)) (by first | exact Nat.le_of_ble_eq_true rfl | ((try dsimp only); omega)) ⟨rfl, hcwH2, hoH2⟩

set_option maxHeartbeats 4000000 in
set_option maxRecDepth 100000 in
theorem wn1_addSpan (θ : TH) (l : Launch) (hl0 : l.stackTraces = false) (S0 : State) (H : Heap) (u : Nat → Nat) (dt sy sm sd : Nat → Int) (bc rf kn : Int) (hw : CWR θ S0 u H dt sy sm sd bc rf kn) (hj : SJ θ S0 H) (hn : NX S0) (o : Nat) (nv : Int) (sv9 : Value) (ho : OB θ H o 8 [.long (lL nv), sv9]) (hod : ∀ i : Nat, i < 7 → o ≠ u i) (a b : Int) (h_0 : -2147483648 ≤ a ∧ a < 2147483648) (h_1 : -2147483648 ≤ b ∧ b < 2147483648) (h_2 : ¬ (0 ≤ a ∧ a < 3)) : CTW l yL_addSpan cL_addSpan 5 (some .int) [((0 : Nat), (11 : Nat), (14 : Nat), (19 : Nat)), ((0 : Nat), (11 : Nat), (18 : Nat), (23 : Nat))] 8 135 1 6 [.ref (u 0), .int (iI a), .int (iI b), .ref o] S0 H (fun v9 H1 => v9 = some (.int (iI 1)) ∧ CW θ u H1 dt sy sm sd bc rf kn ∧ OB θ H1 o 8 [.long (lL nv), sv9]) (fun x : Nat => UA u H.size x ∨ x = o) := by
  refine ctw_of (by decide +kernel) (Nat.le_of_ble_eq_true rfl) ?_
  intro pg en s mi args below meth co ls fx hs hr hlk htab hl
  subst hs
  obtain ⟨hx, hb, hml, hown, hts⟩ := id fx.1
  have hS : va_S (fun x : Nat => UA u s.heap.size x ∨ x = o) s.heap s.heap [] := va_S.rf
  obtain ⟨hz, hu, hcw, hd, hsp⟩ := id hw
  have hK := sz_K fx.2 hz
  refine lv_aload_n hx hb dL_addSpan_0 rfl (lv_at hl 3 rfl) ?_
  refine lv_aload_n hx hb dL_addSpan_1 rfl (lv_at hl 0 rfl) ?_
  refine lv_iload_n hx hb dL_addSpan_2 rfl (lv_at hl 1 rfl) ?_
  refine lv_iload_n hx hb dL_addSpan_3 rfl (lv_at hl 2 rfl) ?_
  refine c_VT (As := [.int (iI a), .int (iI b)]) (rest := [.ref o]) (b := u 0) (C := RX1) (E := "java/lang/IndexOutOfBoundsException") (name := "java/lang/IndexOutOfBoundsException") (k := 0) (a0 := 0) (a1 := 11) (hpc := 14) (ct := 19) fx hl (no1_addSpan θ l hl0 S0 _ u _ _ _ _ _ _ _ hw a b h_0 h_1 h_2) (ob_recv hK hcw.1 rfl) dL_addSpan_4 k850 k851 k852 k1 k853 hd_X1_addSpan rfl ⟨by decide, by decide⟩ (Nat.le_of_ble_eq_true rfl) ⟨by (try dsimp only); omega, by (try dsimp only); omega⟩ hS (fun x h => Or.inl (Or.inr h)) htab rfl ⟨by decide, by decide⟩ (by decide) k696 (nw_at (args := args) fx.2 hz.2.2.2.2.2.2.2.2.1 (by decide +kernel)) (by show ∀ q ∈ ([] : List (Nat × Nat × Nat × Nat)), _; exact fun q h => absurd h List.not_mem_nil) (fun q2 H1 locs hszH1 hkH1 hS => ?_)
  have hcwH1 := hcw.kept (fun i hi => hkH1 _ (hcw.lt i hi))
  have hoH1 := ho.kept (hkH1 _ ho.lt)
  refine lv_astore (lv' := [(4, .ref q2), (0, .ref (u 0)), (1, .int (iI a)), (2, .int (iI b)), (3, .ref o)]) hx hb dL_addSpan_14 hl (by decide) rfl (fun ls hl => ?_)
  refine q_con hx hb dL_addSpan_16 ?_
  exact e_i hx hb hr hlk hS dL_addSpan_17 (by first | exact Nat.le_of_ble_eq_true rfl | ((try dsimp only); omega)) (by first | exact Nat.le_of_ble_eq_true rfl | ((try dsimp only); omega)) ⟨rfl, hcwH1, hoH1⟩

set_option maxHeartbeats 4000000 in
set_option maxRecDepth 100000 in
theorem wn2_addSpan (θ : TH) (l : Launch) (hl0 : l.stackTraces = false) (S0 : State) (H : Heap) (u : Nat → Nat) (dt sy sm sd : Nat → Int) (bc rf kn : Int) (hw : CWR θ S0 u H dt sy sm sd bc rf kn) (hj : SJ θ S0 H) (hn : NX S0) (o : Nat) (nv : Int) (sv9 : Value) (ho : OB θ H o 8 [.long (lL nv), sv9]) (hod : ∀ i : Nat, i < 7 → o ≠ u i) (a b : Int) (h_0 : -2147483648 ≤ a ∧ a < 2147483648) (h_1 : -2147483648 ≤ b ∧ b < 2147483648) (h_2 : 0 ≤ a ∧ a < 3) (h_3 : ¬ (0 ≤ b ∧ b < 3)) : CTW l yL_addSpan cL_addSpan 5 (some .int) [((0 : Nat), (11 : Nat), (14 : Nat), (19 : Nat)), ((0 : Nat), (11 : Nat), (18 : Nat), (23 : Nat))] 8 135 1 6 [.ref (u 0), .int (iI a), .int (iI b), .ref o] S0 H (fun v9 H1 => v9 = some (.int (iI 1)) ∧ CW θ u H1 dt sy sm sd bc rf kn ∧ OB θ H1 o 8 [.long (lL nv), sv9]) (fun x : Nat => UA u H.size x ∨ x = o) := by
  refine ctw_of (by decide +kernel) (Nat.le_of_ble_eq_true rfl) ?_
  intro pg en s mi args below meth co ls fx hs hr hlk htab hl
  subst hs
  obtain ⟨hx, hb, hml, hown, hts⟩ := id fx.1
  have hS : va_S (fun x : Nat => UA u s.heap.size x ∨ x = o) s.heap s.heap [] := va_S.rf
  obtain ⟨hz, hu, hcw, hd, hsp⟩ := id hw
  have hK := sz_K fx.2 hz
  refine lv_aload_n hx hb dL_addSpan_0 rfl (lv_at hl 3 rfl) ?_
  refine lv_aload_n hx hb dL_addSpan_1 rfl (lv_at hl 0 rfl) ?_
  refine lv_iload_n hx hb dL_addSpan_2 rfl (lv_at hl 1 rfl) ?_
  refine lv_iload_n hx hb dL_addSpan_3 rfl (lv_at hl 2 rfl) ?_
  refine c_VT (As := [.int (iI a), .int (iI b)]) (rest := [.ref o]) (b := u 0) (C := RX1) (E := "java/lang/IndexOutOfBoundsException") (name := "java/lang/IndexOutOfBoundsException") (k := 0) (a0 := 0) (a1 := 11) (hpc := 14) (ct := 19) fx hl (no2_addSpan θ l hl0 S0 _ u _ _ _ _ _ _ _ hw a b h_0 h_1 h_2 h_3) (ob_recv hK hcw.1 rfl) dL_addSpan_4 k850 k851 k852 k1 k853 hd_X1_addSpan rfl ⟨by decide, by decide⟩ (Nat.le_of_ble_eq_true rfl) ⟨by (try dsimp only); omega, by (try dsimp only); omega⟩ hS (fun x h => Or.inl (Or.inr h)) htab rfl ⟨by decide, by decide⟩ (by decide) k696 (nw_at (args := args) fx.2 hz.2.2.2.2.2.2.2.2.1 (by decide +kernel)) (by show ∀ q ∈ ([] : List (Nat × Nat × Nat × Nat)), _; exact fun q h => absurd h List.not_mem_nil) (fun q2 H1 locs hszH1 hkH1 hS => ?_)
  have hcwH1 := hcw.kept (fun i hi => hkH1 _ (hcw.lt i hi))
  have hoH1 := ho.kept (hkH1 _ ho.lt)
  refine lv_astore (lv' := [(4, .ref q2), (0, .ref (u 0)), (1, .int (iI a)), (2, .int (iI b)), (3, .ref o)]) hx hb dL_addSpan_14 hl (by decide) rfl (fun ls hl => ?_)
  refine q_con hx hb dL_addSpan_16 ?_
  exact e_i hx hb hr hlk hS dL_addSpan_17 (by first | exact Nat.le_of_ble_eq_true rfl | ((try dsimp only); omega)) (by first | exact Nat.le_of_ble_eq_true rfl | ((try dsimp only); omega)) ⟨rfl, hcwH1, hoH1⟩

set_option maxHeartbeats 4000000 in
set_option maxRecDepth 100000 in
theorem wn3_addSpan (θ : TH) (l : Launch) (hl0 : l.stackTraces = false) (S0 : State) (H : Heap) (u : Nat → Nat) (dt sy sm sd : Nat → Int) (bc rf kn : Int) (hw : CWR θ S0 u H dt sy sm sd bc rf kn) (hj : SJ θ S0 H) (hn : NX S0) (o : Nat) (nv : Int) (sv9 : Value) (ho : OB θ H o 8 [.long (lL nv), sv9]) (hod : ∀ i : Nat, i < 7 → o ≠ u i) (a b : Int) (h_0 : -2147483648 ≤ a ∧ a < 2147483648) (h_1 : -2147483648 ≤ b ∧ b < 2147483648) (h_2 : 0 ≤ a ∧ a < 3) (h_3 : 0 ≤ b ∧ b < 3) (h_4 : ¬ (-20000 ≤ sy a.toNat + sy b.toNat ∧ sy a.toNat + sy b.toNat ≤ 20000)) : CTW l yL_addSpan cL_addSpan 5 (some .int) [((0 : Nat), (11 : Nat), (14 : Nat), (19 : Nat)), ((0 : Nat), (11 : Nat), (18 : Nat), (23 : Nat))] 8 136 1 6 [.ref (u 0), .int (iI a), .int (iI b), .ref o] S0 H (fun v9 H1 => v9 = some (.int (iI 2)) ∧ CW θ u H1 dt sy sm sd bc rf kn ∧ OB θ H1 o 8 [.long (lL nv), sv9]) (fun x : Nat => UA u H.size x ∨ x = o) := by
  refine ctw_of (by decide +kernel) (Nat.le_of_ble_eq_true rfl) ?_
  intro pg en s mi args below meth co ls fx hs hr hlk htab hl
  subst hs
  obtain ⟨hx, hb, hml, hown, hts⟩ := id fx.1
  have hS : va_S (fun x : Nat => UA u s.heap.size x ∨ x = o) s.heap s.heap [] := va_S.rf
  obtain ⟨hz, hu, hcw, hd, hsp⟩ := id hw
  have hK := sz_K fx.2 hz
  refine lv_aload_n hx hb dL_addSpan_0 rfl (lv_at hl 3 rfl) ?_
  refine lv_aload_n hx hb dL_addSpan_1 rfl (lv_at hl 0 rfl) ?_
  refine lv_iload_n hx hb dL_addSpan_2 rfl (lv_at hl 1 rfl) ?_
  refine lv_iload_n hx hb dL_addSpan_3 rfl (lv_at hl 2 rfl) ?_
  refine c_VT (As := [.int (iI a), .int (iI b)]) (rest := [.ref o]) (b := u 0) (C := RX1) (E := "java/lang/IllegalStateException") (name := "java/lang/IllegalStateException") (k := 1) (a0 := 0) (a1 := 11) (hpc := 18) (ct := 23) fx hl (no3_addSpan θ l hl0 S0 _ u _ _ _ _ _ _ _ hw a b h_0 h_1 h_2 h_3 h_4) (ob_recv hK hcw.1 rfl) dL_addSpan_4 k850 k851 k852 k1 k853 hd_X1_addSpan rfl ⟨by decide, by decide⟩ (Nat.le_of_ble_eq_true rfl) ⟨by (try dsimp only); omega, by (try dsimp only); omega⟩ hS (fun x h => Or.inl (Or.inr h)) htab rfl ⟨by decide, by decide⟩ (by decide) k698 (nw_at (args := args) fx.2 hz.2.2.2.2.2.2.2.2.1 (by decide +kernel)) (by show ∀ q ∈ ([(0, 11, 14, 19)] : List (Nat × Nat × Nat × Nat)), _; exact List.forall_mem_cons.mpr ⟨⟨by decide, _, k696, hn.1.2.1⟩, fun q h => absurd h List.not_mem_nil⟩) (fun q2 H1 locs hszH1 hkH1 hS => ?_)
  have hcwH1 := hcw.kept (fun i hi => hkH1 _ (hcw.lt i hi))
  have hoH1 := ho.kept (hkH1 _ ho.lt)
  refine lv_astore (lv' := [(4, .ref q2), (0, .ref (u 0)), (1, .int (iI a)), (2, .int (iI b)), (3, .ref o)]) hx hb dL_addSpan_18 hl (by decide) rfl (fun ls hl => ?_)
  refine q_con hx hb dL_addSpan_20 ?_
  exact e_i hx hb hr hlk hS dL_addSpan_21 (by first | exact Nat.le_of_ble_eq_true rfl | ((try dsimp only); omega)) (by first | exact Nat.le_of_ble_eq_true rfl | ((try dsimp only); omega)) ⟨rfl, hcwH1, hoH1⟩

set_option maxHeartbeats 4000000 in
set_option maxRecDepth 100000 in
theorem wn4_addSpan (θ : TH) (l : Launch) (hl0 : l.stackTraces = false) (S0 : State) (H : Heap) (u : Nat → Nat) (dt sy sm sd : Nat → Int) (bc rf kn : Int) (hw : CWR θ S0 u H dt sy sm sd bc rf kn) (hj : SJ θ S0 H) (hn : NX S0) (o : Nat) (nv : Int) (sv9 : Value) (ho : OB θ H o 8 [.long (lL nv), sv9]) (hod : ∀ i : Nat, i < 7 → o ≠ u i) (a b : Int) (h_0 : -2147483648 ≤ a ∧ a < 2147483648) (h_1 : -2147483648 ≤ b ∧ b < 2147483648) (h_2 : 0 ≤ a ∧ a < 3) (h_3 : 0 ≤ b ∧ b < 3) (h_4 : -20000 ≤ sy a.toNat + sy b.toNat ∧ sy a.toNat + sy b.toNat ≤ 20000) (h_5 : ¬ (-240000 ≤ sm a.toNat + sm b.toNat ∧ sm a.toNat + sm b.toNat ≤ 240000)) : CTW l yL_addSpan cL_addSpan 5 (some .int) [((0 : Nat), (11 : Nat), (14 : Nat), (19 : Nat)), ((0 : Nat), (11 : Nat), (18 : Nat), (23 : Nat))] 8 136 1 6 [.ref (u 0), .int (iI a), .int (iI b), .ref o] S0 H (fun v9 H1 => v9 = some (.int (iI 2)) ∧ CW θ u H1 dt sy sm sd bc rf kn ∧ OB θ H1 o 8 [.long (lL nv), sv9]) (fun x : Nat => UA u H.size x ∨ x = o) := by
  refine ctw_of (by decide +kernel) (Nat.le_of_ble_eq_true rfl) ?_
  intro pg en s mi args below meth co ls fx hs hr hlk htab hl
  subst hs
  obtain ⟨hx, hb, hml, hown, hts⟩ := id fx.1
  have hS : va_S (fun x : Nat => UA u s.heap.size x ∨ x = o) s.heap s.heap [] := va_S.rf
  obtain ⟨hz, hu, hcw, hd, hsp⟩ := id hw
  have hK := sz_K fx.2 hz
  refine lv_aload_n hx hb dL_addSpan_0 rfl (lv_at hl 3 rfl) ?_
  refine lv_aload_n hx hb dL_addSpan_1 rfl (lv_at hl 0 rfl) ?_
  refine lv_iload_n hx hb dL_addSpan_2 rfl (lv_at hl 1 rfl) ?_
  refine lv_iload_n hx hb dL_addSpan_3 rfl (lv_at hl 2 rfl) ?_
  refine c_VT (As := [.int (iI a), .int (iI b)]) (rest := [.ref o]) (b := u 0) (C := RX1) (E := "java/lang/IllegalStateException") (name := "java/lang/IllegalStateException") (k := 1) (a0 := 0) (a1 := 11) (hpc := 18) (ct := 23) fx hl (no4_addSpan θ l hl0 S0 _ u _ _ _ _ _ _ _ hw a b h_0 h_1 h_2 h_3 h_4 h_5) (ob_recv hK hcw.1 rfl) dL_addSpan_4 k850 k851 k852 k1 k853 hd_X1_addSpan rfl ⟨by decide, by decide⟩ (Nat.le_of_ble_eq_true rfl) ⟨by (try dsimp only); omega, by (try dsimp only); omega⟩ hS (fun x h => Or.inl (Or.inr h)) htab rfl ⟨by decide, by decide⟩ (by decide) k698 (nw_at (args := args) fx.2 hz.2.2.2.2.2.2.2.2.1 (by decide +kernel)) (by show ∀ q ∈ ([(0, 11, 14, 19)] : List (Nat × Nat × Nat × Nat)), _; exact List.forall_mem_cons.mpr ⟨⟨by decide, _, k696, hn.1.2.1⟩, fun q h => absurd h List.not_mem_nil⟩) (fun q2 H1 locs hszH1 hkH1 hS => ?_)
  have hcwH1 := hcw.kept (fun i hi => hkH1 _ (hcw.lt i hi))
  have hoH1 := ho.kept (hkH1 _ ho.lt)
  refine lv_astore (lv' := [(4, .ref q2), (0, .ref (u 0)), (1, .int (iI a)), (2, .int (iI b)), (3, .ref o)]) hx hb dL_addSpan_18 hl (by decide) rfl (fun ls hl => ?_)
  refine q_con hx hb dL_addSpan_20 ?_
  exact e_i hx hb hr hlk hS dL_addSpan_21 (by first | exact Nat.le_of_ble_eq_true rfl | ((try dsimp only); omega)) (by first | exact Nat.le_of_ble_eq_true rfl | ((try dsimp only); omega)) ⟨rfl, hcwH1, hoH1⟩

set_option maxHeartbeats 4000000 in
set_option maxRecDepth 100000 in
theorem wn5_addSpan (θ : TH) (l : Launch) (hl0 : l.stackTraces = false) (S0 : State) (H : Heap) (u : Nat → Nat) (dt sy sm sd : Nat → Int) (bc rf kn : Int) (hw : CWR θ S0 u H dt sy sm sd bc rf kn) (hj : SJ θ S0 H) (hn : NX S0) (o : Nat) (nv : Int) (sv9 : Value) (ho : OB θ H o 8 [.long (lL nv), sv9]) (hod : ∀ i : Nat, i < 7 → o ≠ u i) (a b : Int) (h_0 : -2147483648 ≤ a ∧ a < 2147483648) (h_1 : -2147483648 ≤ b ∧ b < 2147483648) (h_2 : 0 ≤ a ∧ a < 3) (h_3 : 0 ≤ b ∧ b < 3) (h_4 : -20000 ≤ sy a.toNat + sy b.toNat ∧ sy a.toNat + sy b.toNat ≤ 20000) (h_5 : -240000 ≤ sm a.toNat + sm b.toNat ∧ sm a.toNat + sm b.toNat ≤ 240000) (h_6 : ¬ (-100000 ≤ sd a.toNat + sd b.toNat ∧ sd a.toNat + sd b.toNat ≤ 100000)) : CTW l yL_addSpan cL_addSpan 5 (some .int) [((0 : Nat), (11 : Nat), (14 : Nat), (19 : Nat)), ((0 : Nat), (11 : Nat), (18 : Nat), (23 : Nat))] 8 136 1 6 [.ref (u 0), .int (iI a), .int (iI b), .ref o] S0 H (fun v9 H1 => v9 = some (.int (iI 2)) ∧ CW θ u H1 dt sy sm sd bc rf kn ∧ OB θ H1 o 8 [.long (lL nv), sv9]) (fun x : Nat => UA u H.size x ∨ x = o) := by
  refine ctw_of (by decide +kernel) (Nat.le_of_ble_eq_true rfl) ?_
  intro pg en s mi args below meth co ls fx hs hr hlk htab hl
  subst hs
  obtain ⟨hx, hb, hml, hown, hts⟩ := id fx.1
  have hS : va_S (fun x : Nat => UA u s.heap.size x ∨ x = o) s.heap s.heap [] := va_S.rf
  obtain ⟨hz, hu, hcw, hd, hsp⟩ := id hw
  have hK := sz_K fx.2 hz
  refine lv_aload_n hx hb dL_addSpan_0 rfl (lv_at hl 3 rfl) ?_
  refine lv_aload_n hx hb dL_addSpan_1 rfl (lv_at hl 0 rfl) ?_
  refine lv_iload_n hx hb dL_addSpan_2 rfl (lv_at hl 1 rfl) ?_
  refine lv_iload_n hx hb dL_addSpan_3 rfl (lv_at hl 2 rfl) ?_
  refine c_VT (As := [.int (iI a), .int (iI b)]) (rest := [.ref o]) (b := u 0) (C := RX1) (E := "java/lang/IllegalStateException") (name := "java/lang/IllegalStateException") (k := 1) (a0 := 0) (a1 := 11) (hpc := 18) (ct := 23) fx hl (no5_addSpan θ l hl0 S0 _ u _ _ _ _ _ _ _ hw a b h_0 h_1 h_2 h_3 h_4 h_5 h_6) (ob_recv hK hcw.1 rfl) dL_addSpan_4 k850 k851 k852 k1 k853 hd_X1_addSpan rfl ⟨by decide, by decide⟩ (Nat.le_of_ble_eq_true rfl) ⟨by (try dsimp only); omega, by (try dsimp only); omega⟩ hS (fun x h => Or.inl (Or.inr h)) htab rfl ⟨by decide, by decide⟩ (by decide) k698 (nw_at (args := args) fx.2 hz.2.2.2.2.2.2.2.2.1 (by decide +kernel)) (by show ∀ q ∈ ([(0, 11, 14, 19)] : List (Nat × Nat × Nat × Nat)), _; exact List.forall_mem_cons.mpr ⟨⟨by decide, _, k696, hn.1.2.1⟩, fun q h => absurd h List.not_mem_nil⟩) (fun q2 H1 locs hszH1 hkH1 hS => ?_)
  have hcwH1 := hcw.kept (fun i hi => hkH1 _ (hcw.lt i hi))
  have hoH1 := ho.kept (hkH1 _ ho.lt)
  refine lv_astore (lv' := [(4, .ref q2), (0, .ref (u 0)), (1, .int (iI a)), (2, .int (iI b)), (3, .ref o)]) hx hb dL_addSpan_18 hl (by decide) rfl (fun ls hl => ?_)
  refine q_con hx hb dL_addSpan_20 ?_
  exact e_i hx hb hr hlk hS dL_addSpan_21 (by first | exact Nat.le_of_ble_eq_true rfl | ((try dsimp only); omega)) (by first | exact Nat.le_of_ble_eq_true rfl | ((try dsimp only); omega)) ⟨rfl, hcwH1, hoH1⟩

set_option maxHeartbeats 4000000 in
set_option maxRecDepth 100000 in
theorem wr_turnSpan (θ : TH) (l : Launch) (hl0 : l.stackTraces = false) (S0 : State) (H : Heap) (u : Nat → Nat) (dt sy sm sd : Nat → Int) (bc rf kn : Int) (hw : CWR θ S0 u H dt sy sm sd bc rf kn) (hj : SJ θ S0 H) (hn : NX S0) (o : Nat) (nv : Int) (sv9 : Value) (ho : OB θ H o 8 [.long (lL nv), sv9]) (hod : ∀ i : Nat, i < 7 → o ≠ u i) (a : Int) (h_0 : -2147483648 ≤ a ∧ a < 2147483648) (h_1 : 0 ≤ a ∧ a < 3) : CTW l yL_turnSpan cL_turnSpan 4 (some .int) [((0 : Nat), (10 : Nat), (13 : Nat), (19 : Nat))] 2 45 0 0 [.ref (u 0), .int (iI a), .ref o] S0 H (fun v9 H1 => v9 = some (.int (iI 0)) ∧ CW θ u H1 dt (up sy a.toNat (-sy a.toNat)) (up sm a.toNat (-sm a.toNat)) (up sd a.toNat (-sd a.toNat)) (bc + 1) rf kn ∧ OB θ H1 o 8 [.long (lL (iI (12 * -sy a.toNat + -sm a.toNat)).toInt), sv9]) (fun x : Nat => UA u H.size x ∨ x = o) := by
  refine ctw_of (by decide +kernel) (Nat.le_of_ble_eq_true rfl) ?_
  intro pg en s mi args below meth co ls fx hs hr hlk htab hl
  subst hs
  obtain ⟨hx, hb, hml, hown, hts⟩ := id fx.1
  have hS : va_S (fun x : Nat => UA u s.heap.size x ∨ x = o) s.heap s.heap [] := va_S.rf
  obtain ⟨hz, hu, hcw, hd, hsp⟩ := id hw
  have hK := sz_K fx.2 hz
  refine lv_aload_n hx hb dL_turnSpan_0 rfl (lv_at hl 2 rfl) ?_
  refine lv_aload_n hx hb dL_turnSpan_1 rfl (lv_at hl 0 rfl) ?_
  refine lv_iload_n hx hb dL_turnSpan_2 rfl (lv_at hl 1 rfl) ?_
  refine c_Vr (As := [.int (iI a)]) (rest := [.ref o]) (b := u 0) (C := RX1) (r := some (.int (iI (12 * -sy a.toNat + -sm a.toNat)))) (st1 := [.int (iI (12 * -sy a.toNat + -sm a.toNat)), .ref o]) fx hl (ok_turnSpan θ l hl0 S0 _ u _ _ _ _ _ _ _ hw a h_0 h_1) (ob_recv hK hcw.1 rfl) dL_turnSpan_3 k861 k862 k863 k1 k864 hd_X1_turnSpan rfl rfl ⟨by decide, by decide⟩ (Nat.le_of_ble_eq_true rfl) ⟨by (try dsimp only); omega, by (try dsimp only); omega⟩ hS (fun x h => Or.inl h) (fun H1 locs hpH1 hszH1 hk0H1 hS => ?_)
  have hoH1 := ho.kept (hk0H1 _ ho.lt (fun h => h.elim (fun ⟨i, hi, e⟩ => hod i hi e) (fun h => Nat.not_le.mpr ho.lt h)))
  have hcwH1 := hpH1
  refine q_i2lx hx hb dL_turnSpan_6 ?_
  refine r_putN (θ := θ) (C := RX2) (T := TX2) (N := 2) (ci := 8) (v := .long (lL ((iI (12 * -sy a.toNat + -sm a.toNat)).toInt))) (ty := .long) hx hb hts gwX2 tyX2 tyX2_ok nmX2 hown hK hoH1 (Or.inr rfl) hS rfl 0 (by decide) (va_Nw.use rfl (va_Nw.warmF fx.2 hn.2.1)) (fun _ h => h) rfl (by decide +kernel) rfl rfl (Nat.le_of_ble_eq_true rfl) dL_turnSpan_7 (fun H2 locs hqH2 hszH2 hkH2 hS => ?_)
  have hoH2 : OB θ H2 o 8 [.long (lL ((iI (12 * -sy a.toNat + -sm a.toNat)).toInt)), sv9] := hqH2
  have hcwH2 := hcwH1.kept (fun i hi => hkH2 _ (Ne.symm (hod i hi)))
  refine lv_goto (tgt := 16) hx hb dL_turnSpan_10 (by decide) ?_
  refine q_con hx hb dL_turnSpan_16 ?_
  exact e_i hx hb hr hlk hS dL_turnSpan_17 (by first | exact Nat.le_of_ble_eq_true rfl | ((try dsimp only); omega)) (by first | exact Nat.le_of_ble_eq_true rfl | ((try dsimp only); omega)) ⟨rfl, hcwH2, hoH2⟩

set_option maxHeartbeats 4000000 in
set_option maxRecDepth 100000 in
theorem wn1_turnSpan (θ : TH) (l : Launch) (hl0 : l.stackTraces = false) (S0 : State) (H : Heap) (u : Nat → Nat) (dt sy sm sd : Nat → Int) (bc rf kn : Int) (hw : CWR θ S0 u H dt sy sm sd bc rf kn) (hj : SJ θ S0 H) (hn : NX S0) (o : Nat) (nv : Int) (sv9 : Value) (ho : OB θ H o 8 [.long (lL nv), sv9]) (hod : ∀ i : Nat, i < 7 → o ≠ u i) (a : Int) (h_0 : -2147483648 ≤ a ∧ a < 2147483648) (h_1 : ¬ (0 ≤ a ∧ a < 3)) : CTW l yL_turnSpan cL_turnSpan 4 (some .int) [((0 : Nat), (10 : Nat), (13 : Nat), (19 : Nat))] 8 131 1 6 [.ref (u 0), .int (iI a), .ref o] S0 H (fun v9 H1 => v9 = some (.int (iI 1)) ∧ CW θ u H1 dt sy sm sd bc rf kn ∧ OB θ H1 o 8 [.long (lL nv), sv9]) (fun x : Nat => UA u H.size x ∨ x = o) := by
  refine ctw_of (by decide +kernel) (Nat.le_of_ble_eq_true rfl) ?_
  intro pg en s mi args below meth co ls fx hs hr hlk htab hl
  subst hs
  obtain ⟨hx, hb, hml, hown, hts⟩ := id fx.1
  have hS : va_S (fun x : Nat => UA u s.heap.size x ∨ x = o) s.heap s.heap [] := va_S.rf
  obtain ⟨hz, hu, hcw, hd, hsp⟩ := id hw
  have hK := sz_K fx.2 hz
  refine lv_aload_n hx hb dL_turnSpan_0 rfl (lv_at hl 2 rfl) ?_
  refine lv_aload_n hx hb dL_turnSpan_1 rfl (lv_at hl 0 rfl) ?_
  refine lv_iload_n hx hb dL_turnSpan_2 rfl (lv_at hl 1 rfl) ?_
  refine c_VT (As := [.int (iI a)]) (rest := [.ref o]) (b := u 0) (C := RX1) (E := "java/lang/IndexOutOfBoundsException") (name := "java/lang/IndexOutOfBoundsException") (k := 0) (a0 := 0) (a1 := 10) (hpc := 13) (ct := 19) fx hl (no1_turnSpan θ l hl0 S0 _ u _ _ _ _ _ _ _ hw a h_0 h_1) (ob_recv hK hcw.1 rfl) dL_turnSpan_3 k861 k862 k863 k1 k864 hd_X1_turnSpan rfl ⟨by decide, by decide⟩ (Nat.le_of_ble_eq_true rfl) ⟨by (try dsimp only); omega, by (try dsimp only); omega⟩ hS (fun x h => Or.inl (Or.inr h)) htab rfl ⟨by decide, by decide⟩ (by decide) k696 (nw_at (args := args) fx.2 hz.2.2.2.2.2.2.2.2.1 (by decide +kernel)) (by show ∀ q ∈ ([] : List (Nat × Nat × Nat × Nat)), _; exact fun q h => absurd h List.not_mem_nil) (fun q2 H1 locs hszH1 hkH1 hS => ?_)
  have hcwH1 := hcw.kept (fun i hi => hkH1 _ (hcw.lt i hi))
  have hoH1 := ho.kept (hkH1 _ ho.lt)
  refine lv_astore_n (lv' := [(3, .ref q2), (0, .ref (u 0)), (1, .int (iI a)), (2, .ref o)]) hx hb dL_turnSpan_13 rfl hl (by decide) rfl (fun ls hl => ?_)
  refine q_con hx hb dL_turnSpan_14 ?_
  exact e_i hx hb hr hlk hS dL_turnSpan_15 (by first | exact Nat.le_of_ble_eq_true rfl | ((try dsimp only); omega)) (by first | exact Nat.le_of_ble_eq_true rfl | ((try dsimp only); omega)) ⟨rfl, hcwH1, hoH1⟩

set_option maxHeartbeats 4000000 in
set_option maxRecDepth 100000 in
theorem wr_ofSpan (θ : TH) (l : Launch) (hl0 : l.stackTraces = false) (S0 : State) (H : Heap) (u : Nat → Nat) (dt sy sm sd : Nat → Int) (bc rf kn : Int) (hw : CWR θ S0 u H dt sy sm sd bc rf kn) (hj : SJ θ S0 H) (hn : NX S0) (o : Nat) (nv : Int) (sv9 : Value) (ho : OB θ H o 8 [.long (lL nv), sv9]) (hod : ∀ i : Nat, i < 7 → o ≠ u i) (s1 k : Int) (h_0 : -2147483648 ≤ s1 ∧ s1 < 2147483648) (h_1 : -2147483648 ≤ k ∧ k < 2147483648) (h_2 : 0 ≤ s1 ∧ s1 < 3) (h_3 : 0 ≤ k ∧ k ≤ 3) : CTW l yL_ofSpan cL_ofSpan 5 (some .int) [((0 : Nat), (11 : Nat), (14 : Nat), (19 : Nat)), ((0 : Nat), (11 : Nat), (18 : Nat), (21 : Nat))] 2 44 0 0 [.ref (u 0), .int (iI s1), .int (iI k), .ref o] S0 H (fun v9 H1 => v9 = some (.int (iI 0)) ∧ CW θ u H1 dt sy sm sd bc rf kn ∧ OB θ H1 o 8 [.long (lL (iI (if k = 0 then sy s1.toNat else if k = 1 then sm s1.toNat else if k = 2 then sd s1.toNat else 12 * sy s1.toNat + sm s1.toNat)).toInt), sv9]) (fun x : Nat => UA u H.size x ∨ x = o) := by
  refine ctw_of (by decide +kernel) (Nat.le_of_ble_eq_true rfl) ?_
  intro pg en s mi args below meth co ls fx hs hr hlk htab hl
  subst hs
  obtain ⟨hx, hb, hml, hown, hts⟩ := id fx.1
  have hS : va_S (fun x : Nat => UA u s.heap.size x ∨ x = o) s.heap s.heap [] := va_S.rf
  obtain ⟨hz, hu, hcw, hd, hsp⟩ := id hw
  have hK := sz_K fx.2 hz
  refine lv_aload_n hx hb dL_ofSpan_0 rfl (lv_at hl 3 rfl) ?_
  refine lv_aload_n hx hb dL_ofSpan_1 rfl (lv_at hl 0 rfl) ?_
  refine lv_iload_n hx hb dL_ofSpan_2 rfl (lv_at hl 1 rfl) ?_
  refine lv_iload_n hx hb dL_ofSpan_3 rfl (lv_at hl 2 rfl) ?_
  refine c_Vr (As := [.int (iI s1), .int (iI k)]) (rest := [.ref o]) (b := u 0) (C := RX1) (r := some (.int (iI (if k = 0 then sy s1.toNat else if k = 1 then sm s1.toNat else if k = 2 then sd s1.toNat else 12 * sy s1.toNat + sm s1.toNat)))) (st1 := [.int (iI (if k = 0 then sy s1.toNat else if k = 1 then sm s1.toNat else if k = 2 then sd s1.toNat else 12 * sy s1.toNat + sm s1.toNat)), .ref o]) fx hl (ok_ofSpan θ l hl0 S0 _ u _ _ _ _ _ _ _ hw s1 k h_0 h_1 h_2 h_3) (ob_recv hK hcw.1 rfl) dL_ofSpan_4 k868 k668 k669 k1 k670 hd_X1_ofSpan rfl rfl ⟨by decide, by decide⟩ (Nat.le_of_ble_eq_true rfl) ⟨by (try dsimp only); omega, by (try dsimp only); omega⟩ hS (fun _ h => h.elim) (fun H1 locs hpH1 hszH1 hk0H1 hS => ?_)
  obtain rfl := hpH1.symm
  refine q_i2lx hx hb dL_ofSpan_7 ?_
  refine r_putN (θ := θ) (C := RX2) (T := TX2) (N := 2) (ci := 8) (v := .long (lL ((iI (if k = 0 then sy s1.toNat else if k = 1 then sm s1.toNat else if k = 2 then sd s1.toNat else 12 * sy s1.toNat + sm s1.toNat)).toInt))) (ty := .long) hx hb hts gwX2 tyX2 tyX2_ok nmX2 hown hK ho (Or.inr rfl) hS rfl 0 (by decide) (va_Nw.use rfl (va_Nw.warmF fx.2 hn.2.1)) (fun _ h => h) rfl (by decide +kernel) rfl rfl (Nat.le_of_ble_eq_true rfl) dL_ofSpan_8 (fun H2 locs hqH2 hszH2 hkH2 hS => ?_)
  have hoH2 : OB θ H2 o 8 [.long (lL ((iI (if k = 0 then sy s1.toNat else if k = 1 then sm s1.toNat else if k = 2 then sd s1.toNat else 12 * sy s1.toNat + sm s1.toNat)).toInt)), sv9] := hqH2
  have hcwH2 := hcw.kept (fun i hi => hkH2 _ (Ne.symm (hod i hi)))
  refine lv_goto (tgt := 22) hx hb dL_ofSpan_11 (by decide) ?_
  refine q_con hx hb dL_ofSpan_22 ?_
  exact e_i hx hb hr hlk hS dL_ofSpan_23 (by first | exact Nat.le_of_ble_eq_true rfl | ((try dsimp only); omega)) (by first | exact Nat.le_of_ble_eq_true rfl | ((try dsimp only); omega)) ⟨rfl, hcwH2, hoH2⟩

set_option maxHeartbeats 4000000 in
set_option maxRecDepth 100000 in
theorem wn1_ofSpan (θ : TH) (l : Launch) (hl0 : l.stackTraces = false) (S0 : State) (H : Heap) (u : Nat → Nat) (dt sy sm sd : Nat → Int) (bc rf kn : Int) (hw : CWR θ S0 u H dt sy sm sd bc rf kn) (hj : SJ θ S0 H) (hn : NX S0) (o : Nat) (nv : Int) (sv9 : Value) (ho : OB θ H o 8 [.long (lL nv), sv9]) (hod : ∀ i : Nat, i < 7 → o ≠ u i) (s1 k : Int) (h_0 : -2147483648 ≤ s1 ∧ s1 < 2147483648) (h_1 : -2147483648 ≤ k ∧ k < 2147483648) (h_2 : ¬ (0 ≤ s1 ∧ s1 < 3)) : CTW l yL_ofSpan cL_ofSpan 5 (some .int) [((0 : Nat), (11 : Nat), (14 : Nat), (19 : Nat)), ((0 : Nat), (11 : Nat), (18 : Nat), (21 : Nat))] 8 132 1 6 [.ref (u 0), .int (iI s1), .int (iI k), .ref o] S0 H (fun v9 H1 => v9 = some (.int (iI 1)) ∧ CW θ u H1 dt sy sm sd bc rf kn ∧ OB θ H1 o 8 [.long (lL nv), sv9]) (fun x : Nat => UA u H.size x ∨ x = o) := by
  refine ctw_of (by decide +kernel) (Nat.le_of_ble_eq_true rfl) ?_
  intro pg en s mi args below meth co ls fx hs hr hlk htab hl
  subst hs
  obtain ⟨hx, hb, hml, hown, hts⟩ := id fx.1
  have hS : va_S (fun x : Nat => UA u s.heap.size x ∨ x = o) s.heap s.heap [] := va_S.rf
  obtain ⟨hz, hu, hcw, hd, hsp⟩ := id hw
  have hK := sz_K fx.2 hz
  refine lv_aload_n hx hb dL_ofSpan_0 rfl (lv_at hl 3 rfl) ?_
  refine lv_aload_n hx hb dL_ofSpan_1 rfl (lv_at hl 0 rfl) ?_
  refine lv_iload_n hx hb dL_ofSpan_2 rfl (lv_at hl 1 rfl) ?_
  refine lv_iload_n hx hb dL_ofSpan_3 rfl (lv_at hl 2 rfl) ?_
  refine c_VT (As := [.int (iI s1), .int (iI k)]) (rest := [.ref o]) (b := u 0) (C := RX1) (E := "java/lang/IndexOutOfBoundsException") (name := "java/lang/IndexOutOfBoundsException") (k := 0) (a0 := 0) (a1 := 11) (hpc := 14) (ct := 19) fx hl (no1_ofSpan θ l hl0 S0 _ u _ _ _ _ _ _ _ hw s1 k h_0 h_1 h_2) (ob_recv hK hcw.1 rfl) dL_ofSpan_4 k868 k668 k669 k1 k670 hd_X1_ofSpan rfl ⟨by decide, by decide⟩ (Nat.le_of_ble_eq_true rfl) ⟨by (try dsimp only); omega, by (try dsimp only); omega⟩ hS (fun x h => Or.inl (Or.inr h)) htab rfl ⟨by decide, by decide⟩ (by decide) k696 (nw_at (args := args) fx.2 hz.2.2.2.2.2.2.2.2.1 (by decide +kernel)) (by show ∀ q ∈ ([] : List (Nat × Nat × Nat × Nat)), _; exact fun q h => absurd h List.not_mem_nil) (fun q2 H1 locs hszH1 hkH1 hS => ?_)
  have hcwH1 := hcw.kept (fun i hi => hkH1 _ (hcw.lt i hi))
  have hoH1 := ho.kept (hkH1 _ ho.lt)
  refine lv_astore (lv' := [(4, .ref q2), (0, .ref (u 0)), (1, .int (iI s1)), (2, .int (iI k)), (3, .ref o)]) hx hb dL_ofSpan_14 hl (by decide) rfl (fun ls hl => ?_)
  refine q_con hx hb dL_ofSpan_16 ?_
  exact e_i hx hb hr hlk hS dL_ofSpan_17 (by first | exact Nat.le_of_ble_eq_true rfl | ((try dsimp only); omega)) (by first | exact Nat.le_of_ble_eq_true rfl | ((try dsimp only); omega)) ⟨rfl, hcwH1, hoH1⟩

set_option maxHeartbeats 4000000 in
set_option maxRecDepth 100000 in
theorem wn2_ofSpan (θ : TH) (l : Launch) (hl0 : l.stackTraces = false) (S0 : State) (H : Heap) (u : Nat → Nat) (dt sy sm sd : Nat → Int) (bc rf kn : Int) (hw : CWR θ S0 u H dt sy sm sd bc rf kn) (hj : SJ θ S0 H) (hn : NX S0) (o : Nat) (nv : Int) (sv9 : Value) (ho : OB θ H o 8 [.long (lL nv), sv9]) (hod : ∀ i : Nat, i < 7 → o ≠ u i) (s1 k : Int) (h_0 : -2147483648 ≤ s1 ∧ s1 < 2147483648) (h_1 : -2147483648 ≤ k ∧ k < 2147483648) (h_2 : 0 ≤ s1 ∧ s1 < 3) (h_3 : ¬ (0 ≤ k ∧ k ≤ 3)) : CTW l yL_ofSpan cL_ofSpan 5 (some .int) [((0 : Nat), (11 : Nat), (14 : Nat), (19 : Nat)), ((0 : Nat), (11 : Nat), (18 : Nat), (21 : Nat))] 8 134 1 6 [.ref (u 0), .int (iI s1), .int (iI k), .ref o] S0 H (fun v9 H1 => v9 = some (.int (iI 2)) ∧ CW θ u H1 dt sy sm sd bc rf kn ∧ OB θ H1 o 8 [.long (lL nv), sv9]) (fun x : Nat => UA u H.size x ∨ x = o) := by
  refine ctw_of (by decide +kernel) (Nat.le_of_ble_eq_true rfl) ?_
  intro pg en s mi args below meth co ls fx hs hr hlk htab hl
  subst hs
  obtain ⟨hx, hb, hml, hown, hts⟩ := id fx.1
  have hS : va_S (fun x : Nat => UA u s.heap.size x ∨ x = o) s.heap s.heap [] := va_S.rf
  obtain ⟨hz, hu, hcw, hd, hsp⟩ := id hw
  have hK := sz_K fx.2 hz
  refine lv_aload_n hx hb dL_ofSpan_0 rfl (lv_at hl 3 rfl) ?_
  refine lv_aload_n hx hb dL_ofSpan_1 rfl (lv_at hl 0 rfl) ?_
  refine lv_iload_n hx hb dL_ofSpan_2 rfl (lv_at hl 1 rfl) ?_
  refine lv_iload_n hx hb dL_ofSpan_3 rfl (lv_at hl 2 rfl) ?_
  refine c_VT (As := [.int (iI s1), .int (iI k)]) (rest := [.ref o]) (b := u 0) (C := RX1) (E := "java/lang/IllegalArgumentException") (name := "java/lang/IllegalArgumentException") (k := 1) (a0 := 0) (a1 := 11) (hpc := 18) (ct := 21) fx hl (no2_ofSpan θ l hl0 S0 _ u _ _ _ _ _ _ _ hw s1 k h_0 h_1 h_2 h_3) (ob_recv hK hcw.1 rfl) dL_ofSpan_4 k868 k668 k669 k1 k670 hd_X1_ofSpan rfl ⟨by decide, by decide⟩ (Nat.le_of_ble_eq_true rfl) ⟨by (try dsimp only); omega, by (try dsimp only); omega⟩ hS (fun x h => Or.inl (Or.inr h)) htab rfl ⟨by decide, by decide⟩ (by decide) k697 (nw_at (args := args) fx.2 hz.2.2.2.2.2.2.2.2.1 (by decide +kernel)) (by show ∀ q ∈ ([(0, 11, 14, 19)] : List (Nat × Nat × Nat × Nat)), _; exact List.forall_mem_cons.mpr ⟨⟨by decide, _, k696, hn.1.1⟩, fun q h => absurd h List.not_mem_nil⟩) (fun q2 H1 locs hszH1 hkH1 hS => ?_)
  have hcwH1 := hcw.kept (fun i hi => hkH1 _ (hcw.lt i hi))
  have hoH1 := ho.kept (hkH1 _ ho.lt)
  refine lv_astore (lv' := [(4, .ref q2), (0, .ref (u 0)), (1, .int (iI s1)), (2, .int (iI k)), (3, .ref o)]) hx hb dL_ofSpan_18 hl (by decide) rfl (fun ls hl => ?_)
  refine q_con hx hb dL_ofSpan_20 ?_
  exact e_i hx hb hr hlk hS dL_ofSpan_21 (by first | exact Nat.le_of_ble_eq_true rfl | ((try dsimp only); omega)) (by first | exact Nat.le_of_ble_eq_true rfl | ((try dsimp only); omega)) ⟨rfl, hcwH1, hoH1⟩

set_option maxHeartbeats 4000000 in
set_option maxRecDepth 100000 in
theorem wr_isKept (θ : TH) (l : Launch) (hl0 : l.stackTraces = false) (S0 : State) (H : Heap) (u : Nat → Nat) (dt sy sm sd : Nat → Int) (bc rf kn : Int) (hw : CWR θ S0 u H dt sy sm sd bc rf kn) (hj : SJ θ S0 H) (hn : NX S0) (o : Nat) (nv : Int) (sv9 : Value) (ho : OB θ H o 8 [.long (lL nv), sv9]) (hod : ∀ i : Nat, i < 7 → o ≠ u i) (a n : Int) (r : Int) (hr0 : (r = 1 ∧ (dI (dt a.toNat) - dI (shI (dt a.toNat) n) = 0)) ∨ (r = 0 ∧ ¬ (dI (dt a.toNat) - dI (shI (dt a.toNat) n) = 0))) (h_0 : -2147483648 ≤ a ∧ a < 2147483648) (h_1 : -2147483648 ≤ n ∧ n < 2147483648) (h_2 : 0 ≤ a ∧ a < 6) (h_3 : -240000 ≤ n ∧ n ≤ 240000) : CTW l yL_isKept cL_isKept 5 (some .int) [((0 : Nat), (18 : Nat), (21 : Nat), (19 : Nat)), ((0 : Nat), (18 : Nat), (25 : Nat), (21 : Nat))] 6 135 0 0 [.ref (u 0), .int (iI a), .int (iI n), .ref o] S0 H (fun v9 H1 => v9 = some (.int (iI 0)) ∧ CW θ u H1 dt sy sm sd bc rf kn ∧ OB θ H1 o 8 [.long (lL r), sv9]) (fun x : Nat => UA u H.size x ∨ x = o) := by
  refine ctw_of (by decide +kernel) (Nat.le_of_ble_eq_true rfl) ?_
  intro pg en s mi args below meth co ls fx hs hr hlk htab hl
  subst hs
  obtain ⟨hx, hb, hml, hown, hts⟩ := id fx.1
  have hS : va_S (fun x : Nat => UA u s.heap.size x ∨ x = o) s.heap s.heap [] := va_S.rf
  obtain ⟨hz, hu, hcw, hd, hsp⟩ := id hw
  have hK := sz_K fx.2 hz
  refine lv_aload_n hx hb dL_isKept_0 rfl (lv_at hl 3 rfl) ?_
  refine lv_aload_n hx hb dL_isKept_1 rfl (lv_at hl 0 rfl) ?_
  refine lv_iload_n hx hb dL_isKept_2 rfl (lv_at hl 1 rfl) ?_
  refine lv_iload_n hx hb dL_isKept_3 rfl (lv_at hl 2 rfl) ?_
  refine c_Vr (As := [.int (iI a), .int (iI n)]) (rest := [.ref o]) (b := u 0) (C := RX1) (r := some (.int (iI r))) (st1 := [.int (iI r), .ref o]) fx hl (ok_isKept θ l hl0 S0 _ u _ _ _ _ _ _ _ hw a n r hr0 h_0 h_1 h_2 h_3) (ob_recv hK hcw.1 rfl) dL_isKept_4 k872 k873 k874 k1 k875 hd_X1_isKept rfl rfl ⟨by decide, by decide⟩ (Nat.le_of_ble_eq_true rfl) ⟨by (try dsimp only); omega, by (try dsimp only); omega⟩ hS (fun _ h => h.elim) (fun H1 locs hpH1 hszH1 hk0H1 hS => ?_)
  obtain rfl := hpH1.symm
  have br : r = 0 ∨ r = 1 := hr0.elim (fun h => Or.inr h.1) (fun h => Or.inl h.1)
  refine q_ieq (tgt := 14) hx hb dL_isKept_7 (by decide) (by omega) (fun c2 => ?_) (fun c2 => ?_)
  · refine q_lcon (z := 0) hx hb (by decide) dL_isKept_14 ?_
    refine r_putN (θ := θ) (C := RX2) (T := TX2) (N := 2) (ci := 8) (v := .long (lL 0)) (ty := .long) hx hb hts gwX2 tyX2 tyX2_ok nmX2 hown hK ho (Or.inr rfl) hS rfl 0 (by decide) (va_Nw.use rfl (va_Nw.warmF fx.2 hn.2.1)) (fun _ h => h) rfl (by decide +kernel) rfl rfl (Nat.le_of_ble_eq_true rfl) dL_isKept_15 (fun H3 locs hqH3 hszH3 hkH3 hS => ?_)
    have hoH3 : OB θ H3 o 8 [.long (lL 0), sv9] := hqH3
    have hcwH3 := hcw.kept (fun i hi => hkH3 _ (Ne.symm (hod i hi)))
    refine lv_goto (tgt := 29) hx hb dL_isKept_18 (by decide) ?_
    refine q_con hx hb dL_isKept_29 ?_
    exact e_i hx hb hr hlk hS dL_isKept_30 (by first | exact Nat.le_of_ble_eq_true rfl | ((try dsimp only); omega)) (by first | exact Nat.le_of_ble_eq_true rfl | ((try dsimp only); omega)) ⟨rfl, hcwH3, (by rw [show r = 0 by omega]; exact hoH3)⟩
  · refine q_lcon (z := 1) hx hb (by decide) dL_isKept_10 ?_
    refine lv_goto (tgt := 15) hx hb dL_isKept_11 (by decide) ?_
    refine r_putN (θ := θ) (C := RX2) (T := TX2) (N := 2) (ci := 8) (v := .long (lL 1)) (ty := .long) hx hb hts gwX2 tyX2 tyX2_ok nmX2 hown hK ho (Or.inr rfl) hS rfl 0 (by decide) (va_Nw.use rfl (va_Nw.warmF fx.2 hn.2.1)) (fun _ h => h) rfl (by decide +kernel) rfl rfl (Nat.le_of_ble_eq_true rfl) dL_isKept_15 (fun H4 locs hqH4 hszH4 hkH4 hS => ?_)
    have hoH4 : OB θ H4 o 8 [.long (lL 1), sv9] := hqH4
    have hcwH4 := hcw.kept (fun i hi => hkH4 _ (Ne.symm (hod i hi)))
    refine lv_goto (tgt := 29) hx hb dL_isKept_18 (by decide) ?_
    refine q_con hx hb dL_isKept_29 ?_
    exact e_i hx hb hr hlk hS dL_isKept_30 (by first | exact Nat.le_of_ble_eq_true rfl | ((try dsimp only); omega)) (by first | exact Nat.le_of_ble_eq_true rfl | ((try dsimp only); omega)) ⟨rfl, hcwH4, (by rw [show r = 1 by omega]; exact hoH4)⟩

set_option maxHeartbeats 4000000 in
set_option maxRecDepth 100000 in
theorem wn1_isKept (θ : TH) (l : Launch) (hl0 : l.stackTraces = false) (S0 : State) (H : Heap) (u : Nat → Nat) (dt sy sm sd : Nat → Int) (bc rf kn : Int) (hw : CWR θ S0 u H dt sy sm sd bc rf kn) (hj : SJ θ S0 H) (hn : NX S0) (o : Nat) (nv : Int) (sv9 : Value) (ho : OB θ H o 8 [.long (lL nv), sv9]) (hod : ∀ i : Nat, i < 7 → o ≠ u i) (a n : Int) (h_0 : -2147483648 ≤ a ∧ a < 2147483648) (h_1 : -2147483648 ≤ n ∧ n < 2147483648) (h_2 : ¬ (0 ≤ a ∧ a < 6)) : CTW l yL_isKept cL_isKept 5 (some .int) [((0 : Nat), (18 : Nat), (21 : Nat), (19 : Nat)), ((0 : Nat), (18 : Nat), (25 : Nat), (21 : Nat))] 8 132 1 6 [.ref (u 0), .int (iI a), .int (iI n), .ref o] S0 H (fun v9 H1 => v9 = some (.int (iI 1)) ∧ CW θ u H1 dt sy sm sd bc rf kn ∧ OB θ H1 o 8 [.long (lL nv), sv9]) (fun x : Nat => UA u H.size x ∨ x = o) := by
  refine ctw_of (by decide +kernel) (Nat.le_of_ble_eq_true rfl) ?_
  intro pg en s mi args below meth co ls fx hs hr hlk htab hl
  subst hs
  obtain ⟨hx, hb, hml, hown, hts⟩ := id fx.1
  have hS : va_S (fun x : Nat => UA u s.heap.size x ∨ x = o) s.heap s.heap [] := va_S.rf
  obtain ⟨hz, hu, hcw, hd, hsp⟩ := id hw
  have hK := sz_K fx.2 hz
  refine lv_aload_n hx hb dL_isKept_0 rfl (lv_at hl 3 rfl) ?_
  refine lv_aload_n hx hb dL_isKept_1 rfl (lv_at hl 0 rfl) ?_
  refine lv_iload_n hx hb dL_isKept_2 rfl (lv_at hl 1 rfl) ?_
  refine lv_iload_n hx hb dL_isKept_3 rfl (lv_at hl 2 rfl) ?_
  refine c_VT (As := [.int (iI a), .int (iI n)]) (rest := [.ref o]) (b := u 0) (C := RX1) (E := "java/lang/IndexOutOfBoundsException") (name := "java/lang/IndexOutOfBoundsException") (k := 0) (a0 := 0) (a1 := 18) (hpc := 21) (ct := 19) fx hl (no1_isKept θ l hl0 S0 _ u _ _ _ _ _ _ _ hw a n h_0 h_1 h_2) (ob_recv hK hcw.1 rfl) dL_isKept_4 k872 k873 k874 k1 k875 hd_X1_isKept rfl ⟨by decide, by decide⟩ (Nat.le_of_ble_eq_true rfl) ⟨by (try dsimp only); omega, by (try dsimp only); omega⟩ hS (fun x h => Or.inl (Or.inr h)) htab rfl ⟨by decide, by decide⟩ (by decide) k696 (nw_at (args := args) fx.2 hz.2.2.2.2.2.2.2.2.1 (by decide +kernel)) (by show ∀ q ∈ ([] : List (Nat × Nat × Nat × Nat)), _; exact fun q h => absurd h List.not_mem_nil) (fun q2 H1 locs hszH1 hkH1 hS => ?_)
  have hcwH1 := hcw.kept (fun i hi => hkH1 _ (hcw.lt i hi))
  have hoH1 := ho.kept (hkH1 _ ho.lt)
  refine lv_astore (lv' := [(4, .ref q2), (0, .ref (u 0)), (1, .int (iI a)), (2, .int (iI n)), (3, .ref o)]) hx hb dL_isKept_21 hl (by decide) rfl (fun ls hl => ?_)
  refine q_con hx hb dL_isKept_23 ?_
  exact e_i hx hb hr hlk hS dL_isKept_24 (by first | exact Nat.le_of_ble_eq_true rfl | ((try dsimp only); omega)) (by first | exact Nat.le_of_ble_eq_true rfl | ((try dsimp only); omega)) ⟨rfl, hcwH1, hoH1⟩

set_option maxHeartbeats 4000000 in
set_option maxRecDepth 100000 in
theorem wn2_isKept (θ : TH) (l : Launch) (hl0 : l.stackTraces = false) (S0 : State) (H : Heap) (u : Nat → Nat) (dt sy sm sd : Nat → Int) (bc rf kn : Int) (hw : CWR θ S0 u H dt sy sm sd bc rf kn) (hj : SJ θ S0 H) (hn : NX S0) (o : Nat) (nv : Int) (sv9 : Value) (ho : OB θ H o 8 [.long (lL nv), sv9]) (hod : ∀ i : Nat, i < 7 → o ≠ u i) (a n : Int) (h_0 : -2147483648 ≤ a ∧ a < 2147483648) (h_1 : -2147483648 ≤ n ∧ n < 2147483648) (h_2 : 0 ≤ a ∧ a < 6) (h_3 : ¬ (-240000 ≤ n ∧ n ≤ 240000)) : CTW l yL_isKept cL_isKept 5 (some .int) [((0 : Nat), (18 : Nat), (21 : Nat), (19 : Nat)), ((0 : Nat), (18 : Nat), (25 : Nat), (21 : Nat))] 9 154 1 6 [.ref (u 0), .int (iI a), .int (iI n), .ref o] S0 H (fun v9 H1 => v9 = some (.int (iI 2)) ∧ CW θ u H1 dt sy sm sd bc rf kn ∧ OB θ H1 o 8 [.long (lL nv), sv9]) (fun x : Nat => UA u H.size x ∨ x = o) := by
  refine ctw_of (by decide +kernel) (Nat.le_of_ble_eq_true rfl) ?_
  intro pg en s mi args below meth co ls fx hs hr hlk htab hl
  subst hs
  obtain ⟨hx, hb, hml, hown, hts⟩ := id fx.1
  have hS : va_S (fun x : Nat => UA u s.heap.size x ∨ x = o) s.heap s.heap [] := va_S.rf
  obtain ⟨hz, hu, hcw, hd, hsp⟩ := id hw
  have hK := sz_K fx.2 hz
  refine lv_aload_n hx hb dL_isKept_0 rfl (lv_at hl 3 rfl) ?_
  refine lv_aload_n hx hb dL_isKept_1 rfl (lv_at hl 0 rfl) ?_
  refine lv_iload_n hx hb dL_isKept_2 rfl (lv_at hl 1 rfl) ?_
  refine lv_iload_n hx hb dL_isKept_3 rfl (lv_at hl 2 rfl) ?_
  refine c_VT (As := [.int (iI a), .int (iI n)]) (rest := [.ref o]) (b := u 0) (C := RX1) (E := "java/lang/IllegalArgumentException") (name := "java/lang/IllegalArgumentException") (k := 1) (a0 := 0) (a1 := 18) (hpc := 25) (ct := 21) fx hl (no2_isKept θ l hl0 S0 _ u _ _ _ _ _ _ _ hw a n h_0 h_1 h_2 h_3) (ob_recv hK hcw.1 rfl) dL_isKept_4 k872 k873 k874 k1 k875 hd_X1_isKept rfl ⟨by decide, by decide⟩ (Nat.le_of_ble_eq_true rfl) ⟨by (try dsimp only); omega, by (try dsimp only); omega⟩ hS (fun x h => Or.inl (Or.inr h)) htab rfl ⟨by decide, by decide⟩ (by decide) k697 (nw_at (args := args) fx.2 hz.2.2.2.2.2.2.2.2.1 (by decide +kernel)) (by show ∀ q ∈ ([(0, 18, 21, 19)] : List (Nat × Nat × Nat × Nat)), _; exact List.forall_mem_cons.mpr ⟨⟨by decide, _, k696, hn.1.1⟩, fun q h => absurd h List.not_mem_nil⟩) (fun q2 H1 locs hszH1 hkH1 hS => ?_)
  have hcwH1 := hcw.kept (fun i hi => hkH1 _ (hcw.lt i hi))
  have hoH1 := ho.kept (hkH1 _ ho.lt)
  refine lv_astore (lv' := [(4, .ref q2), (0, .ref (u 0)), (1, .int (iI a)), (2, .int (iI n)), (3, .ref o)]) hx hb dL_isKept_25 hl (by decide) rfl (fun ls hl => ?_)
  refine q_con hx hb dL_isKept_27 ?_
  exact e_i hx hb hr hlk hS dL_isKept_28 (by first | exact Nat.le_of_ble_eq_true rfl | ((try dsimp only); omega)) (by first | exact Nat.le_of_ble_eq_true rfl | ((try dsimp only); omega)) ⟨rfl, hcwH1, hoH1⟩

set_option maxHeartbeats 4000000 in
set_option maxRecDepth 100000 in
theorem wr_loss (θ : TH) (l : Launch) (hl0 : l.stackTraces = false) (S0 : State) (H : Heap) (u : Nat → Nat) (dt sy sm sd : Nat → Int) (bc rf kn : Int) (hw : CWR θ S0 u H dt sy sm sd bc rf kn) (hj : SJ θ S0 H) (hn : NX S0) (o : Nat) (nv : Int) (sv9 : Value) (ho : OB θ H o 8 [.long (lL nv), sv9]) (hod : ∀ i : Nat, i < 7 → o ≠ u i) (a n : Int) (h_0 : -2147483648 ≤ a ∧ a < 2147483648) (h_1 : -2147483648 ≤ n ∧ n < 2147483648) (h_2 : 0 ≤ a ∧ a < 6) (h_3 : -240000 ≤ n ∧ n ≤ 240000) : CTW l yL_loss cL_loss 5 (some .int) [((0 : Nat), (11 : Nat), (14 : Nat), (19 : Nat)), ((0 : Nat), (11 : Nat), (18 : Nat), (21 : Nat))] 6 135 0 0 [.ref (u 0), .int (iI a), .int (iI n), .ref o] S0 H (fun v9 H1 => v9 = some (.int (iI 0)) ∧ CW θ u H1 dt sy sm sd bc rf kn ∧ OB θ H1 o 8 [.long (lL (iI (dI (dt a.toNat) - dI (shI (dt a.toNat) n))).toInt), sv9]) (fun x : Nat => UA u H.size x ∨ x = o) := by
  refine ctw_of (by decide +kernel) (Nat.le_of_ble_eq_true rfl) ?_
  intro pg en s mi args below meth co ls fx hs hr hlk htab hl
  subst hs
  obtain ⟨hx, hb, hml, hown, hts⟩ := id fx.1
  have hS : va_S (fun x : Nat => UA u s.heap.size x ∨ x = o) s.heap s.heap [] := va_S.rf
  obtain ⟨hz, hu, hcw, hd, hsp⟩ := id hw
  have hK := sz_K fx.2 hz
  refine lv_aload_n hx hb dL_loss_0 rfl (lv_at hl 3 rfl) ?_
  refine lv_aload_n hx hb dL_loss_1 rfl (lv_at hl 0 rfl) ?_
  refine lv_iload_n hx hb dL_loss_2 rfl (lv_at hl 1 rfl) ?_
  refine lv_iload_n hx hb dL_loss_3 rfl (lv_at hl 2 rfl) ?_
  refine c_Vr (As := [.int (iI a), .int (iI n)]) (rest := [.ref o]) (b := u 0) (C := RX1) (r := some (.int (iI (dI (dt a.toNat) - dI (shI (dt a.toNat) n))))) (st1 := [.int (iI (dI (dt a.toNat) - dI (shI (dt a.toNat) n))), .ref o]) fx hl (ok_loss θ l hl0 S0 _ u _ _ _ _ _ _ _ hw a n h_0 h_1 h_2 h_3) (ob_recv hK hcw.1 rfl) dL_loss_4 k879 k637 k638 k1 k639 hd_X1_loss rfl rfl ⟨by decide, by decide⟩ (Nat.le_of_ble_eq_true rfl) ⟨by (try dsimp only); omega, by (try dsimp only); omega⟩ hS (fun _ h => h.elim) (fun H1 locs hpH1 hszH1 hk0H1 hS => ?_)
  obtain rfl := hpH1.symm
  refine q_i2lx hx hb dL_loss_7 ?_
  refine r_putN (θ := θ) (C := RX2) (T := TX2) (N := 2) (ci := 8) (v := .long (lL ((iI (dI (dt a.toNat) - dI (shI (dt a.toNat) n))).toInt))) (ty := .long) hx hb hts gwX2 tyX2 tyX2_ok nmX2 hown hK ho (Or.inr rfl) hS rfl 0 (by decide) (va_Nw.use rfl (va_Nw.warmF fx.2 hn.2.1)) (fun _ h => h) rfl (by decide +kernel) rfl rfl (Nat.le_of_ble_eq_true rfl) dL_loss_8 (fun H2 locs hqH2 hszH2 hkH2 hS => ?_)
  have hoH2 : OB θ H2 o 8 [.long (lL ((iI (dI (dt a.toNat) - dI (shI (dt a.toNat) n))).toInt)), sv9] := hqH2
  have hcwH2 := hcw.kept (fun i hi => hkH2 _ (Ne.symm (hod i hi)))
  refine lv_goto (tgt := 22) hx hb dL_loss_11 (by decide) ?_
  refine q_con hx hb dL_loss_22 ?_
  exact e_i hx hb hr hlk hS dL_loss_23 (by first | exact Nat.le_of_ble_eq_true rfl | ((try dsimp only); omega)) (by first | exact Nat.le_of_ble_eq_true rfl | ((try dsimp only); omega)) ⟨rfl, hcwH2, hoH2⟩

set_option maxHeartbeats 4000000 in
set_option maxRecDepth 100000 in
theorem wn1_loss (θ : TH) (l : Launch) (hl0 : l.stackTraces = false) (S0 : State) (H : Heap) (u : Nat → Nat) (dt sy sm sd : Nat → Int) (bc rf kn : Int) (hw : CWR θ S0 u H dt sy sm sd bc rf kn) (hj : SJ θ S0 H) (hn : NX S0) (o : Nat) (nv : Int) (sv9 : Value) (ho : OB θ H o 8 [.long (lL nv), sv9]) (hod : ∀ i : Nat, i < 7 → o ≠ u i) (a n : Int) (h_0 : -2147483648 ≤ a ∧ a < 2147483648) (h_1 : -2147483648 ≤ n ∧ n < 2147483648) (h_2 : ¬ (0 ≤ a ∧ a < 6)) : CTW l yL_loss cL_loss 5 (some .int) [((0 : Nat), (11 : Nat), (14 : Nat), (19 : Nat)), ((0 : Nat), (11 : Nat), (18 : Nat), (21 : Nat))] 8 132 1 6 [.ref (u 0), .int (iI a), .int (iI n), .ref o] S0 H (fun v9 H1 => v9 = some (.int (iI 1)) ∧ CW θ u H1 dt sy sm sd bc rf kn ∧ OB θ H1 o 8 [.long (lL nv), sv9]) (fun x : Nat => UA u H.size x ∨ x = o) := by
  refine ctw_of (by decide +kernel) (Nat.le_of_ble_eq_true rfl) ?_
  intro pg en s mi args below meth co ls fx hs hr hlk htab hl
  subst hs
  obtain ⟨hx, hb, hml, hown, hts⟩ := id fx.1
  have hS : va_S (fun x : Nat => UA u s.heap.size x ∨ x = o) s.heap s.heap [] := va_S.rf
  obtain ⟨hz, hu, hcw, hd, hsp⟩ := id hw
  have hK := sz_K fx.2 hz
  refine lv_aload_n hx hb dL_loss_0 rfl (lv_at hl 3 rfl) ?_
  refine lv_aload_n hx hb dL_loss_1 rfl (lv_at hl 0 rfl) ?_
  refine lv_iload_n hx hb dL_loss_2 rfl (lv_at hl 1 rfl) ?_
  refine lv_iload_n hx hb dL_loss_3 rfl (lv_at hl 2 rfl) ?_
  refine c_VT (As := [.int (iI a), .int (iI n)]) (rest := [.ref o]) (b := u 0) (C := RX1) (E := "java/lang/IndexOutOfBoundsException") (name := "java/lang/IndexOutOfBoundsException") (k := 0) (a0 := 0) (a1 := 11) (hpc := 14) (ct := 19) fx hl (no1_loss θ l hl0 S0 _ u _ _ _ _ _ _ _ hw a n h_0 h_1 h_2) (ob_recv hK hcw.1 rfl) dL_loss_4 k879 k637 k638 k1 k639 hd_X1_loss rfl ⟨by decide, by decide⟩ (Nat.le_of_ble_eq_true rfl) ⟨by (try dsimp only); omega, by (try dsimp only); omega⟩ hS (fun x h => Or.inl (Or.inr h)) htab rfl ⟨by decide, by decide⟩ (by decide) k696 (nw_at (args := args) fx.2 hz.2.2.2.2.2.2.2.2.1 (by decide +kernel)) (by show ∀ q ∈ ([] : List (Nat × Nat × Nat × Nat)), _; exact fun q h => absurd h List.not_mem_nil) (fun q2 H1 locs hszH1 hkH1 hS => ?_)
  have hcwH1 := hcw.kept (fun i hi => hkH1 _ (hcw.lt i hi))
  have hoH1 := ho.kept (hkH1 _ ho.lt)
  refine lv_astore (lv' := [(4, .ref q2), (0, .ref (u 0)), (1, .int (iI a)), (2, .int (iI n)), (3, .ref o)]) hx hb dL_loss_14 hl (by decide) rfl (fun ls hl => ?_)
  refine q_con hx hb dL_loss_16 ?_
  exact e_i hx hb hr hlk hS dL_loss_17 (by first | exact Nat.le_of_ble_eq_true rfl | ((try dsimp only); omega)) (by first | exact Nat.le_of_ble_eq_true rfl | ((try dsimp only); omega)) ⟨rfl, hcwH1, hoH1⟩

set_option maxHeartbeats 4000000 in
set_option maxRecDepth 100000 in
theorem wn2_loss (θ : TH) (l : Launch) (hl0 : l.stackTraces = false) (S0 : State) (H : Heap) (u : Nat → Nat) (dt sy sm sd : Nat → Int) (bc rf kn : Int) (hw : CWR θ S0 u H dt sy sm sd bc rf kn) (hj : SJ θ S0 H) (hn : NX S0) (o : Nat) (nv : Int) (sv9 : Value) (ho : OB θ H o 8 [.long (lL nv), sv9]) (hod : ∀ i : Nat, i < 7 → o ≠ u i) (a n : Int) (h_0 : -2147483648 ≤ a ∧ a < 2147483648) (h_1 : -2147483648 ≤ n ∧ n < 2147483648) (h_2 : 0 ≤ a ∧ a < 6) (h_3 : ¬ (-240000 ≤ n ∧ n ≤ 240000)) : CTW l yL_loss cL_loss 5 (some .int) [((0 : Nat), (11 : Nat), (14 : Nat), (19 : Nat)), ((0 : Nat), (11 : Nat), (18 : Nat), (21 : Nat))] 9 154 1 6 [.ref (u 0), .int (iI a), .int (iI n), .ref o] S0 H (fun v9 H1 => v9 = some (.int (iI 2)) ∧ CW θ u H1 dt sy sm sd bc rf kn ∧ OB θ H1 o 8 [.long (lL nv), sv9]) (fun x : Nat => UA u H.size x ∨ x = o) := by
  refine ctw_of (by decide +kernel) (Nat.le_of_ble_eq_true rfl) ?_
  intro pg en s mi args below meth co ls fx hs hr hlk htab hl
  subst hs
  obtain ⟨hx, hb, hml, hown, hts⟩ := id fx.1
  have hS : va_S (fun x : Nat => UA u s.heap.size x ∨ x = o) s.heap s.heap [] := va_S.rf
  obtain ⟨hz, hu, hcw, hd, hsp⟩ := id hw
  have hK := sz_K fx.2 hz
  refine lv_aload_n hx hb dL_loss_0 rfl (lv_at hl 3 rfl) ?_
  refine lv_aload_n hx hb dL_loss_1 rfl (lv_at hl 0 rfl) ?_
  refine lv_iload_n hx hb dL_loss_2 rfl (lv_at hl 1 rfl) ?_
  refine lv_iload_n hx hb dL_loss_3 rfl (lv_at hl 2 rfl) ?_
  refine c_VT (As := [.int (iI a), .int (iI n)]) (rest := [.ref o]) (b := u 0) (C := RX1) (E := "java/lang/IllegalArgumentException") (name := "java/lang/IllegalArgumentException") (k := 1) (a0 := 0) (a1 := 11) (hpc := 18) (ct := 21) fx hl (no2_loss θ l hl0 S0 _ u _ _ _ _ _ _ _ hw a n h_0 h_1 h_2 h_3) (ob_recv hK hcw.1 rfl) dL_loss_4 k879 k637 k638 k1 k639 hd_X1_loss rfl ⟨by decide, by decide⟩ (Nat.le_of_ble_eq_true rfl) ⟨by (try dsimp only); omega, by (try dsimp only); omega⟩ hS (fun x h => Or.inl (Or.inr h)) htab rfl ⟨by decide, by decide⟩ (by decide) k697 (nw_at (args := args) fx.2 hz.2.2.2.2.2.2.2.2.1 (by decide +kernel)) (by show ∀ q ∈ ([(0, 11, 14, 19)] : List (Nat × Nat × Nat × Nat)), _; exact List.forall_mem_cons.mpr ⟨⟨by decide, _, k696, hn.1.1⟩, fun q h => absurd h List.not_mem_nil⟩) (fun q2 H1 locs hszH1 hkH1 hS => ?_)
  have hcwH1 := hcw.kept (fun i hi => hkH1 _ (hcw.lt i hi))
  have hoH1 := ho.kept (hkH1 _ ho.lt)
  refine lv_astore (lv' := [(4, .ref q2), (0, .ref (u 0)), (1, .int (iI a)), (2, .int (iI n)), (3, .ref o)]) hx hb dL_loss_18 hl (by decide) rfl (fun ls hl => ?_)
  refine q_con hx hb dL_loss_20 ?_
  exact e_i hx hb hr hlk hS dL_loss_21 (by first | exact Nat.le_of_ble_eq_true rfl | ((try dsimp only); omega)) (by first | exact Nat.le_of_ble_eq_true rfl | ((try dsimp only); omega)) ⟨rfl, hcwH1, hoH1⟩

set_option maxHeartbeats 4000000 in
set_option maxRecDepth 100000 in
theorem wr_leadsBack (θ : TH) (l : Launch) (hl0 : l.stackTraces = false) (S0 : State) (H : Heap) (u : Nat → Nat) (dt sy sm sd : Nat → Int) (bc rf kn : Int) (hw : CWR θ S0 u H dt sy sm sd bc rf kn) (hj : SJ θ S0 H) (hn : NX S0) (o : Nat) (nv : Int) (sv9 : Value) (ho : OB θ H o 8 [.long (lL nv), sv9]) (hod : ∀ i : Nat, i < 7 → o ≠ u i) (a n : Int) (r : Int) (hr0 : (r = 1 ∧ (shI (shI (dt a.toNat) n) (-n) = dt a.toNat)) ∨ (r = 0 ∧ ¬ (shI (shI (dt a.toNat) n) (-n) = dt a.toNat))) (h_0 : -2147483648 ≤ a ∧ a < 2147483648) (h_1 : -2147483648 ≤ n ∧ n < 2147483648) (h_2 : 0 ≤ a ∧ a < 6) (h_3 : -240000 ≤ n ∧ n ≤ 240000) : CTW l yL_leadsBack cL_leadsBack 5 (some .int) [((0 : Nat), (18 : Nat), (21 : Nat), (19 : Nat)), ((0 : Nat), (18 : Nat), (25 : Nat), (21 : Nat))] 6 135 0 0 [.ref (u 0), .int (iI a), .int (iI n), .ref o] S0 H (fun v9 H1 => v9 = some (.int (iI 0)) ∧ CW θ u H1 dt sy sm sd bc rf kn ∧ OB θ H1 o 8 [.long (lL r), sv9]) (fun x : Nat => UA u H.size x ∨ x = o) := by
  refine ctw_of (by decide +kernel) (Nat.le_of_ble_eq_true rfl) ?_
  intro pg en s mi args below meth co ls fx hs hr hlk htab hl
  subst hs
  obtain ⟨hx, hb, hml, hown, hts⟩ := id fx.1
  have hS : va_S (fun x : Nat => UA u s.heap.size x ∨ x = o) s.heap s.heap [] := va_S.rf
  obtain ⟨hz, hu, hcw, hd, hsp⟩ := id hw
  have hK := sz_K fx.2 hz
  refine lv_aload_n hx hb dL_leadsBack_0 rfl (lv_at hl 3 rfl) ?_
  refine lv_aload_n hx hb dL_leadsBack_1 rfl (lv_at hl 0 rfl) ?_
  refine lv_iload_n hx hb dL_leadsBack_2 rfl (lv_at hl 1 rfl) ?_
  refine lv_iload_n hx hb dL_leadsBack_3 rfl (lv_at hl 2 rfl) ?_
  refine c_Vr (As := [.int (iI a), .int (iI n)]) (rest := [.ref o]) (b := u 0) (C := RX1) (r := some (.int (iI r))) (st1 := [.int (iI r), .ref o]) fx hl (ok_leadsBack θ l hl0 S0 _ u _ _ _ _ _ _ _ hw a n r hr0 h_0 h_1 h_2 h_3) (ob_recv hK hcw.1 rfl) dL_leadsBack_4 k883 k884 k885 k1 k886 hd_X1_leadsBack rfl rfl ⟨by decide, by decide⟩ (Nat.le_of_ble_eq_true rfl) ⟨by (try dsimp only); omega, by (try dsimp only); omega⟩ hS (fun _ h => h.elim) (fun H1 locs hpH1 hszH1 hk0H1 hS => ?_)
  obtain rfl := hpH1.symm
  have br : r = 0 ∨ r = 1 := hr0.elim (fun h => Or.inr h.1) (fun h => Or.inl h.1)
  refine q_ieq (tgt := 14) hx hb dL_leadsBack_7 (by decide) (by omega) (fun c2 => ?_) (fun c2 => ?_)
  · refine q_lcon (z := 0) hx hb (by decide) dL_leadsBack_14 ?_
    refine r_putN (θ := θ) (C := RX2) (T := TX2) (N := 2) (ci := 8) (v := .long (lL 0)) (ty := .long) hx hb hts gwX2 tyX2 tyX2_ok nmX2 hown hK ho (Or.inr rfl) hS rfl 0 (by decide) (va_Nw.use rfl (va_Nw.warmF fx.2 hn.2.1)) (fun _ h => h) rfl (by decide +kernel) rfl rfl (Nat.le_of_ble_eq_true rfl) dL_leadsBack_15 (fun H3 locs hqH3 hszH3 hkH3 hS => ?_)
    have hoH3 : OB θ H3 o 8 [.long (lL 0), sv9] := hqH3
    have hcwH3 := hcw.kept (fun i hi => hkH3 _ (Ne.symm (hod i hi)))
    refine lv_goto (tgt := 29) hx hb dL_leadsBack_18 (by decide) ?_
    refine q_con hx hb dL_leadsBack_29 ?_
    exact e_i hx hb hr hlk hS dL_leadsBack_30 (by first | exact Nat.le_of_ble_eq_true rfl | ((try dsimp only); omega)) (by first | exact Nat.le_of_ble_eq_true rfl | ((try dsimp only); omega)) ⟨rfl, hcwH3, (by rw [show r = 0 by omega]; exact hoH3)⟩
  · refine q_lcon (z := 1) hx hb (by decide) dL_leadsBack_10 ?_
    refine lv_goto (tgt := 15) hx hb dL_leadsBack_11 (by decide) ?_
    refine r_putN (θ := θ) (C := RX2) (T := TX2) (N := 2) (ci := 8) (v := .long (lL 1)) (ty := .long) hx hb hts gwX2 tyX2 tyX2_ok nmX2 hown hK ho (Or.inr rfl) hS rfl 0 (by decide) (va_Nw.use rfl (va_Nw.warmF fx.2 hn.2.1)) (fun _ h => h) rfl (by decide +kernel) rfl rfl (Nat.le_of_ble_eq_true rfl) dL_leadsBack_15 (fun H4 locs hqH4 hszH4 hkH4 hS => ?_)
    have hoH4 : OB θ H4 o 8 [.long (lL 1), sv9] := hqH4
    have hcwH4 := hcw.kept (fun i hi => hkH4 _ (Ne.symm (hod i hi)))
    refine lv_goto (tgt := 29) hx hb dL_leadsBack_18 (by decide) ?_
    refine q_con hx hb dL_leadsBack_29 ?_
    exact e_i hx hb hr hlk hS dL_leadsBack_30 (by first | exact Nat.le_of_ble_eq_true rfl | ((try dsimp only); omega)) (by first | exact Nat.le_of_ble_eq_true rfl | ((try dsimp only); omega)) ⟨rfl, hcwH4, (by rw [show r = 1 by omega]; exact hoH4)⟩

set_option maxHeartbeats 4000000 in
set_option maxRecDepth 100000 in
theorem wn1_leadsBack (θ : TH) (l : Launch) (hl0 : l.stackTraces = false) (S0 : State) (H : Heap) (u : Nat → Nat) (dt sy sm sd : Nat → Int) (bc rf kn : Int) (hw : CWR θ S0 u H dt sy sm sd bc rf kn) (hj : SJ θ S0 H) (hn : NX S0) (o : Nat) (nv : Int) (sv9 : Value) (ho : OB θ H o 8 [.long (lL nv), sv9]) (hod : ∀ i : Nat, i < 7 → o ≠ u i) (a n : Int) (h_0 : -2147483648 ≤ a ∧ a < 2147483648) (h_1 : -2147483648 ≤ n ∧ n < 2147483648) (h_2 : ¬ (0 ≤ a ∧ a < 6)) : CTW l yL_leadsBack cL_leadsBack 5 (some .int) [((0 : Nat), (18 : Nat), (21 : Nat), (19 : Nat)), ((0 : Nat), (18 : Nat), (25 : Nat), (21 : Nat))] 8 132 1 6 [.ref (u 0), .int (iI a), .int (iI n), .ref o] S0 H (fun v9 H1 => v9 = some (.int (iI 1)) ∧ CW θ u H1 dt sy sm sd bc rf kn ∧ OB θ H1 o 8 [.long (lL nv), sv9]) (fun x : Nat => UA u H.size x ∨ x = o) := by
  refine ctw_of (by decide +kernel) (Nat.le_of_ble_eq_true rfl) ?_
  intro pg en s mi args below meth co ls fx hs hr hlk htab hl
  subst hs
  obtain ⟨hx, hb, hml, hown, hts⟩ := id fx.1
  have hS : va_S (fun x : Nat => UA u s.heap.size x ∨ x = o) s.heap s.heap [] := va_S.rf
  obtain ⟨hz, hu, hcw, hd, hsp⟩ := id hw
  have hK := sz_K fx.2 hz
  refine lv_aload_n hx hb dL_leadsBack_0 rfl (lv_at hl 3 rfl) ?_
  refine lv_aload_n hx hb dL_leadsBack_1 rfl (lv_at hl 0 rfl) ?_
  refine lv_iload_n hx hb dL_leadsBack_2 rfl (lv_at hl 1 rfl) ?_
  refine lv_iload_n hx hb dL_leadsBack_3 rfl (lv_at hl 2 rfl) ?_
  refine c_VT (As := [.int (iI a), .int (iI n)]) (rest := [.ref o]) (b := u 0) (C := RX1) (E := "java/lang/IndexOutOfBoundsException") (name := "java/lang/IndexOutOfBoundsException") (k := 0) (a0 := 0) (a1 := 18) (hpc := 21) (ct := 19) fx hl (no1_leadsBack θ l hl0 S0 _ u _ _ _ _ _ _ _ hw a n h_0 h_1 h_2) (ob_recv hK hcw.1 rfl) dL_leadsBack_4 k883 k884 k885 k1 k886 hd_X1_leadsBack rfl ⟨by decide, by decide⟩ (Nat.le_of_ble_eq_true rfl) ⟨by (try dsimp only); omega, by (try dsimp only); omega⟩ hS (fun x h => Or.inl (Or.inr h)) htab rfl ⟨by decide, by decide⟩ (by decide) k696 (nw_at (args := args) fx.2 hz.2.2.2.2.2.2.2.2.1 (by decide +kernel)) (by show ∀ q ∈ ([] : List (Nat × Nat × Nat × Nat)), _; exact fun q h => absurd h List.not_mem_nil) (fun q2 H1 locs hszH1 hkH1 hS => ?_)
  have hcwH1 := hcw.kept (fun i hi => hkH1 _ (hcw.lt i hi))
  have hoH1 := ho.kept (hkH1 _ ho.lt)
  refine lv_astore (lv' := [(4, .ref q2), (0, .ref (u 0)), (1, .int (iI a)), (2, .int (iI n)), (3, .ref o)]) hx hb dL_leadsBack_21 hl (by decide) rfl (fun ls hl => ?_)
  refine q_con hx hb dL_leadsBack_23 ?_
  exact e_i hx hb hr hlk hS dL_leadsBack_24 (by first | exact Nat.le_of_ble_eq_true rfl | ((try dsimp only); omega)) (by first | exact Nat.le_of_ble_eq_true rfl | ((try dsimp only); omega)) ⟨rfl, hcwH1, hoH1⟩

set_option maxHeartbeats 4000000 in
set_option maxRecDepth 100000 in
theorem wn2_leadsBack (θ : TH) (l : Launch) (hl0 : l.stackTraces = false) (S0 : State) (H : Heap) (u : Nat → Nat) (dt sy sm sd : Nat → Int) (bc rf kn : Int) (hw : CWR θ S0 u H dt sy sm sd bc rf kn) (hj : SJ θ S0 H) (hn : NX S0) (o : Nat) (nv : Int) (sv9 : Value) (ho : OB θ H o 8 [.long (lL nv), sv9]) (hod : ∀ i : Nat, i < 7 → o ≠ u i) (a n : Int) (h_0 : -2147483648 ≤ a ∧ a < 2147483648) (h_1 : -2147483648 ≤ n ∧ n < 2147483648) (h_2 : 0 ≤ a ∧ a < 6) (h_3 : ¬ (-240000 ≤ n ∧ n ≤ 240000)) : CTW l yL_leadsBack cL_leadsBack 5 (some .int) [((0 : Nat), (18 : Nat), (21 : Nat), (19 : Nat)), ((0 : Nat), (18 : Nat), (25 : Nat), (21 : Nat))] 9 154 1 6 [.ref (u 0), .int (iI a), .int (iI n), .ref o] S0 H (fun v9 H1 => v9 = some (.int (iI 2)) ∧ CW θ u H1 dt sy sm sd bc rf kn ∧ OB θ H1 o 8 [.long (lL nv), sv9]) (fun x : Nat => UA u H.size x ∨ x = o) := by
  refine ctw_of (by decide +kernel) (Nat.le_of_ble_eq_true rfl) ?_
  intro pg en s mi args below meth co ls fx hs hr hlk htab hl
  subst hs
  obtain ⟨hx, hb, hml, hown, hts⟩ := id fx.1
  have hS : va_S (fun x : Nat => UA u s.heap.size x ∨ x = o) s.heap s.heap [] := va_S.rf
  obtain ⟨hz, hu, hcw, hd, hsp⟩ := id hw
  have hK := sz_K fx.2 hz
  refine lv_aload_n hx hb dL_leadsBack_0 rfl (lv_at hl 3 rfl) ?_
  refine lv_aload_n hx hb dL_leadsBack_1 rfl (lv_at hl 0 rfl) ?_
  refine lv_iload_n hx hb dL_leadsBack_2 rfl (lv_at hl 1 rfl) ?_
  refine lv_iload_n hx hb dL_leadsBack_3 rfl (lv_at hl 2 rfl) ?_
  refine c_VT (As := [.int (iI a), .int (iI n)]) (rest := [.ref o]) (b := u 0) (C := RX1) (E := "java/lang/IllegalArgumentException") (name := "java/lang/IllegalArgumentException") (k := 1) (a0 := 0) (a1 := 18) (hpc := 25) (ct := 21) fx hl (no2_leadsBack θ l hl0 S0 _ u _ _ _ _ _ _ _ hw a n h_0 h_1 h_2 h_3) (ob_recv hK hcw.1 rfl) dL_leadsBack_4 k883 k884 k885 k1 k886 hd_X1_leadsBack rfl ⟨by decide, by decide⟩ (Nat.le_of_ble_eq_true rfl) ⟨by (try dsimp only); omega, by (try dsimp only); omega⟩ hS (fun x h => Or.inl (Or.inr h)) htab rfl ⟨by decide, by decide⟩ (by decide) k697 (nw_at (args := args) fx.2 hz.2.2.2.2.2.2.2.2.1 (by decide +kernel)) (by show ∀ q ∈ ([(0, 18, 21, 19)] : List (Nat × Nat × Nat × Nat)), _; exact List.forall_mem_cons.mpr ⟨⟨by decide, _, k696, hn.1.1⟩, fun q h => absurd h List.not_mem_nil⟩) (fun q2 H1 locs hszH1 hkH1 hS => ?_)
  have hcwH1 := hcw.kept (fun i hi => hkH1 _ (hcw.lt i hi))
  have hoH1 := ho.kept (hkH1 _ ho.lt)
  refine lv_astore (lv' := [(4, .ref q2), (0, .ref (u 0)), (1, .int (iI a)), (2, .int (iI n)), (3, .ref o)]) hx hb dL_leadsBack_25 hl (by decide) rfl (fun ls hl => ?_)
  refine q_con hx hb dL_leadsBack_27 ?_
  exact e_i hx hb hr hlk hS dL_leadsBack_28 (by first | exact Nat.le_of_ble_eq_true rfl | ((try dsimp only); omega)) (by first | exact Nat.le_of_ble_eq_true rfl | ((try dsimp only); omega)) ⟨rfl, hcwH1, hoH1⟩

set_option maxHeartbeats 4000000 in
set_option maxRecDepth 100000 in
theorem wr_twice (θ : TH) (l : Launch) (hl0 : l.stackTraces = false) (S0 : State) (H : Heap) (u : Nat → Nat) (dt sy sm sd : Nat → Int) (bc rf kn : Int) (hw : CWR θ S0 u H dt sy sm sd bc rf kn) (hj : SJ θ S0 H) (hn : NX S0) (o : Nat) (nv : Int) (sv9 : Value) (ho : OB θ H o 8 [.long (lL nv), sv9]) (hod : ∀ i : Nat, i < 7 → o ≠ u i) (a n k : Int) (h_0 : -2147483648 ≤ a ∧ a < 2147483648) (h_1 : -2147483648 ≤ n ∧ n < 2147483648) (h_2 : -2147483648 ≤ k ∧ k < 2147483648) (h_3 : 0 ≤ a ∧ a < 6) (h_4 : -240000 ≤ n ∧ n ≤ 240000) (h_5 : -240000 ≤ k ∧ k ≤ 240000) : CTW l yL_twice cL_twice 6 (some .int) [((0 : Nat), (13 : Nat), (16 : Nat), (19 : Nat)), ((0 : Nat), (13 : Nat), (20 : Nat), (21 : Nat))] 5 117 0 0 [.ref (u 0), .int (iI a), .int (iI n), .int (iI k), .ref o] S0 H (fun v9 H1 => v9 = some (.int (iI 0)) ∧ CW θ u H1 dt sy sm sd bc rf kn ∧ OB θ H1 o 8 [.long (lL (iI (shI (dt a.toNat) (n + k) - shI (shI (dt a.toNat) n) k)).toInt), sv9]) (fun x : Nat => UA u H.size x ∨ x = o) := by
  refine ctw_of (by decide +kernel) (Nat.le_of_ble_eq_true rfl) ?_
  intro pg en s mi args below meth co ls fx hs hr hlk htab hl
  subst hs
  obtain ⟨hx, hb, hml, hown, hts⟩ := id fx.1
  have hS : va_S (fun x : Nat => UA u s.heap.size x ∨ x = o) s.heap s.heap [] := va_S.rf
  obtain ⟨hz, hu, hcw, hd, hsp⟩ := id hw
  have hK := sz_K fx.2 hz
  refine lv_aload hx hb dL_twice_0 (lv_at hl 4 rfl) ?_
  refine lv_aload_n hx hb dL_twice_2 rfl (lv_at hl 0 rfl) ?_
  refine lv_iload_n hx hb dL_twice_3 rfl (lv_at hl 1 rfl) ?_
  refine lv_iload_n hx hb dL_twice_4 rfl (lv_at hl 2 rfl) ?_
  refine lv_iload_n hx hb dL_twice_5 rfl (lv_at hl 3 rfl) ?_
  refine c_Vr (As := [.int (iI a), .int (iI n), .int (iI k)]) (rest := [.ref o]) (b := u 0) (C := RX1) (r := some (.int (iI (shI (dt a.toNat) (n + k) - shI (shI (dt a.toNat) n) k)))) (st1 := [.int (iI (shI (dt a.toNat) (n + k) - shI (shI (dt a.toNat) n) k)), .ref o]) fx hl (ok_twice θ l hl0 S0 _ u _ _ _ _ _ _ _ hw a n k h_0 h_1 h_2 h_3 h_4 h_5) (ob_recv hK hcw.1 rfl) dL_twice_6 k891 k892 k893 k1 k894 hd_X1_twice rfl rfl ⟨by decide, by decide⟩ (Nat.le_of_ble_eq_true rfl) ⟨by (try dsimp only); omega, by (try dsimp only); omega⟩ hS (fun _ h => h.elim) (fun H1 locs hpH1 hszH1 hk0H1 hS => ?_)
  obtain rfl := hpH1.symm
  refine q_i2lx hx hb dL_twice_9 ?_
  refine r_putN (θ := θ) (C := RX2) (T := TX2) (N := 2) (ci := 8) (v := .long (lL ((iI (shI (dt a.toNat) (n + k) - shI (shI (dt a.toNat) n) k)).toInt))) (ty := .long) hx hb hts gwX2 tyX2 tyX2_ok nmX2 hown hK ho (Or.inr rfl) hS rfl 0 (by decide) (va_Nw.use rfl (va_Nw.warmF fx.2 hn.2.1)) (fun _ h => h) rfl (by decide +kernel) rfl rfl (Nat.le_of_ble_eq_true rfl) dL_twice_10 (fun H2 locs hqH2 hszH2 hkH2 hS => ?_)
  have hoH2 : OB θ H2 o 8 [.long (lL ((iI (shI (dt a.toNat) (n + k) - shI (shI (dt a.toNat) n) k)).toInt)), sv9] := hqH2
  have hcwH2 := hcw.kept (fun i hi => hkH2 _ (Ne.symm (hod i hi)))
  refine lv_goto (tgt := 24) hx hb dL_twice_13 (by decide) ?_
  refine q_con hx hb dL_twice_24 ?_
  exact e_i hx hb hr hlk hS dL_twice_25 (by first | exact Nat.le_of_ble_eq_true rfl | ((try dsimp only); omega)) (by first | exact Nat.le_of_ble_eq_true rfl | ((try dsimp only); omega)) ⟨rfl, hcwH2, hoH2⟩

set_option maxHeartbeats 4000000 in
set_option maxRecDepth 100000 in
theorem wn1_twice (θ : TH) (l : Launch) (hl0 : l.stackTraces = false) (S0 : State) (H : Heap) (u : Nat → Nat) (dt sy sm sd : Nat → Int) (bc rf kn : Int) (hw : CWR θ S0 u H dt sy sm sd bc rf kn) (hj : SJ θ S0 H) (hn : NX S0) (o : Nat) (nv : Int) (sv9 : Value) (ho : OB θ H o 8 [.long (lL nv), sv9]) (hod : ∀ i : Nat, i < 7 → o ≠ u i) (a n k : Int) (h_0 : -2147483648 ≤ a ∧ a < 2147483648) (h_1 : -2147483648 ≤ n ∧ n < 2147483648) (h_2 : -2147483648 ≤ k ∧ k < 2147483648) (h_3 : ¬ (0 ≤ a ∧ a < 6)) : CTW l yL_twice cL_twice 6 (some .int) [((0 : Nat), (13 : Nat), (16 : Nat), (19 : Nat)), ((0 : Nat), (13 : Nat), (20 : Nat), (21 : Nat))] 8 135 1 6 [.ref (u 0), .int (iI a), .int (iI n), .int (iI k), .ref o] S0 H (fun v9 H1 => v9 = some (.int (iI 1)) ∧ CW θ u H1 dt sy sm sd bc rf kn ∧ OB θ H1 o 8 [.long (lL nv), sv9]) (fun x : Nat => UA u H.size x ∨ x = o) := by
  refine ctw_of (by decide +kernel) (Nat.le_of_ble_eq_true rfl) ?_
  intro pg en s mi args below meth co ls fx hs hr hlk htab hl
  subst hs
  obtain ⟨hx, hb, hml, hown, hts⟩ := id fx.1
  have hS : va_S (fun x : Nat => UA u s.heap.size x ∨ x = o) s.heap s.heap [] := va_S.rf
  obtain ⟨hz, hu, hcw, hd, hsp⟩ := id hw
  have hK := sz_K fx.2 hz
  refine lv_aload hx hb dL_twice_0 (lv_at hl 4 rfl) ?_
  refine lv_aload_n hx hb dL_twice_2 rfl (lv_at hl 0 rfl) ?_
  refine lv_iload_n hx hb dL_twice_3 rfl (lv_at hl 1 rfl) ?_
  refine lv_iload_n hx hb dL_twice_4 rfl (lv_at hl 2 rfl) ?_
  refine lv_iload_n hx hb dL_twice_5 rfl (lv_at hl 3 rfl) ?_
  refine c_VT (As := [.int (iI a), .int (iI n), .int (iI k)]) (rest := [.ref o]) (b := u 0) (C := RX1) (E := "java/lang/IndexOutOfBoundsException") (name := "java/lang/IndexOutOfBoundsException") (k := 0) (a0 := 0) (a1 := 13) (hpc := 16) (ct := 19) fx hl (no1_twice θ l hl0 S0 _ u _ _ _ _ _ _ _ hw a n k h_0 h_1 h_2 h_3) (ob_recv hK hcw.1 rfl) dL_twice_6 k891 k892 k893 k1 k894 hd_X1_twice rfl ⟨by decide, by decide⟩ (Nat.le_of_ble_eq_true rfl) ⟨by (try dsimp only); omega, by (try dsimp only); omega⟩ hS (fun x h => Or.inl (Or.inr h)) htab rfl ⟨by decide, by decide⟩ (by decide) k696 (nw_at (args := args) fx.2 hz.2.2.2.2.2.2.2.2.1 (by decide +kernel)) (by show ∀ q ∈ ([] : List (Nat × Nat × Nat × Nat)), _; exact fun q h => absurd h List.not_mem_nil) (fun q2 H1 locs hszH1 hkH1 hS => ?_)
  have hcwH1 := hcw.kept (fun i hi => hkH1 _ (hcw.lt i hi))
  have hoH1 := ho.kept (hkH1 _ ho.lt)
  refine lv_astore (lv' := [(5, .ref q2), (0, .ref (u 0)), (1, .int (iI a)), (2, .int (iI n)), (3, .int (iI k)), (4, .ref o)]) hx hb dL_twice_16 hl (by decide) rfl (fun ls hl => ?_)
  refine q_con hx hb dL_twice_18 ?_
  exact e_i hx hb hr hlk hS dL_twice_19 (by first | exact Nat.le_of_ble_eq_true rfl | ((try dsimp only); omega)) (by first | exact Nat.le_of_ble_eq_true rfl | ((try dsimp only); omega)) ⟨rfl, hcwH1, hoH1⟩

set_option maxHeartbeats 4000000 in
set_option maxRecDepth 100000 in
theorem wn2_twice (θ : TH) (l : Launch) (hl0 : l.stackTraces = false) (S0 : State) (H : Heap) (u : Nat → Nat) (dt sy sm sd : Nat → Int) (bc rf kn : Int) (hw : CWR θ S0 u H dt sy sm sd bc rf kn) (hj : SJ θ S0 H) (hn : NX S0) (o : Nat) (nv : Int) (sv9 : Value) (ho : OB θ H o 8 [.long (lL nv), sv9]) (hod : ∀ i : Nat, i < 7 → o ≠ u i) (a n k : Int) (h_0 : -2147483648 ≤ a ∧ a < 2147483648) (h_1 : -2147483648 ≤ n ∧ n < 2147483648) (h_2 : -2147483648 ≤ k ∧ k < 2147483648) (h_3 : 0 ≤ a ∧ a < 6) (h_4 : ¬ (-240000 ≤ n ∧ n ≤ 240000)) : CTW l yL_twice cL_twice 6 (some .int) [((0 : Nat), (13 : Nat), (16 : Nat), (19 : Nat)), ((0 : Nat), (13 : Nat), (20 : Nat), (21 : Nat))] 9 157 1 6 [.ref (u 0), .int (iI a), .int (iI n), .int (iI k), .ref o] S0 H (fun v9 H1 => v9 = some (.int (iI 2)) ∧ CW θ u H1 dt sy sm sd bc rf kn ∧ OB θ H1 o 8 [.long (lL nv), sv9]) (fun x : Nat => UA u H.size x ∨ x = o) := by
  refine ctw_of (by decide +kernel) (Nat.le_of_ble_eq_true rfl) ?_
  intro pg en s mi args below meth co ls fx hs hr hlk htab hl
  subst hs
  obtain ⟨hx, hb, hml, hown, hts⟩ := id fx.1
  have hS : va_S (fun x : Nat => UA u s.heap.size x ∨ x = o) s.heap s.heap [] := va_S.rf
  obtain ⟨hz, hu, hcw, hd, hsp⟩ := id hw
  have hK := sz_K fx.2 hz
  refine lv_aload hx hb dL_twice_0 (lv_at hl 4 rfl) ?_
  refine lv_aload_n hx hb dL_twice_2 rfl (lv_at hl 0 rfl) ?_
  refine lv_iload_n hx hb dL_twice_3 rfl (lv_at hl 1 rfl) ?_
  refine lv_iload_n hx hb dL_twice_4 rfl (lv_at hl 2 rfl) ?_
  refine lv_iload_n hx hb dL_twice_5 rfl (lv_at hl 3 rfl) ?_
  refine c_VT (As := [.int (iI a), .int (iI n), .int (iI k)]) (rest := [.ref o]) (b := u 0) (C := RX1) (E := "java/lang/IllegalArgumentException") (name := "java/lang/IllegalArgumentException") (k := 1) (a0 := 0) (a1 := 13) (hpc := 20) (ct := 21) fx hl (no2_twice θ l hl0 S0 _ u _ _ _ _ _ _ _ hw a n k h_0 h_1 h_2 h_3 h_4) (ob_recv hK hcw.1 rfl) dL_twice_6 k891 k892 k893 k1 k894 hd_X1_twice rfl ⟨by decide, by decide⟩ (Nat.le_of_ble_eq_true rfl) ⟨by (try dsimp only); omega, by (try dsimp only); omega⟩ hS (fun x h => Or.inl (Or.inr h)) htab rfl ⟨by decide, by decide⟩ (by decide) k697 (nw_at (args := args) fx.2 hz.2.2.2.2.2.2.2.2.1 (by decide +kernel)) (by show ∀ q ∈ ([(0, 13, 16, 19)] : List (Nat × Nat × Nat × Nat)), _; exact List.forall_mem_cons.mpr ⟨⟨by decide, _, k696, hn.1.1⟩, fun q h => absurd h List.not_mem_nil⟩) (fun q2 H1 locs hszH1 hkH1 hS => ?_)
  have hcwH1 := hcw.kept (fun i hi => hkH1 _ (hcw.lt i hi))
  have hoH1 := ho.kept (hkH1 _ ho.lt)
  refine lv_astore (lv' := [(5, .ref q2), (0, .ref (u 0)), (1, .int (iI a)), (2, .int (iI n)), (3, .int (iI k)), (4, .ref o)]) hx hb dL_twice_20 hl (by decide) rfl (fun ls hl => ?_)
  refine q_con hx hb dL_twice_22 ?_
  exact e_i hx hb hr hlk hS dL_twice_23 (by first | exact Nat.le_of_ble_eq_true rfl | ((try dsimp only); omega)) (by first | exact Nat.le_of_ble_eq_true rfl | ((try dsimp only); omega)) ⟨rfl, hcwH1, hoH1⟩

set_option maxHeartbeats 4000000 in
set_option maxRecDepth 100000 in
theorem wn3_twice (θ : TH) (l : Launch) (hl0 : l.stackTraces = false) (S0 : State) (H : Heap) (u : Nat → Nat) (dt sy sm sd : Nat → Int) (bc rf kn : Int) (hw : CWR θ S0 u H dt sy sm sd bc rf kn) (hj : SJ θ S0 H) (hn : NX S0) (o : Nat) (nv : Int) (sv9 : Value) (ho : OB θ H o 8 [.long (lL nv), sv9]) (hod : ∀ i : Nat, i < 7 → o ≠ u i) (a n k : Int) (h_0 : -2147483648 ≤ a ∧ a < 2147483648) (h_1 : -2147483648 ≤ n ∧ n < 2147483648) (h_2 : -2147483648 ≤ k ∧ k < 2147483648) (h_3 : 0 ≤ a ∧ a < 6) (h_4 : -240000 ≤ n ∧ n ≤ 240000) (h_5 : ¬ (-240000 ≤ k ∧ k ≤ 240000)) : CTW l yL_twice cL_twice 6 (some .int) [((0 : Nat), (13 : Nat), (16 : Nat), (19 : Nat)), ((0 : Nat), (13 : Nat), (20 : Nat), (21 : Nat))] 9 157 1 6 [.ref (u 0), .int (iI a), .int (iI n), .int (iI k), .ref o] S0 H (fun v9 H1 => v9 = some (.int (iI 2)) ∧ CW θ u H1 dt sy sm sd bc rf kn ∧ OB θ H1 o 8 [.long (lL nv), sv9]) (fun x : Nat => UA u H.size x ∨ x = o) := by
  refine ctw_of (by decide +kernel) (Nat.le_of_ble_eq_true rfl) ?_
  intro pg en s mi args below meth co ls fx hs hr hlk htab hl
  subst hs
  obtain ⟨hx, hb, hml, hown, hts⟩ := id fx.1
  have hS : va_S (fun x : Nat => UA u s.heap.size x ∨ x = o) s.heap s.heap [] := va_S.rf
  obtain ⟨hz, hu, hcw, hd, hsp⟩ := id hw
  have hK := sz_K fx.2 hz
  refine lv_aload hx hb dL_twice_0 (lv_at hl 4 rfl) ?_
  refine lv_aload_n hx hb dL_twice_2 rfl (lv_at hl 0 rfl) ?_
  refine lv_iload_n hx hb dL_twice_3 rfl (lv_at hl 1 rfl) ?_
  refine lv_iload_n hx hb dL_twice_4 rfl (lv_at hl 2 rfl) ?_
  refine lv_iload_n hx hb dL_twice_5 rfl (lv_at hl 3 rfl) ?_
  refine c_VT (As := [.int (iI a), .int (iI n), .int (iI k)]) (rest := [.ref o]) (b := u 0) (C := RX1) (E := "java/lang/IllegalArgumentException") (name := "java/lang/IllegalArgumentException") (k := 1) (a0 := 0) (a1 := 13) (hpc := 20) (ct := 21) fx hl (no3_twice θ l hl0 S0 _ u _ _ _ _ _ _ _ hw a n k h_0 h_1 h_2 h_3 h_4 h_5) (ob_recv hK hcw.1 rfl) dL_twice_6 k891 k892 k893 k1 k894 hd_X1_twice rfl ⟨by decide, by decide⟩ (Nat.le_of_ble_eq_true rfl) ⟨by (try dsimp only); omega, by (try dsimp only); omega⟩ hS (fun x h => Or.inl (Or.inr h)) htab rfl ⟨by decide, by decide⟩ (by decide) k697 (nw_at (args := args) fx.2 hz.2.2.2.2.2.2.2.2.1 (by decide +kernel)) (by show ∀ q ∈ ([(0, 13, 16, 19)] : List (Nat × Nat × Nat × Nat)), _; exact List.forall_mem_cons.mpr ⟨⟨by decide, _, k696, hn.1.1⟩, fun q h => absurd h List.not_mem_nil⟩) (fun q2 H1 locs hszH1 hkH1 hS => ?_)
  have hcwH1 := hcw.kept (fun i hi => hkH1 _ (hcw.lt i hi))
  have hoH1 := ho.kept (hkH1 _ ho.lt)
  refine lv_astore (lv' := [(5, .ref q2), (0, .ref (u 0)), (1, .int (iI a)), (2, .int (iI n)), (3, .int (iI k)), (4, .ref o)]) hx hb dL_twice_20 hl (by decide) rfl (fun ls hl => ?_)
  refine q_con hx hb dL_twice_22 ?_
  exact e_i hx hb hr hlk hS dL_twice_23 (by first | exact Nat.le_of_ble_eq_true rfl | ((try dsimp only); omega)) (by first | exact Nat.le_of_ble_eq_true rfl | ((try dsimp only); omega)) ⟨rfl, hcwH1, hoH1⟩

set_option maxHeartbeats 4000000 in
set_option maxRecDepth 100000 in
theorem wr_gap (θ : TH) (l : Launch) (hl0 : l.stackTraces = false) (S0 : State) (H : Heap) (u : Nat → Nat) (dt sy sm sd : Nat → Int) (bc rf kn : Int) (hw : CWR θ S0 u H dt sy sm sd bc rf kn) (hj : SJ θ S0 H) (hn : NX S0) (o : Nat) (nv : Int) (sv9 : Value) (ho : OB θ H o 8 [.long (lL nv), sv9]) (hod : ∀ i : Nat, i < 7 → o ≠ u i) (a n k : Int) (h_0 : -2147483648 ≤ a ∧ a < 2147483648) (h_1 : -2147483648 ≤ n ∧ n < 2147483648) (h_2 : -2147483648 ≤ k ∧ k < 2147483648) (h_3 : 0 ≤ a ∧ a < 6) (h_4 : -240000 ≤ n ∧ n ≤ 240000) (h_5 : -100000 ≤ k ∧ k ≤ 100000) : CTW l yL_gap cL_gap 6 (some .int) [((0 : Nat), (13 : Nat), (16 : Nat), (19 : Nat)), ((0 : Nat), (13 : Nat), (20 : Nat), (21 : Nat))] 6 138 0 0 [.ref (u 0), .int (iI a), .int (iI n), .int (iI k), .ref o] S0 H (fun v9 H1 => v9 = some (.int (iI 0)) ∧ CW θ u H1 dt sy sm sd bc rf kn ∧ OB θ H1 o 8 [.long (lL (iI (shI (dt a.toNat + k) n - (shI (dt a.toNat) n + k))).toInt), sv9]) (fun x : Nat => UA u H.size x ∨ x = o) := by
  refine ctw_of (by decide +kernel) (Nat.le_of_ble_eq_true rfl) ?_
  intro pg en s mi args below meth co ls fx hs hr hlk htab hl
  subst hs
  obtain ⟨hx, hb, hml, hown, hts⟩ := id fx.1
  have hS : va_S (fun x : Nat => UA u s.heap.size x ∨ x = o) s.heap s.heap [] := va_S.rf
  obtain ⟨hz, hu, hcw, hd, hsp⟩ := id hw
  have hK := sz_K fx.2 hz
  refine lv_aload hx hb dL_gap_0 (lv_at hl 4 rfl) ?_
  refine lv_aload_n hx hb dL_gap_2 rfl (lv_at hl 0 rfl) ?_
  refine lv_iload_n hx hb dL_gap_3 rfl (lv_at hl 1 rfl) ?_
  refine lv_iload_n hx hb dL_gap_4 rfl (lv_at hl 2 rfl) ?_
  refine lv_iload_n hx hb dL_gap_5 rfl (lv_at hl 3 rfl) ?_
  refine c_Vr (As := [.int (iI a), .int (iI n), .int (iI k)]) (rest := [.ref o]) (b := u 0) (C := RX1) (r := some (.int (iI (shI (dt a.toNat + k) n - (shI (dt a.toNat) n + k))))) (st1 := [.int (iI (shI (dt a.toNat + k) n - (shI (dt a.toNat) n + k))), .ref o]) fx hl (ok_gap θ l hl0 S0 _ u _ _ _ _ _ _ _ hw a n k h_0 h_1 h_2 h_3 h_4 h_5) (ob_recv hK hcw.1 rfl) dL_gap_6 k898 k649 k650 k1 k651 hd_X1_gap rfl rfl ⟨by decide, by decide⟩ (Nat.le_of_ble_eq_true rfl) ⟨by (try dsimp only); omega, by (try dsimp only); omega⟩ hS (fun _ h => h.elim) (fun H1 locs hpH1 hszH1 hk0H1 hS => ?_)
  obtain rfl := hpH1.symm
  refine q_i2lx hx hb dL_gap_9 ?_
  refine r_putN (θ := θ) (C := RX2) (T := TX2) (N := 2) (ci := 8) (v := .long (lL ((iI (shI (dt a.toNat + k) n - (shI (dt a.toNat) n + k))).toInt))) (ty := .long) hx hb hts gwX2 tyX2 tyX2_ok nmX2 hown hK ho (Or.inr rfl) hS rfl 0 (by decide) (va_Nw.use rfl (va_Nw.warmF fx.2 hn.2.1)) (fun _ h => h) rfl (by decide +kernel) rfl rfl (Nat.le_of_ble_eq_true rfl) dL_gap_10 (fun H2 locs hqH2 hszH2 hkH2 hS => ?_)
  have hoH2 : OB θ H2 o 8 [.long (lL ((iI (shI (dt a.toNat + k) n - (shI (dt a.toNat) n + k))).toInt)), sv9] := hqH2
  have hcwH2 := hcw.kept (fun i hi => hkH2 _ (Ne.symm (hod i hi)))
  refine lv_goto (tgt := 24) hx hb dL_gap_13 (by decide) ?_
  refine q_con hx hb dL_gap_24 ?_
  exact e_i hx hb hr hlk hS dL_gap_25 (by first | exact Nat.le_of_ble_eq_true rfl | ((try dsimp only); omega)) (by first | exact Nat.le_of_ble_eq_true rfl | ((try dsimp only); omega)) ⟨rfl, hcwH2, hoH2⟩

set_option maxHeartbeats 4000000 in
set_option maxRecDepth 100000 in
theorem wn1_gap (θ : TH) (l : Launch) (hl0 : l.stackTraces = false) (S0 : State) (H : Heap) (u : Nat → Nat) (dt sy sm sd : Nat → Int) (bc rf kn : Int) (hw : CWR θ S0 u H dt sy sm sd bc rf kn) (hj : SJ θ S0 H) (hn : NX S0) (o : Nat) (nv : Int) (sv9 : Value) (ho : OB θ H o 8 [.long (lL nv), sv9]) (hod : ∀ i : Nat, i < 7 → o ≠ u i) (a n k : Int) (h_0 : -2147483648 ≤ a ∧ a < 2147483648) (h_1 : -2147483648 ≤ n ∧ n < 2147483648) (h_2 : -2147483648 ≤ k ∧ k < 2147483648) (h_3 : ¬ (0 ≤ a ∧ a < 6)) : CTW l yL_gap cL_gap 6 (some .int) [((0 : Nat), (13 : Nat), (16 : Nat), (19 : Nat)), ((0 : Nat), (13 : Nat), (20 : Nat), (21 : Nat))] 8 134 1 6 [.ref (u 0), .int (iI a), .int (iI n), .int (iI k), .ref o] S0 H (fun v9 H1 => v9 = some (.int (iI 1)) ∧ CW θ u H1 dt sy sm sd bc rf kn ∧ OB θ H1 o 8 [.long (lL nv), sv9]) (fun x : Nat => UA u H.size x ∨ x = o) := by
  refine ctw_of (by decide +kernel) (Nat.le_of_ble_eq_true rfl) ?_
  intro pg en s mi args below meth co ls fx hs hr hlk htab hl
  subst hs
  obtain ⟨hx, hb, hml, hown, hts⟩ := id fx.1
  have hS : va_S (fun x : Nat => UA u s.heap.size x ∨ x = o) s.heap s.heap [] := va_S.rf
  obtain ⟨hz, hu, hcw, hd, hsp⟩ := id hw
  have hK := sz_K fx.2 hz
  refine lv_aload hx hb dL_gap_0 (lv_at hl 4 rfl) ?_
  refine lv_aload_n hx hb dL_gap_2 rfl (lv_at hl 0 rfl) ?_
  refine lv_iload_n hx hb dL_gap_3 rfl (lv_at hl 1 rfl) ?_
  refine lv_iload_n hx hb dL_gap_4 rfl (lv_at hl 2 rfl) ?_
  refine lv_iload_n hx hb dL_gap_5 rfl (lv_at hl 3 rfl) ?_
  refine c_VT (As := [.int (iI a), .int (iI n), .int (iI k)]) (rest := [.ref o]) (b := u 0) (C := RX1) (E := "java/lang/IndexOutOfBoundsException") (name := "java/lang/IndexOutOfBoundsException") (k := 0) (a0 := 0) (a1 := 13) (hpc := 16) (ct := 19) fx hl (no1_gap θ l hl0 S0 _ u _ _ _ _ _ _ _ hw a n k h_0 h_1 h_2 h_3) (ob_recv hK hcw.1 rfl) dL_gap_6 k898 k649 k650 k1 k651 hd_X1_gap rfl ⟨by decide, by decide⟩ (Nat.le_of_ble_eq_true rfl) ⟨by (try dsimp only); omega, by (try dsimp only); omega⟩ hS (fun x h => Or.inl (Or.inr h)) htab rfl ⟨by decide, by decide⟩ (by decide) k696 (nw_at (args := args) fx.2 hz.2.2.2.2.2.2.2.2.1 (by decide +kernel)) (by show ∀ q ∈ ([] : List (Nat × Nat × Nat × Nat)), _; exact fun q h => absurd h List.not_mem_nil) (fun q2 H1 locs hszH1 hkH1 hS => ?_)
  have hcwH1 := hcw.kept (fun i hi => hkH1 _ (hcw.lt i hi))
  have hoH1 := ho.kept (hkH1 _ ho.lt)
  refine lv_astore (lv' := [(5, .ref q2), (0, .ref (u 0)), (1, .int (iI a)), (2, .int (iI n)), (3, .int (iI k)), (4, .ref o)]) hx hb dL_gap_16 hl (by decide) rfl (fun ls hl => ?_)
  refine q_con hx hb dL_gap_18 ?_
  exact e_i hx hb hr hlk hS dL_gap_19 (by first | exact Nat.le_of_ble_eq_true rfl | ((try dsimp only); omega)) (by first | exact Nat.le_of_ble_eq_true rfl | ((try dsimp only); omega)) ⟨rfl, hcwH1, hoH1⟩

set_option maxHeartbeats 4000000 in
set_option maxRecDepth 100000 in
theorem wn2_gap (θ : TH) (l : Launch) (hl0 : l.stackTraces = false) (S0 : State) (H : Heap) (u : Nat → Nat) (dt sy sm sd : Nat → Int) (bc rf kn : Int) (hw : CWR θ S0 u H dt sy sm sd bc rf kn) (hj : SJ θ S0 H) (hn : NX S0) (o : Nat) (nv : Int) (sv9 : Value) (ho : OB θ H o 8 [.long (lL nv), sv9]) (hod : ∀ i : Nat, i < 7 → o ≠ u i) (a n k : Int) (h_0 : -2147483648 ≤ a ∧ a < 2147483648) (h_1 : -2147483648 ≤ n ∧ n < 2147483648) (h_2 : -2147483648 ≤ k ∧ k < 2147483648) (h_3 : 0 ≤ a ∧ a < 6) (h_4 : ¬ (-240000 ≤ n ∧ n ≤ 240000)) : CTW l yL_gap cL_gap 6 (some .int) [((0 : Nat), (13 : Nat), (16 : Nat), (19 : Nat)), ((0 : Nat), (13 : Nat), (20 : Nat), (21 : Nat))] 9 156 1 6 [.ref (u 0), .int (iI a), .int (iI n), .int (iI k), .ref o] S0 H (fun v9 H1 => v9 = some (.int (iI 2)) ∧ CW θ u H1 dt sy sm sd bc rf kn ∧ OB θ H1 o 8 [.long (lL nv), sv9]) (fun x : Nat => UA u H.size x ∨ x = o) := by
  refine ctw_of (by decide +kernel) (Nat.le_of_ble_eq_true rfl) ?_
  intro pg en s mi args below meth co ls fx hs hr hlk htab hl
  subst hs
  obtain ⟨hx, hb, hml, hown, hts⟩ := id fx.1
  have hS : va_S (fun x : Nat => UA u s.heap.size x ∨ x = o) s.heap s.heap [] := va_S.rf
  obtain ⟨hz, hu, hcw, hd, hsp⟩ := id hw
  have hK := sz_K fx.2 hz
  refine lv_aload hx hb dL_gap_0 (lv_at hl 4 rfl) ?_
  refine lv_aload_n hx hb dL_gap_2 rfl (lv_at hl 0 rfl) ?_
  refine lv_iload_n hx hb dL_gap_3 rfl (lv_at hl 1 rfl) ?_
  refine lv_iload_n hx hb dL_gap_4 rfl (lv_at hl 2 rfl) ?_
  refine lv_iload_n hx hb dL_gap_5 rfl (lv_at hl 3 rfl) ?_
  refine c_VT (As := [.int (iI a), .int (iI n), .int (iI k)]) (rest := [.ref o]) (b := u 0) (C := RX1) (E := "java/lang/IllegalArgumentException") (name := "java/lang/IllegalArgumentException") (k := 1) (a0 := 0) (a1 := 13) (hpc := 20) (ct := 21) fx hl (no2_gap θ l hl0 S0 _ u _ _ _ _ _ _ _ hw a n k h_0 h_1 h_2 h_3 h_4) (ob_recv hK hcw.1 rfl) dL_gap_6 k898 k649 k650 k1 k651 hd_X1_gap rfl ⟨by decide, by decide⟩ (Nat.le_of_ble_eq_true rfl) ⟨by (try dsimp only); omega, by (try dsimp only); omega⟩ hS (fun x h => Or.inl (Or.inr h)) htab rfl ⟨by decide, by decide⟩ (by decide) k697 (nw_at (args := args) fx.2 hz.2.2.2.2.2.2.2.2.1 (by decide +kernel)) (by show ∀ q ∈ ([(0, 13, 16, 19)] : List (Nat × Nat × Nat × Nat)), _; exact List.forall_mem_cons.mpr ⟨⟨by decide, _, k696, hn.1.1⟩, fun q h => absurd h List.not_mem_nil⟩) (fun q2 H1 locs hszH1 hkH1 hS => ?_)
  have hcwH1 := hcw.kept (fun i hi => hkH1 _ (hcw.lt i hi))
  have hoH1 := ho.kept (hkH1 _ ho.lt)
  refine lv_astore (lv' := [(5, .ref q2), (0, .ref (u 0)), (1, .int (iI a)), (2, .int (iI n)), (3, .int (iI k)), (4, .ref o)]) hx hb dL_gap_20 hl (by decide) rfl (fun ls hl => ?_)
  refine q_con hx hb dL_gap_22 ?_
  exact e_i hx hb hr hlk hS dL_gap_23 (by first | exact Nat.le_of_ble_eq_true rfl | ((try dsimp only); omega)) (by first | exact Nat.le_of_ble_eq_true rfl | ((try dsimp only); omega)) ⟨rfl, hcwH1, hoH1⟩

set_option maxHeartbeats 4000000 in
set_option maxRecDepth 100000 in
theorem wn3_gap (θ : TH) (l : Launch) (hl0 : l.stackTraces = false) (S0 : State) (H : Heap) (u : Nat → Nat) (dt sy sm sd : Nat → Int) (bc rf kn : Int) (hw : CWR θ S0 u H dt sy sm sd bc rf kn) (hj : SJ θ S0 H) (hn : NX S0) (o : Nat) (nv : Int) (sv9 : Value) (ho : OB θ H o 8 [.long (lL nv), sv9]) (hod : ∀ i : Nat, i < 7 → o ≠ u i) (a n k : Int) (h_0 : -2147483648 ≤ a ∧ a < 2147483648) (h_1 : -2147483648 ≤ n ∧ n < 2147483648) (h_2 : -2147483648 ≤ k ∧ k < 2147483648) (h_3 : 0 ≤ a ∧ a < 6) (h_4 : -240000 ≤ n ∧ n ≤ 240000) (h_5 : ¬ (-100000 ≤ k ∧ k ≤ 100000)) : CTW l yL_gap cL_gap 6 (some .int) [((0 : Nat), (13 : Nat), (16 : Nat), (19 : Nat)), ((0 : Nat), (13 : Nat), (20 : Nat), (21 : Nat))] 8 136 1 6 [.ref (u 0), .int (iI a), .int (iI n), .int (iI k), .ref o] S0 H (fun v9 H1 => v9 = some (.int (iI 2)) ∧ CW θ u H1 dt sy sm sd bc rf kn ∧ OB θ H1 o 8 [.long (lL nv), sv9]) (fun x : Nat => UA u H.size x ∨ x = o) := by
  refine ctw_of (by decide +kernel) (Nat.le_of_ble_eq_true rfl) ?_
  intro pg en s mi args below meth co ls fx hs hr hlk htab hl
  subst hs
  obtain ⟨hx, hb, hml, hown, hts⟩ := id fx.1
  have hS : va_S (fun x : Nat => UA u s.heap.size x ∨ x = o) s.heap s.heap [] := va_S.rf
  obtain ⟨hz, hu, hcw, hd, hsp⟩ := id hw
  have hK := sz_K fx.2 hz
  refine lv_aload hx hb dL_gap_0 (lv_at hl 4 rfl) ?_
  refine lv_aload_n hx hb dL_gap_2 rfl (lv_at hl 0 rfl) ?_
  refine lv_iload_n hx hb dL_gap_3 rfl (lv_at hl 1 rfl) ?_
  refine lv_iload_n hx hb dL_gap_4 rfl (lv_at hl 2 rfl) ?_
  refine lv_iload_n hx hb dL_gap_5 rfl (lv_at hl 3 rfl) ?_
  refine c_VT (As := [.int (iI a), .int (iI n), .int (iI k)]) (rest := [.ref o]) (b := u 0) (C := RX1) (E := "java/lang/IllegalArgumentException") (name := "java/lang/IllegalArgumentException") (k := 1) (a0 := 0) (a1 := 13) (hpc := 20) (ct := 21) fx hl (no3_gap θ l hl0 S0 _ u _ _ _ _ _ _ _ hw a n k h_0 h_1 h_2 h_3 h_4 h_5) (ob_recv hK hcw.1 rfl) dL_gap_6 k898 k649 k650 k1 k651 hd_X1_gap rfl ⟨by decide, by decide⟩ (Nat.le_of_ble_eq_true rfl) ⟨by (try dsimp only); omega, by (try dsimp only); omega⟩ hS (fun x h => Or.inl (Or.inr h)) htab rfl ⟨by decide, by decide⟩ (by decide) k697 (nw_at (args := args) fx.2 hz.2.2.2.2.2.2.2.2.1 (by decide +kernel)) (by show ∀ q ∈ ([(0, 13, 16, 19)] : List (Nat × Nat × Nat × Nat)), _; exact List.forall_mem_cons.mpr ⟨⟨by decide, _, k696, hn.1.1⟩, fun q h => absurd h List.not_mem_nil⟩) (fun q2 H1 locs hszH1 hkH1 hS => ?_)
  have hcwH1 := hcw.kept (fun i hi => hkH1 _ (hcw.lt i hi))
  have hoH1 := ho.kept (hkH1 _ ho.lt)
  refine lv_astore (lv' := [(5, .ref q2), (0, .ref (u 0)), (1, .int (iI a)), (2, .int (iI n)), (3, .int (iI k)), (4, .ref o)]) hx hb dL_gap_20 hl (by decide) rfl (fun ls hl => ?_)
  refine q_con hx hb dL_gap_22 ?_
  exact e_i hx hb hr hlk hS dL_gap_23 (by first | exact Nat.le_of_ble_eq_true rfl | ((try dsimp only); omega)) (by first | exact Nat.le_of_ble_eq_true rfl | ((try dsimp only); omega)) ⟨rfl, hcwH1, hoH1⟩

set_option maxHeartbeats 4000000 in
set_option maxRecDepth 100000 in
theorem wr_lowest (θ : TH) (l : Launch) (hl0 : l.stackTraces = false) (S0 : State) (H : Heap) (u : Nat → Nat) (dt sy sm sd : Nat → Int) (bc rf kn : Int) (hw : CWR θ S0 u H dt sy sm sd bc rf kn) (hj : SJ θ S0 H) (hn : NX S0) (o : Nat) (nv : Int) (sv9 : Value) (ho : OB θ H o 8 [.long (lL nv), sv9]) (hod : ∀ i : Nat, i < 7 → o ≠ u i) (a n k : Int) (h_0 : -2147483648 ≤ a ∧ a < 2147483648) (h_1 : -2147483648 ≤ n ∧ n < 2147483648) (h_2 : -2147483648 ≤ k ∧ k < 2147483648) (h_3 : 0 ≤ a ∧ a < 6) (h_4 : -1200 ≤ n ∧ n ≤ 1200) (h_5 : 0 ≤ k ∧ k ≤ 48) : CTW l yL_lowest cL_lowest 6 (some .int) [((0 : Nat), (13 : Nat), (16 : Nat), (19 : Nat)), ((0 : Nat), (13 : Nat), (20 : Nat), (21 : Nat))] 5 117 0 0 [.ref (u 0), .int (iI a), .int (iI n), .int (iI k), .ref o] S0 H (fun v9 H1 => v9 = some (.int (iI 0)) ∧ CW θ u H1 dt sy sm sd bc rf kn ∧ ∃ z9 : Int, OB θ H1 o 8 [.long (lL z9), sv9]) (fun x : Nat => UA u H.size x ∨ x = o) := by
  refine ctw_of (by decide +kernel) (Nat.le_of_ble_eq_true rfl) ?_
  intro pg en s mi args below meth co ls fx hs hr hlk htab hl
  subst hs
  obtain ⟨hx, hb, hml, hown, hts⟩ := id fx.1
  have hS : va_S (fun x : Nat => UA u s.heap.size x ∨ x = o) s.heap s.heap [] := va_S.rf
  obtain ⟨hz, hu, hcw, hd, hsp⟩ := id hw
  have hK := sz_K fx.2 hz
  refine lv_aload hx hb dL_lowest_0 (lv_at hl 4 rfl) ?_
  refine lv_aload_n hx hb dL_lowest_2 rfl (lv_at hl 0 rfl) ?_
  refine lv_iload_n hx hb dL_lowest_3 rfl (lv_at hl 1 rfl) ?_
  refine lv_iload_n hx hb dL_lowest_4 rfl (lv_at hl 2 rfl) ?_
  refine lv_iload_n hx hb dL_lowest_5 rfl (lv_at hl 3 rfl) ?_
  refine c_IP (As := [.int (iI a), .int (iI n), .int (iI k)]) (rest := [.ref o]) (b := u 0) (C := RX1) fx hl (ok_lowest θ l hl0 S0 _ u _ _ _ _ _ _ _ hw a n k h_0 h_1 h_2 h_3 h_4 h_5) (ob_recv hK hcw.1 rfl) dL_lowest_6 k902 k903 k904 k1 k905 hd_X1_lowest rfl ⟨by decide, by decide⟩ (Nat.le_of_ble_eq_true rfl) ⟨by (try dsimp only); omega, by (try dsimp only); omega⟩ hS (fun _ h => h.elim) (fun z2 H1 locs hpH1 hszH1 hk0H1 hS => ?_)
  obtain rfl := hpH1.symm
  refine q_i2lx hx hb dL_lowest_9 ?_
  refine r_putN (θ := θ) (C := RX2) (T := TX2) (N := 2) (ci := 8) (v := .long (lL ((iI z2).toInt))) (ty := .long) hx hb hts gwX2 tyX2 tyX2_ok nmX2 hown hK ho (Or.inr rfl) hS rfl 0 (by decide) (va_Nw.use rfl (va_Nw.warmF fx.2 hn.2.1)) (fun _ h => h) rfl (by decide +kernel) rfl rfl (Nat.le_of_ble_eq_true rfl) dL_lowest_10 (fun H3 locs hqH3 hszH3 hkH3 hS => ?_)
  have hoH3 : OB θ H3 o 8 [.long (lL ((iI z2).toInt)), sv9] := hqH3
  have hcwH3 := hcw.kept (fun i hi => hkH3 _ (Ne.symm (hod i hi)))
  refine lv_goto (tgt := 24) hx hb dL_lowest_13 (by decide) ?_
  refine q_con hx hb dL_lowest_24 ?_
  exact e_i hx hb hr hlk hS dL_lowest_25 (by first | exact Nat.le_of_ble_eq_true rfl | ((try dsimp only); omega)) (by first | exact Nat.le_of_ble_eq_true rfl | ((try dsimp only); omega)) ⟨rfl, hcwH3, ⟨_, hoH3⟩⟩

set_option maxHeartbeats 4000000 in
set_option maxRecDepth 100000 in
theorem wn1_lowest (θ : TH) (l : Launch) (hl0 : l.stackTraces = false) (S0 : State) (H : Heap) (u : Nat → Nat) (dt sy sm sd : Nat → Int) (bc rf kn : Int) (hw : CWR θ S0 u H dt sy sm sd bc rf kn) (hj : SJ θ S0 H) (hn : NX S0) (o : Nat) (nv : Int) (sv9 : Value) (ho : OB θ H o 8 [.long (lL nv), sv9]) (hod : ∀ i : Nat, i < 7 → o ≠ u i) (a n k : Int) (h_0 : -2147483648 ≤ a ∧ a < 2147483648) (h_1 : -2147483648 ≤ n ∧ n < 2147483648) (h_2 : -2147483648 ≤ k ∧ k < 2147483648) (h_3 : ¬ (0 ≤ a ∧ a < 6)) : CTW l yL_lowest cL_lowest 6 (some .int) [((0 : Nat), (13 : Nat), (16 : Nat), (19 : Nat)), ((0 : Nat), (13 : Nat), (20 : Nat), (21 : Nat))] 8 135 1 6 [.ref (u 0), .int (iI a), .int (iI n), .int (iI k), .ref o] S0 H (fun v9 H1 => v9 = some (.int (iI 1)) ∧ CW θ u H1 dt sy sm sd bc rf kn ∧ OB θ H1 o 8 [.long (lL nv), sv9]) (fun x : Nat => UA u H.size x ∨ x = o) := by
  refine ctw_of (by decide +kernel) (Nat.le_of_ble_eq_true rfl) ?_
  intro pg en s mi args below meth co ls fx hs hr hlk htab hl
  subst hs
  obtain ⟨hx, hb, hml, hown, hts⟩ := id fx.1
  have hS : va_S (fun x : Nat => UA u s.heap.size x ∨ x = o) s.heap s.heap [] := va_S.rf
  obtain ⟨hz, hu, hcw, hd, hsp⟩ := id hw
  have hK := sz_K fx.2 hz
  refine lv_aload hx hb dL_lowest_0 (lv_at hl 4 rfl) ?_
  refine lv_aload_n hx hb dL_lowest_2 rfl (lv_at hl 0 rfl) ?_
  refine lv_iload_n hx hb dL_lowest_3 rfl (lv_at hl 1 rfl) ?_
  refine lv_iload_n hx hb dL_lowest_4 rfl (lv_at hl 2 rfl) ?_
  refine lv_iload_n hx hb dL_lowest_5 rfl (lv_at hl 3 rfl) ?_
  refine c_VT (As := [.int (iI a), .int (iI n), .int (iI k)]) (rest := [.ref o]) (b := u 0) (C := RX1) (E := "java/lang/IndexOutOfBoundsException") (name := "java/lang/IndexOutOfBoundsException") (k := 0) (a0 := 0) (a1 := 13) (hpc := 16) (ct := 19) fx hl (no1_lowest θ l hl0 S0 _ u _ _ _ _ _ _ _ hw a n k h_0 h_1 h_2 h_3) (ob_recv hK hcw.1 rfl) dL_lowest_6 k902 k903 k904 k1 k905 hd_X1_lowest rfl ⟨by decide, by decide⟩ (Nat.le_of_ble_eq_true rfl) ⟨by (try dsimp only); omega, by (try dsimp only); omega⟩ hS (fun x h => Or.inl (Or.inr h)) htab rfl ⟨by decide, by decide⟩ (by decide) k696 (nw_at (args := args) fx.2 hz.2.2.2.2.2.2.2.2.1 (by decide +kernel)) (by show ∀ q ∈ ([] : List (Nat × Nat × Nat × Nat)), _; exact fun q h => absurd h List.not_mem_nil) (fun q2 H1 locs hszH1 hkH1 hS => ?_)
  have hcwH1 := hcw.kept (fun i hi => hkH1 _ (hcw.lt i hi))
  have hoH1 := ho.kept (hkH1 _ ho.lt)
  refine lv_astore (lv' := [(5, .ref q2), (0, .ref (u 0)), (1, .int (iI a)), (2, .int (iI n)), (3, .int (iI k)), (4, .ref o)]) hx hb dL_lowest_16 hl (by decide) rfl (fun ls hl => ?_)
  refine q_con hx hb dL_lowest_18 ?_
  exact e_i hx hb hr hlk hS dL_lowest_19 (by first | exact Nat.le_of_ble_eq_true rfl | ((try dsimp only); omega)) (by first | exact Nat.le_of_ble_eq_true rfl | ((try dsimp only); omega)) ⟨rfl, hcwH1, hoH1⟩

set_option maxHeartbeats 4000000 in
set_option maxRecDepth 100000 in
theorem wn2_lowest (θ : TH) (l : Launch) (hl0 : l.stackTraces = false) (S0 : State) (H : Heap) (u : Nat → Nat) (dt sy sm sd : Nat → Int) (bc rf kn : Int) (hw : CWR θ S0 u H dt sy sm sd bc rf kn) (hj : SJ θ S0 H) (hn : NX S0) (o : Nat) (nv : Int) (sv9 : Value) (ho : OB θ H o 8 [.long (lL nv), sv9]) (hod : ∀ i : Nat, i < 7 → o ≠ u i) (a n k : Int) (h_0 : -2147483648 ≤ a ∧ a < 2147483648) (h_1 : -2147483648 ≤ n ∧ n < 2147483648) (h_2 : -2147483648 ≤ k ∧ k < 2147483648) (h_3 : 0 ≤ a ∧ a < 6) (h_4 : ¬ (-1200 ≤ n ∧ n ≤ 1200)) : CTW l yL_lowest cL_lowest 6 (some .int) [((0 : Nat), (13 : Nat), (16 : Nat), (19 : Nat)), ((0 : Nat), (13 : Nat), (20 : Nat), (21 : Nat))] 8 137 1 6 [.ref (u 0), .int (iI a), .int (iI n), .int (iI k), .ref o] S0 H (fun v9 H1 => v9 = some (.int (iI 2)) ∧ CW θ u H1 dt sy sm sd bc rf kn ∧ OB θ H1 o 8 [.long (lL nv), sv9]) (fun x : Nat => UA u H.size x ∨ x = o) := by
  refine ctw_of (by decide +kernel) (Nat.le_of_ble_eq_true rfl) ?_
  intro pg en s mi args below meth co ls fx hs hr hlk htab hl
  subst hs
  obtain ⟨hx, hb, hml, hown, hts⟩ := id fx.1
  have hS : va_S (fun x : Nat => UA u s.heap.size x ∨ x = o) s.heap s.heap [] := va_S.rf
  obtain ⟨hz, hu, hcw, hd, hsp⟩ := id hw
  have hK := sz_K fx.2 hz
  refine lv_aload hx hb dL_lowest_0 (lv_at hl 4 rfl) ?_
  refine lv_aload_n hx hb dL_lowest_2 rfl (lv_at hl 0 rfl) ?_
  refine lv_iload_n hx hb dL_lowest_3 rfl (lv_at hl 1 rfl) ?_
  refine lv_iload_n hx hb dL_lowest_4 rfl (lv_at hl 2 rfl) ?_
  refine lv_iload_n hx hb dL_lowest_5 rfl (lv_at hl 3 rfl) ?_
  refine c_VT (As := [.int (iI a), .int (iI n), .int (iI k)]) (rest := [.ref o]) (b := u 0) (C := RX1) (E := "java/lang/IllegalArgumentException") (name := "java/lang/IllegalArgumentException") (k := 1) (a0 := 0) (a1 := 13) (hpc := 20) (ct := 21) fx hl (no2_lowest θ l hl0 S0 _ u _ _ _ _ _ _ _ hw a n k h_0 h_1 h_2 h_3 h_4) (ob_recv hK hcw.1 rfl) dL_lowest_6 k902 k903 k904 k1 k905 hd_X1_lowest rfl ⟨by decide, by decide⟩ (Nat.le_of_ble_eq_true rfl) ⟨by (try dsimp only); omega, by (try dsimp only); omega⟩ hS (fun x h => Or.inl (Or.inr h)) htab rfl ⟨by decide, by decide⟩ (by decide) k697 (nw_at (args := args) fx.2 hz.2.2.2.2.2.2.2.2.1 (by decide +kernel)) (by show ∀ q ∈ ([(0, 13, 16, 19)] : List (Nat × Nat × Nat × Nat)), _; exact List.forall_mem_cons.mpr ⟨⟨by decide, _, k696, hn.1.1⟩, fun q h => absurd h List.not_mem_nil⟩) (fun q2 H1 locs hszH1 hkH1 hS => ?_)
  have hcwH1 := hcw.kept (fun i hi => hkH1 _ (hcw.lt i hi))
  have hoH1 := ho.kept (hkH1 _ ho.lt)
  refine lv_astore (lv' := [(5, .ref q2), (0, .ref (u 0)), (1, .int (iI a)), (2, .int (iI n)), (3, .int (iI k)), (4, .ref o)]) hx hb dL_lowest_20 hl (by decide) rfl (fun ls hl => ?_)
  refine q_con hx hb dL_lowest_22 ?_
  exact e_i hx hb hr hlk hS dL_lowest_23 (by first | exact Nat.le_of_ble_eq_true rfl | ((try dsimp only); omega)) (by first | exact Nat.le_of_ble_eq_true rfl | ((try dsimp only); omega)) ⟨rfl, hcwH1, hoH1⟩

set_option maxHeartbeats 4000000 in
set_option maxRecDepth 100000 in
theorem wn3_lowest (θ : TH) (l : Launch) (hl0 : l.stackTraces = false) (S0 : State) (H : Heap) (u : Nat → Nat) (dt sy sm sd : Nat → Int) (bc rf kn : Int) (hw : CWR θ S0 u H dt sy sm sd bc rf kn) (hj : SJ θ S0 H) (hn : NX S0) (o : Nat) (nv : Int) (sv9 : Value) (ho : OB θ H o 8 [.long (lL nv), sv9]) (hod : ∀ i : Nat, i < 7 → o ≠ u i) (a n k : Int) (h_0 : -2147483648 ≤ a ∧ a < 2147483648) (h_1 : -2147483648 ≤ n ∧ n < 2147483648) (h_2 : -2147483648 ≤ k ∧ k < 2147483648) (h_3 : 0 ≤ a ∧ a < 6) (h_4 : -1200 ≤ n ∧ n ≤ 1200) (h_5 : ¬ (0 ≤ k ∧ k ≤ 48)) : CTW l yL_lowest cL_lowest 6 (some .int) [((0 : Nat), (13 : Nat), (16 : Nat), (19 : Nat)), ((0 : Nat), (13 : Nat), (20 : Nat), (21 : Nat))] 8 137 1 6 [.ref (u 0), .int (iI a), .int (iI n), .int (iI k), .ref o] S0 H (fun v9 H1 => v9 = some (.int (iI 2)) ∧ CW θ u H1 dt sy sm sd bc rf kn ∧ OB θ H1 o 8 [.long (lL nv), sv9]) (fun x : Nat => UA u H.size x ∨ x = o) := by
  refine ctw_of (by decide +kernel) (Nat.le_of_ble_eq_true rfl) ?_
  intro pg en s mi args below meth co ls fx hs hr hlk htab hl
  subst hs
  obtain ⟨hx, hb, hml, hown, hts⟩ := id fx.1
  have hS : va_S (fun x : Nat => UA u s.heap.size x ∨ x = o) s.heap s.heap [] := va_S.rf
  obtain ⟨hz, hu, hcw, hd, hsp⟩ := id hw
  have hK := sz_K fx.2 hz
  refine lv_aload hx hb dL_lowest_0 (lv_at hl 4 rfl) ?_
  refine lv_aload_n hx hb dL_lowest_2 rfl (lv_at hl 0 rfl) ?_
  refine lv_iload_n hx hb dL_lowest_3 rfl (lv_at hl 1 rfl) ?_
  refine lv_iload_n hx hb dL_lowest_4 rfl (lv_at hl 2 rfl) ?_
  refine lv_iload_n hx hb dL_lowest_5 rfl (lv_at hl 3 rfl) ?_
  refine c_VT (As := [.int (iI a), .int (iI n), .int (iI k)]) (rest := [.ref o]) (b := u 0) (C := RX1) (E := "java/lang/IllegalArgumentException") (name := "java/lang/IllegalArgumentException") (k := 1) (a0 := 0) (a1 := 13) (hpc := 20) (ct := 21) fx hl (no3_lowest θ l hl0 S0 _ u _ _ _ _ _ _ _ hw a n k h_0 h_1 h_2 h_3 h_4 h_5) (ob_recv hK hcw.1 rfl) dL_lowest_6 k902 k903 k904 k1 k905 hd_X1_lowest rfl ⟨by decide, by decide⟩ (Nat.le_of_ble_eq_true rfl) ⟨by (try dsimp only); omega, by (try dsimp only); omega⟩ hS (fun x h => Or.inl (Or.inr h)) htab rfl ⟨by decide, by decide⟩ (by decide) k697 (nw_at (args := args) fx.2 hz.2.2.2.2.2.2.2.2.1 (by decide +kernel)) (by show ∀ q ∈ ([(0, 13, 16, 19)] : List (Nat × Nat × Nat × Nat)), _; exact List.forall_mem_cons.mpr ⟨⟨by decide, _, k696, hn.1.1⟩, fun q h => absurd h List.not_mem_nil⟩) (fun q2 H1 locs hszH1 hkH1 hS => ?_)
  have hcwH1 := hcw.kept (fun i hi => hkH1 _ (hcw.lt i hi))
  have hoH1 := ho.kept (hkH1 _ ho.lt)
  refine lv_astore (lv' := [(5, .ref q2), (0, .ref (u 0)), (1, .int (iI a)), (2, .int (iI n)), (3, .int (iI k)), (4, .ref o)]) hx hb dL_lowest_20 hl (by decide) rfl (fun ls hl => ?_)
  refine q_con hx hb dL_lowest_22 ?_
  exact e_i hx hb hr hlk hS dL_lowest_23 (by first | exact Nat.le_of_ble_eq_true rfl | ((try dsimp only); omega)) (by first | exact Nat.le_of_ble_eq_true rfl | ((try dsimp only); omega)) ⟨rfl, hcwH1, hoH1⟩

set_option maxHeartbeats 4000000 in
set_option maxRecDepth 100000 in
theorem wr_met (θ : TH) (l : Launch) (hl0 : l.stackTraces = false) (S0 : State) (H : Heap) (u : Nat → Nat) (dt sy sm sd : Nat → Int) (bc rf kn : Int) (hw : CWR θ S0 u H dt sy sm sd bc rf kn) (hj : SJ θ S0 H) (hn : NX S0) (o : Nat) (nv : Int) (sv9 : Value) (ho : OB θ H o 8 [.long (lL nv), sv9]) (hod : ∀ i : Nat, i < 7 → o ≠ u i) (a n k : Int) (h_0 : 0 ≤ a ∧ a < 6) (h_1 : -1200 ≤ n ∧ n ≤ 1200) (h_2 : 0 ≤ k ∧ k ≤ 48) : CTW l yL_met cL_met 6 (some .int) [((0 : Nat), (12 : Nat), (15 : Nat), (19 : Nat)), ((0 : Nat), (12 : Nat), (19 : Nat), (21 : Nat))] 7 198 2 20 [.ref (u 0), .int (iI a), .int (iI n), .int (iI k), .ref o] S0 H (fun v9 H1 => v9 = some (.int (iI 0)) ∧ CW θ u H1 dt sy sm sd bc rf kn ∧ ∃ a9 : Nat, OB θ H1 o 8 [.long (lL nv), .ref a9]) (fun x : Nat => UA u H.size x ∨ x = o) := by
  refine ctw_of (by decide +kernel) (Nat.le_of_ble_eq_true rfl) ?_
  intro pg en s mi args below meth co ls fx hs hr hlk htab hl
  subst hs
  obtain ⟨hx, hb, hml, hown, hts⟩ := id fx.1
  have hS : va_S (fun x : Nat => UA u s.heap.size x ∨ x = o) s.heap s.heap [] := va_S.rf
  obtain ⟨hz, hu, hcw, hd, hsp⟩ := id hw
  have hK := sz_K fx.2 hz
  refine lv_aload hx hb dL_met_0 (lv_at hl 4 rfl) ?_
  refine lv_aload_n hx hb dL_met_2 rfl (lv_at hl 0 rfl) ?_
  refine lv_iload_n hx hb dL_met_3 rfl (lv_at hl 1 rfl) ?_
  refine lv_iload_n hx hb dL_met_4 rfl (lv_at hl 2 rfl) ?_
  refine lv_iload_n hx hb dL_met_5 rfl (lv_at hl 3 rfl) ?_
  refine c_Vr (As := [.int (iI a), .int (iI n), .int (iI k)]) (rest := [.ref o]) (b := u 0) (C := RX1) (r := some (.ref s.heap.size)) (st1 := [.ref s.heap.size, .ref o]) fx hl (ok_met θ l hl0 S0 _ u _ _ _ _ _ _ _ hw hj a n k h_0 h_1 h_2) (ob_recv hK hcw.1 rfl) dL_met_6 k909 k910 k911 k1 k912 hd_X1_met rfl rfl ⟨by decide, by decide⟩ (Nat.le_of_ble_eq_true rfl) ⟨by (try dsimp only); omega, by (try dsimp only); omega⟩ hS (fun x h => Or.inl (h.elim (fun e => Or.inl ⟨5, by decide, e⟩) (fun h => h.elim (fun e => Or.inl ⟨6, by decide, e⟩) Or.inr))) (fun H1 locs hpH1 hszH1 hk0H1 hS => ?_)
  have hoH1 := ho.kept (hk0H1 _ ho.lt (fun h => h.elim (fun e => hod 5 (by decide) e) (fun h => h.elim (fun e => hod 6 (by decide) e) (fun h => Nat.not_le.mpr ho.lt h))))
  have hcwH1 := hpH1.1
  refine r_putN (θ := θ) (C := RX2) (T := TX2) (N := 2) (ci := 8) (v := .ref s.heap.size) (ty := .object "java/lang/String") hx hb hts gwX2 tyX2 tyX2_ok nmX2 hown hK hoH1 (Or.inr rfl) hS rfl 1 (by decide) (va_Nw.use rfl (va_Nw.warmF fx.2 hn.2.2)) (fun _ h => h) rfl (by decide +kernel) rfl rfl (Nat.le_of_ble_eq_true rfl) dL_met_9 (fun H2 locs hqH2 hszH2 hkH2 hS => ?_)
  have hoH2 : OB θ H2 o 8 [.long (lL nv), .ref s.heap.size] := hqH2
  have hcwH2 := hcwH1.kept (fun i hi => hkH2 _ (Ne.symm (hod i hi)))
  refine lv_goto (tgt := 23) hx hb dL_met_12 (by decide) ?_
  refine q_con hx hb dL_met_23 ?_
  exact e_i hx hb hr hlk hS dL_met_24 (by first | exact Nat.le_of_ble_eq_true rfl | ((try dsimp only); omega)) (by first | exact Nat.le_of_ble_eq_true rfl | ((try dsimp only); omega)) ⟨rfl, hcwH2, ⟨_, hoH2⟩⟩

set_option maxHeartbeats 4000000 in
set_option maxRecDepth 100000 in
theorem wn1_met (θ : TH) (l : Launch) (hl0 : l.stackTraces = false) (S0 : State) (H : Heap) (u : Nat → Nat) (dt sy sm sd : Nat → Int) (bc rf kn : Int) (hw : CWR θ S0 u H dt sy sm sd bc rf kn) (hj : SJ θ S0 H) (hn : NX S0) (o : Nat) (nv : Int) (sv9 : Value) (ho : OB θ H o 8 [.long (lL nv), sv9]) (hod : ∀ i : Nat, i < 7 → o ≠ u i) (a n k : Int) (h_0 : -2147483648 ≤ a ∧ a < 2147483648) (h_1 : -2147483648 ≤ n ∧ n < 2147483648) (h_2 : -2147483648 ≤ k ∧ k < 2147483648) (h_3 : ¬ (0 ≤ a ∧ a < 6)) : CTW l yL_met cL_met 6 (some .int) [((0 : Nat), (12 : Nat), (15 : Nat), (19 : Nat)), ((0 : Nat), (12 : Nat), (19 : Nat), (21 : Nat))] 8 137 1 6 [.ref (u 0), .int (iI a), .int (iI n), .int (iI k), .ref o] S0 H (fun v9 H1 => v9 = some (.int (iI 1)) ∧ CW θ u H1 dt sy sm sd bc rf kn ∧ OB θ H1 o 8 [.long (lL nv), sv9]) (fun x : Nat => UA u H.size x ∨ x = o) := by
  refine ctw_of (by decide +kernel) (Nat.le_of_ble_eq_true rfl) ?_
  intro pg en s mi args below meth co ls fx hs hr hlk htab hl
  subst hs
  obtain ⟨hx, hb, hml, hown, hts⟩ := id fx.1
  have hS : va_S (fun x : Nat => UA u s.heap.size x ∨ x = o) s.heap s.heap [] := va_S.rf
  obtain ⟨hz, hu, hcw, hd, hsp⟩ := id hw
  have hK := sz_K fx.2 hz
  refine lv_aload hx hb dL_met_0 (lv_at hl 4 rfl) ?_
  refine lv_aload_n hx hb dL_met_2 rfl (lv_at hl 0 rfl) ?_
  refine lv_iload_n hx hb dL_met_3 rfl (lv_at hl 1 rfl) ?_
  refine lv_iload_n hx hb dL_met_4 rfl (lv_at hl 2 rfl) ?_
  refine lv_iload_n hx hb dL_met_5 rfl (lv_at hl 3 rfl) ?_
  refine c_VT (As := [.int (iI a), .int (iI n), .int (iI k)]) (rest := [.ref o]) (b := u 0) (C := RX1) (E := "java/lang/IndexOutOfBoundsException") (name := "java/lang/IndexOutOfBoundsException") (k := 0) (a0 := 0) (a1 := 12) (hpc := 15) (ct := 19) fx hl (no1_met θ l hl0 S0 _ u _ _ _ _ _ _ _ hw a n k h_0 h_1 h_2 h_3) (ob_recv hK hcw.1 rfl) dL_met_6 k909 k910 k911 k1 k912 hd_X1_met rfl ⟨by decide, by decide⟩ (Nat.le_of_ble_eq_true rfl) ⟨by (try dsimp only); omega, by (try dsimp only); omega⟩ hS (fun x h => Or.inl (Or.inr h)) htab rfl ⟨by decide, by decide⟩ (by decide) k696 (nw_at (args := args) fx.2 hz.2.2.2.2.2.2.2.2.1 (by decide +kernel)) (by show ∀ q ∈ ([] : List (Nat × Nat × Nat × Nat)), _; exact fun q h => absurd h List.not_mem_nil) (fun q2 H1 locs hszH1 hkH1 hS => ?_)
  have hcwH1 := hcw.kept (fun i hi => hkH1 _ (hcw.lt i hi))
  have hoH1 := ho.kept (hkH1 _ ho.lt)
  refine lv_astore (lv' := [(5, .ref q2), (0, .ref (u 0)), (1, .int (iI a)), (2, .int (iI n)), (3, .int (iI k)), (4, .ref o)]) hx hb dL_met_15 hl (by decide) rfl (fun ls hl => ?_)
  refine q_con hx hb dL_met_17 ?_
  exact e_i hx hb hr hlk hS dL_met_18 (by first | exact Nat.le_of_ble_eq_true rfl | ((try dsimp only); omega)) (by first | exact Nat.le_of_ble_eq_true rfl | ((try dsimp only); omega)) ⟨rfl, hcwH1, hoH1⟩

set_option maxHeartbeats 4000000 in
set_option maxRecDepth 100000 in
theorem wn2_met (θ : TH) (l : Launch) (hl0 : l.stackTraces = false) (S0 : State) (H : Heap) (u : Nat → Nat) (dt sy sm sd : Nat → Int) (bc rf kn : Int) (hw : CWR θ S0 u H dt sy sm sd bc rf kn) (hj : SJ θ S0 H) (hn : NX S0) (o : Nat) (nv : Int) (sv9 : Value) (ho : OB θ H o 8 [.long (lL nv), sv9]) (hod : ∀ i : Nat, i < 7 → o ≠ u i) (a n k : Int) (h_0 : -2147483648 ≤ a ∧ a < 2147483648) (h_1 : -2147483648 ≤ n ∧ n < 2147483648) (h_2 : -2147483648 ≤ k ∧ k < 2147483648) (h_3 : 0 ≤ a ∧ a < 6) (h_4 : ¬ (-1200 ≤ n ∧ n ≤ 1200)) : CTW l yL_met cL_met 6 (some .int) [((0 : Nat), (12 : Nat), (15 : Nat), (19 : Nat)), ((0 : Nat), (12 : Nat), (19 : Nat), (21 : Nat))] 8 139 1 6 [.ref (u 0), .int (iI a), .int (iI n), .int (iI k), .ref o] S0 H (fun v9 H1 => v9 = some (.int (iI 2)) ∧ CW θ u H1 dt sy sm sd bc rf kn ∧ OB θ H1 o 8 [.long (lL nv), sv9]) (fun x : Nat => UA u H.size x ∨ x = o) := by
  refine ctw_of (by decide +kernel) (Nat.le_of_ble_eq_true rfl) ?_
  intro pg en s mi args below meth co ls fx hs hr hlk htab hl
  subst hs
  obtain ⟨hx, hb, hml, hown, hts⟩ := id fx.1
  have hS : va_S (fun x : Nat => UA u s.heap.size x ∨ x = o) s.heap s.heap [] := va_S.rf
  obtain ⟨hz, hu, hcw, hd, hsp⟩ := id hw
  have hK := sz_K fx.2 hz
  refine lv_aload hx hb dL_met_0 (lv_at hl 4 rfl) ?_
  refine lv_aload_n hx hb dL_met_2 rfl (lv_at hl 0 rfl) ?_
  refine lv_iload_n hx hb dL_met_3 rfl (lv_at hl 1 rfl) ?_
  refine lv_iload_n hx hb dL_met_4 rfl (lv_at hl 2 rfl) ?_
  refine lv_iload_n hx hb dL_met_5 rfl (lv_at hl 3 rfl) ?_
  refine c_VT (As := [.int (iI a), .int (iI n), .int (iI k)]) (rest := [.ref o]) (b := u 0) (C := RX1) (E := "java/lang/IllegalArgumentException") (name := "java/lang/IllegalArgumentException") (k := 1) (a0 := 0) (a1 := 12) (hpc := 19) (ct := 21) fx hl (no2_met θ l hl0 S0 _ u _ _ _ _ _ _ _ hw a n k h_0 h_1 h_2 h_3 h_4) (ob_recv hK hcw.1 rfl) dL_met_6 k909 k910 k911 k1 k912 hd_X1_met rfl ⟨by decide, by decide⟩ (Nat.le_of_ble_eq_true rfl) ⟨by (try dsimp only); omega, by (try dsimp only); omega⟩ hS (fun x h => Or.inl (Or.inr h)) htab rfl ⟨by decide, by decide⟩ (by decide) k697 (nw_at (args := args) fx.2 hz.2.2.2.2.2.2.2.2.1 (by decide +kernel)) (by show ∀ q ∈ ([(0, 12, 15, 19)] : List (Nat × Nat × Nat × Nat)), _; exact List.forall_mem_cons.mpr ⟨⟨by decide, _, k696, hn.1.1⟩, fun q h => absurd h List.not_mem_nil⟩) (fun q2 H1 locs hszH1 hkH1 hS => ?_)
  have hcwH1 := hcw.kept (fun i hi => hkH1 _ (hcw.lt i hi))
  have hoH1 := ho.kept (hkH1 _ ho.lt)
  refine lv_astore (lv' := [(5, .ref q2), (0, .ref (u 0)), (1, .int (iI a)), (2, .int (iI n)), (3, .int (iI k)), (4, .ref o)]) hx hb dL_met_19 hl (by decide) rfl (fun ls hl => ?_)
  refine q_con hx hb dL_met_21 ?_
  exact e_i hx hb hr hlk hS dL_met_22 (by first | exact Nat.le_of_ble_eq_true rfl | ((try dsimp only); omega)) (by first | exact Nat.le_of_ble_eq_true rfl | ((try dsimp only); omega)) ⟨rfl, hcwH1, hoH1⟩

set_option maxHeartbeats 4000000 in
set_option maxRecDepth 100000 in
theorem wn3_met (θ : TH) (l : Launch) (hl0 : l.stackTraces = false) (S0 : State) (H : Heap) (u : Nat → Nat) (dt sy sm sd : Nat → Int) (bc rf kn : Int) (hw : CWR θ S0 u H dt sy sm sd bc rf kn) (hj : SJ θ S0 H) (hn : NX S0) (o : Nat) (nv : Int) (sv9 : Value) (ho : OB θ H o 8 [.long (lL nv), sv9]) (hod : ∀ i : Nat, i < 7 → o ≠ u i) (a n k : Int) (h_0 : -2147483648 ≤ a ∧ a < 2147483648) (h_1 : -2147483648 ≤ n ∧ n < 2147483648) (h_2 : -2147483648 ≤ k ∧ k < 2147483648) (h_3 : 0 ≤ a ∧ a < 6) (h_4 : -1200 ≤ n ∧ n ≤ 1200) (h_5 : ¬ (0 ≤ k ∧ k ≤ 48)) : CTW l yL_met cL_met 6 (some .int) [((0 : Nat), (12 : Nat), (15 : Nat), (19 : Nat)), ((0 : Nat), (12 : Nat), (19 : Nat), (21 : Nat))] 8 139 1 6 [.ref (u 0), .int (iI a), .int (iI n), .int (iI k), .ref o] S0 H (fun v9 H1 => v9 = some (.int (iI 2)) ∧ CW θ u H1 dt sy sm sd bc rf kn ∧ OB θ H1 o 8 [.long (lL nv), sv9]) (fun x : Nat => UA u H.size x ∨ x = o) := by
  refine ctw_of (by decide +kernel) (Nat.le_of_ble_eq_true rfl) ?_
  intro pg en s mi args below meth co ls fx hs hr hlk htab hl
  subst hs
  obtain ⟨hx, hb, hml, hown, hts⟩ := id fx.1
  have hS : va_S (fun x : Nat => UA u s.heap.size x ∨ x = o) s.heap s.heap [] := va_S.rf
  obtain ⟨hz, hu, hcw, hd, hsp⟩ := id hw
  have hK := sz_K fx.2 hz
  refine lv_aload hx hb dL_met_0 (lv_at hl 4 rfl) ?_
  refine lv_aload_n hx hb dL_met_2 rfl (lv_at hl 0 rfl) ?_
  refine lv_iload_n hx hb dL_met_3 rfl (lv_at hl 1 rfl) ?_
  refine lv_iload_n hx hb dL_met_4 rfl (lv_at hl 2 rfl) ?_
  refine lv_iload_n hx hb dL_met_5 rfl (lv_at hl 3 rfl) ?_
  refine c_VT (As := [.int (iI a), .int (iI n), .int (iI k)]) (rest := [.ref o]) (b := u 0) (C := RX1) (E := "java/lang/IllegalArgumentException") (name := "java/lang/IllegalArgumentException") (k := 1) (a0 := 0) (a1 := 12) (hpc := 19) (ct := 21) fx hl (no3_met θ l hl0 S0 _ u _ _ _ _ _ _ _ hw a n k h_0 h_1 h_2 h_3 h_4 h_5) (ob_recv hK hcw.1 rfl) dL_met_6 k909 k910 k911 k1 k912 hd_X1_met rfl ⟨by decide, by decide⟩ (Nat.le_of_ble_eq_true rfl) ⟨by (try dsimp only); omega, by (try dsimp only); omega⟩ hS (fun x h => Or.inl (Or.inr h)) htab rfl ⟨by decide, by decide⟩ (by decide) k697 (nw_at (args := args) fx.2 hz.2.2.2.2.2.2.2.2.1 (by decide +kernel)) (by show ∀ q ∈ ([(0, 12, 15, 19)] : List (Nat × Nat × Nat × Nat)), _; exact List.forall_mem_cons.mpr ⟨⟨by decide, _, k696, hn.1.1⟩, fun q h => absurd h List.not_mem_nil⟩) (fun q2 H1 locs hszH1 hkH1 hS => ?_)
  have hcwH1 := hcw.kept (fun i hi => hkH1 _ (hcw.lt i hi))
  have hoH1 := ho.kept (hkH1 _ ho.lt)
  refine lv_astore (lv' := [(5, .ref q2), (0, .ref (u 0)), (1, .int (iI a)), (2, .int (iI n)), (3, .int (iI k)), (4, .ref o)]) hx hb dL_met_19 hl (by decide) rfl (fun ls hl => ?_)
  refine q_con hx hb dL_met_21 ?_
  exact e_i hx hb hr hlk hS dL_met_22 (by first | exact Nat.le_of_ble_eq_true rfl | ((try dsimp only); omega)) (by first | exact Nat.le_of_ble_eq_true rfl | ((try dsimp only); omega)) ⟨rfl, hcwH1, hoH1⟩

set_option maxHeartbeats 4000000 in
set_option maxRecDepth 100000 in
theorem wr_keeps (θ : TH) (l : Launch) (hl0 : l.stackTraces = false) (S0 : State) (H : Heap) (u : Nat → Nat) (dt sy sm sd : Nat → Int) (bc rf kn : Int) (hw : CWR θ S0 u H dt sy sm sd bc rf kn) (hj : SJ θ S0 H) (hn : NX S0) (o : Nat) (nv : Int) (sv9 : Value) (ho : OB θ H o 8 [.long (lL nv), sv9]) (hod : ∀ i : Nat, i < 7 → o ≠ u i) (a n : Int) (h_0 : -2147483648 ≤ a ∧ a < 2147483648) (h_1 : -2147483648 ≤ n ∧ n < 2147483648) (h_2 : 0 ≤ a ∧ a < 6) (h_3 : -1200 ≤ n ∧ n ≤ 1200) : CTW l yL_keeps cL_keeps 5 (some .int) [((0 : Nat), (11 : Nat), (14 : Nat), (19 : Nat)), ((0 : Nat), (11 : Nat), (18 : Nat), (21 : Nat))] 6 137 0 0 [.ref (u 0), .int (iI a), .int (iI n), .ref o] S0 H (fun v9 H1 => v9 = some (.int (iI 0)) ∧ CW θ u H1 dt sy sm sd bc rf kn ∧ ∃ z9 : Int, OB θ H1 o 8 [.long (lL z9), sv9]) (fun x : Nat => UA u H.size x ∨ x = o) := by
  refine ctw_of (by decide +kernel) (Nat.le_of_ble_eq_true rfl) ?_
  intro pg en s mi args below meth co ls fx hs hr hlk htab hl
  subst hs
  obtain ⟨hx, hb, hml, hown, hts⟩ := id fx.1
  have hS : va_S (fun x : Nat => UA u s.heap.size x ∨ x = o) s.heap s.heap [] := va_S.rf
  obtain ⟨hz, hu, hcw, hd, hsp⟩ := id hw
  have hK := sz_K fx.2 hz
  refine lv_aload_n hx hb dL_keeps_0 rfl (lv_at hl 3 rfl) ?_
  refine lv_aload_n hx hb dL_keeps_1 rfl (lv_at hl 0 rfl) ?_
  refine lv_iload_n hx hb dL_keeps_2 rfl (lv_at hl 1 rfl) ?_
  refine lv_iload_n hx hb dL_keeps_3 rfl (lv_at hl 2 rfl) ?_
  refine c_IP (As := [.int (iI a), .int (iI n)]) (rest := [.ref o]) (b := u 0) (C := RX1) fx hl (ok_keeps θ l hl0 S0 _ u _ _ _ _ _ _ _ hw a n h_0 h_1 h_2 h_3) (ob_recv hK hcw.1 rfl) dL_keeps_4 k916 k917 k918 k1 k919 hd_X1_keeps rfl ⟨by decide, by decide⟩ (Nat.le_of_ble_eq_true rfl) ⟨by (try dsimp only); omega, by (try dsimp only); omega⟩ hS (fun _ h => h.elim) (fun z2 H1 locs hpH1 hszH1 hk0H1 hS => ?_)
  obtain rfl := hpH1.symm
  refine q_i2lx hx hb dL_keeps_7 ?_
  refine r_putN (θ := θ) (C := RX2) (T := TX2) (N := 2) (ci := 8) (v := .long (lL ((iI z2).toInt))) (ty := .long) hx hb hts gwX2 tyX2 tyX2_ok nmX2 hown hK ho (Or.inr rfl) hS rfl 0 (by decide) (va_Nw.use rfl (va_Nw.warmF fx.2 hn.2.1)) (fun _ h => h) rfl (by decide +kernel) rfl rfl (Nat.le_of_ble_eq_true rfl) dL_keeps_8 (fun H3 locs hqH3 hszH3 hkH3 hS => ?_)
  have hoH3 : OB θ H3 o 8 [.long (lL ((iI z2).toInt)), sv9] := hqH3
  have hcwH3 := hcw.kept (fun i hi => hkH3 _ (Ne.symm (hod i hi)))
  refine lv_goto (tgt := 22) hx hb dL_keeps_11 (by decide) ?_
  refine q_con hx hb dL_keeps_22 ?_
  exact e_i hx hb hr hlk hS dL_keeps_23 (by first | exact Nat.le_of_ble_eq_true rfl | ((try dsimp only); omega)) (by first | exact Nat.le_of_ble_eq_true rfl | ((try dsimp only); omega)) ⟨rfl, hcwH3, ⟨_, hoH3⟩⟩

set_option maxHeartbeats 4000000 in
set_option maxRecDepth 100000 in
theorem wn1_keeps (θ : TH) (l : Launch) (hl0 : l.stackTraces = false) (S0 : State) (H : Heap) (u : Nat → Nat) (dt sy sm sd : Nat → Int) (bc rf kn : Int) (hw : CWR θ S0 u H dt sy sm sd bc rf kn) (hj : SJ θ S0 H) (hn : NX S0) (o : Nat) (nv : Int) (sv9 : Value) (ho : OB θ H o 8 [.long (lL nv), sv9]) (hod : ∀ i : Nat, i < 7 → o ≠ u i) (a n : Int) (h_0 : -2147483648 ≤ a ∧ a < 2147483648) (h_1 : -2147483648 ≤ n ∧ n < 2147483648) (h_2 : ¬ (0 ≤ a ∧ a < 6)) : CTW l yL_keeps cL_keeps 5 (some .int) [((0 : Nat), (11 : Nat), (14 : Nat), (19 : Nat)), ((0 : Nat), (11 : Nat), (18 : Nat), (21 : Nat))] 8 134 1 6 [.ref (u 0), .int (iI a), .int (iI n), .ref o] S0 H (fun v9 H1 => v9 = some (.int (iI 1)) ∧ CW θ u H1 dt sy sm sd bc rf kn ∧ OB θ H1 o 8 [.long (lL nv), sv9]) (fun x : Nat => UA u H.size x ∨ x = o) := by
  refine ctw_of (by decide +kernel) (Nat.le_of_ble_eq_true rfl) ?_
  intro pg en s mi args below meth co ls fx hs hr hlk htab hl
  subst hs
  obtain ⟨hx, hb, hml, hown, hts⟩ := id fx.1
  have hS : va_S (fun x : Nat => UA u s.heap.size x ∨ x = o) s.heap s.heap [] := va_S.rf
  obtain ⟨hz, hu, hcw, hd, hsp⟩ := id hw
  have hK := sz_K fx.2 hz
  refine lv_aload_n hx hb dL_keeps_0 rfl (lv_at hl 3 rfl) ?_
  refine lv_aload_n hx hb dL_keeps_1 rfl (lv_at hl 0 rfl) ?_
  refine lv_iload_n hx hb dL_keeps_2 rfl (lv_at hl 1 rfl) ?_
  refine lv_iload_n hx hb dL_keeps_3 rfl (lv_at hl 2 rfl) ?_
  refine c_VT (As := [.int (iI a), .int (iI n)]) (rest := [.ref o]) (b := u 0) (C := RX1) (E := "java/lang/IndexOutOfBoundsException") (name := "java/lang/IndexOutOfBoundsException") (k := 0) (a0 := 0) (a1 := 11) (hpc := 14) (ct := 19) fx hl (no1_keeps θ l hl0 S0 _ u _ _ _ _ _ _ _ hw a n h_0 h_1 h_2) (ob_recv hK hcw.1 rfl) dL_keeps_4 k916 k917 k918 k1 k919 hd_X1_keeps rfl ⟨by decide, by decide⟩ (Nat.le_of_ble_eq_true rfl) ⟨by (try dsimp only); omega, by (try dsimp only); omega⟩ hS (fun x h => Or.inl (Or.inr h)) htab rfl ⟨by decide, by decide⟩ (by decide) k696 (nw_at (args := args) fx.2 hz.2.2.2.2.2.2.2.2.1 (by decide +kernel)) (by show ∀ q ∈ ([] : List (Nat × Nat × Nat × Nat)), _; exact fun q h => absurd h List.not_mem_nil) (fun q2 H1 locs hszH1 hkH1 hS => ?_)
  have hcwH1 := hcw.kept (fun i hi => hkH1 _ (hcw.lt i hi))
  have hoH1 := ho.kept (hkH1 _ ho.lt)
  refine lv_astore (lv' := [(4, .ref q2), (0, .ref (u 0)), (1, .int (iI a)), (2, .int (iI n)), (3, .ref o)]) hx hb dL_keeps_14 hl (by decide) rfl (fun ls hl => ?_)
  refine q_con hx hb dL_keeps_16 ?_
  exact e_i hx hb hr hlk hS dL_keeps_17 (by first | exact Nat.le_of_ble_eq_true rfl | ((try dsimp only); omega)) (by first | exact Nat.le_of_ble_eq_true rfl | ((try dsimp only); omega)) ⟨rfl, hcwH1, hoH1⟩

set_option maxHeartbeats 4000000 in
set_option maxRecDepth 100000 in
theorem wn2_keeps (θ : TH) (l : Launch) (hl0 : l.stackTraces = false) (S0 : State) (H : Heap) (u : Nat → Nat) (dt sy sm sd : Nat → Int) (bc rf kn : Int) (hw : CWR θ S0 u H dt sy sm sd bc rf kn) (hj : SJ θ S0 H) (hn : NX S0) (o : Nat) (nv : Int) (sv9 : Value) (ho : OB θ H o 8 [.long (lL nv), sv9]) (hod : ∀ i : Nat, i < 7 → o ≠ u i) (a n : Int) (h_0 : -2147483648 ≤ a ∧ a < 2147483648) (h_1 : -2147483648 ≤ n ∧ n < 2147483648) (h_2 : 0 ≤ a ∧ a < 6) (h_3 : ¬ (-1200 ≤ n ∧ n ≤ 1200)) : CTW l yL_keeps cL_keeps 5 (some .int) [((0 : Nat), (11 : Nat), (14 : Nat), (19 : Nat)), ((0 : Nat), (11 : Nat), (18 : Nat), (21 : Nat))] 8 136 1 6 [.ref (u 0), .int (iI a), .int (iI n), .ref o] S0 H (fun v9 H1 => v9 = some (.int (iI 2)) ∧ CW θ u H1 dt sy sm sd bc rf kn ∧ OB θ H1 o 8 [.long (lL nv), sv9]) (fun x : Nat => UA u H.size x ∨ x = o) := by
  refine ctw_of (by decide +kernel) (Nat.le_of_ble_eq_true rfl) ?_
  intro pg en s mi args below meth co ls fx hs hr hlk htab hl
  subst hs
  obtain ⟨hx, hb, hml, hown, hts⟩ := id fx.1
  have hS : va_S (fun x : Nat => UA u s.heap.size x ∨ x = o) s.heap s.heap [] := va_S.rf
  obtain ⟨hz, hu, hcw, hd, hsp⟩ := id hw
  have hK := sz_K fx.2 hz
  refine lv_aload_n hx hb dL_keeps_0 rfl (lv_at hl 3 rfl) ?_
  refine lv_aload_n hx hb dL_keeps_1 rfl (lv_at hl 0 rfl) ?_
  refine lv_iload_n hx hb dL_keeps_2 rfl (lv_at hl 1 rfl) ?_
  refine lv_iload_n hx hb dL_keeps_3 rfl (lv_at hl 2 rfl) ?_
  refine c_VT (As := [.int (iI a), .int (iI n)]) (rest := [.ref o]) (b := u 0) (C := RX1) (E := "java/lang/IllegalArgumentException") (name := "java/lang/IllegalArgumentException") (k := 1) (a0 := 0) (a1 := 11) (hpc := 18) (ct := 21) fx hl (no2_keeps θ l hl0 S0 _ u _ _ _ _ _ _ _ hw a n h_0 h_1 h_2 h_3) (ob_recv hK hcw.1 rfl) dL_keeps_4 k916 k917 k918 k1 k919 hd_X1_keeps rfl ⟨by decide, by decide⟩ (Nat.le_of_ble_eq_true rfl) ⟨by (try dsimp only); omega, by (try dsimp only); omega⟩ hS (fun x h => Or.inl (Or.inr h)) htab rfl ⟨by decide, by decide⟩ (by decide) k697 (nw_at (args := args) fx.2 hz.2.2.2.2.2.2.2.2.1 (by decide +kernel)) (by show ∀ q ∈ ([(0, 11, 14, 19)] : List (Nat × Nat × Nat × Nat)), _; exact List.forall_mem_cons.mpr ⟨⟨by decide, _, k696, hn.1.1⟩, fun q h => absurd h List.not_mem_nil⟩) (fun q2 H1 locs hszH1 hkH1 hS => ?_)
  have hcwH1 := hcw.kept (fun i hi => hkH1 _ (hcw.lt i hi))
  have hoH1 := ho.kept (hkH1 _ ho.lt)
  refine lv_astore (lv' := [(4, .ref q2), (0, .ref (u 0)), (1, .int (iI a)), (2, .int (iI n)), (3, .ref o)]) hx hb dL_keeps_18 hl (by decide) rfl (fun ls hl => ?_)
  refine q_con hx hb dL_keeps_20 ?_
  exact e_i hx hb hr hlk hS dL_keeps_21 (by first | exact Nat.le_of_ble_eq_true rfl | ((try dsimp only); omega)) (by first | exact Nat.le_of_ble_eq_true rfl | ((try dsimp only); omega)) ⟨rfl, hcwH1, hoH1⟩

set_option maxHeartbeats 4000000 in
set_option maxRecDepth 100000 in
theorem wr_month (θ : TH) (l : Launch) (hl0 : l.stackTraces = false) (S0 : State) (H : Heap) (u : Nat → Nat) (dt sy sm sd : Nat → Int) (bc rf kn : Int) (hw : CWR θ S0 u H dt sy sm sd bc rf kn) (hj : SJ θ S0 H) (hn : NX S0) (o : Nat) (nv : Int) (sv9 : Value) (ho : OB θ H o 8 [.long (lL nv), sv9]) (hod : ∀ i : Nat, i < 7 → o ≠ u i) (a : Int) (h_0 : -2147483648 ≤ a ∧ a < 2147483648) (h_1 : 0 ≤ a ∧ a < 6) : CTW l yL_month cL_month 4 (some .int) [((0 : Nat), (10 : Nat), (13 : Nat), (19 : Nat))] 4 91 0 0 [.ref (u 0), .int (iI a), .ref o] S0 H (fun v9 H1 => v9 = some (.int (iI 0)) ∧ CW θ u H1 dt sy sm sd bc rf kn ∧ OB θ H1 o 8 [.long (lL (iI (mI (dt a.toNat))).toInt), sv9]) (fun x : Nat => UA u H.size x ∨ x = o) := by
  refine ctw_of (by decide +kernel) (Nat.le_of_ble_eq_true rfl) ?_
  intro pg en s mi args below meth co ls fx hs hr hlk htab hl
  subst hs
  obtain ⟨hx, hb, hml, hown, hts⟩ := id fx.1
  have hS : va_S (fun x : Nat => UA u s.heap.size x ∨ x = o) s.heap s.heap [] := va_S.rf
  obtain ⟨hz, hu, hcw, hd, hsp⟩ := id hw
  have hK := sz_K fx.2 hz
  refine lv_aload_n hx hb dL_month_0 rfl (lv_at hl 2 rfl) ?_
  refine lv_aload_n hx hb dL_month_1 rfl (lv_at hl 0 rfl) ?_
  refine lv_iload_n hx hb dL_month_2 rfl (lv_at hl 1 rfl) ?_
  refine c_Vr (As := [.int (iI a)]) (rest := [.ref o]) (b := u 0) (C := RX1) (r := some (.int (iI (mI (dt a.toNat))))) (st1 := [.int (iI (mI (dt a.toNat))), .ref o]) fx hl (ok_month θ l hl0 S0 _ u _ _ _ _ _ _ _ hw a h_0 h_1) (ob_recv hK hcw.1 rfl) dL_month_3 k923 k280 k281 k1 k282 hd_X1_month rfl rfl ⟨by decide, by decide⟩ (Nat.le_of_ble_eq_true rfl) ⟨by (try dsimp only); omega, by (try dsimp only); omega⟩ hS (fun _ h => h.elim) (fun H1 locs hpH1 hszH1 hk0H1 hS => ?_)
  obtain rfl := hpH1.symm
  refine q_i2lx hx hb dL_month_6 ?_
  refine r_putN (θ := θ) (C := RX2) (T := TX2) (N := 2) (ci := 8) (v := .long (lL ((iI (mI (dt a.toNat))).toInt))) (ty := .long) hx hb hts gwX2 tyX2 tyX2_ok nmX2 hown hK ho (Or.inr rfl) hS rfl 0 (by decide) (va_Nw.use rfl (va_Nw.warmF fx.2 hn.2.1)) (fun _ h => h) rfl (by decide +kernel) rfl rfl (Nat.le_of_ble_eq_true rfl) dL_month_7 (fun H2 locs hqH2 hszH2 hkH2 hS => ?_)
  have hoH2 : OB θ H2 o 8 [.long (lL ((iI (mI (dt a.toNat))).toInt)), sv9] := hqH2
  have hcwH2 := hcw.kept (fun i hi => hkH2 _ (Ne.symm (hod i hi)))
  refine lv_goto (tgt := 16) hx hb dL_month_10 (by decide) ?_
  refine q_con hx hb dL_month_16 ?_
  exact e_i hx hb hr hlk hS dL_month_17 (by first | exact Nat.le_of_ble_eq_true rfl | ((try dsimp only); omega)) (by first | exact Nat.le_of_ble_eq_true rfl | ((try dsimp only); omega)) ⟨rfl, hcwH2, hoH2⟩

set_option maxHeartbeats 4000000 in
set_option maxRecDepth 100000 in
theorem wn1_month (θ : TH) (l : Launch) (hl0 : l.stackTraces = false) (S0 : State) (H : Heap) (u : Nat → Nat) (dt sy sm sd : Nat → Int) (bc rf kn : Int) (hw : CWR θ S0 u H dt sy sm sd bc rf kn) (hj : SJ θ S0 H) (hn : NX S0) (o : Nat) (nv : Int) (sv9 : Value) (ho : OB θ H o 8 [.long (lL nv), sv9]) (hod : ∀ i : Nat, i < 7 → o ≠ u i) (a : Int) (h_0 : -2147483648 ≤ a ∧ a < 2147483648) (h_1 : ¬ (0 ≤ a ∧ a < 6)) : CTW l yL_month cL_month 4 (some .int) [((0 : Nat), (10 : Nat), (13 : Nat), (19 : Nat))] 8 131 1 6 [.ref (u 0), .int (iI a), .ref o] S0 H (fun v9 H1 => v9 = some (.int (iI 1)) ∧ CW θ u H1 dt sy sm sd bc rf kn ∧ OB θ H1 o 8 [.long (lL nv), sv9]) (fun x : Nat => UA u H.size x ∨ x = o) := by
  refine ctw_of (by decide +kernel) (Nat.le_of_ble_eq_true rfl) ?_
  intro pg en s mi args below meth co ls fx hs hr hlk htab hl
  subst hs
  obtain ⟨hx, hb, hml, hown, hts⟩ := id fx.1
  have hS : va_S (fun x : Nat => UA u s.heap.size x ∨ x = o) s.heap s.heap [] := va_S.rf
  obtain ⟨hz, hu, hcw, hd, hsp⟩ := id hw
  have hK := sz_K fx.2 hz
  refine lv_aload_n hx hb dL_month_0 rfl (lv_at hl 2 rfl) ?_
  refine lv_aload_n hx hb dL_month_1 rfl (lv_at hl 0 rfl) ?_
  refine lv_iload_n hx hb dL_month_2 rfl (lv_at hl 1 rfl) ?_
  refine c_VT (As := [.int (iI a)]) (rest := [.ref o]) (b := u 0) (C := RX1) (E := "java/lang/IndexOutOfBoundsException") (name := "java/lang/IndexOutOfBoundsException") (k := 0) (a0 := 0) (a1 := 10) (hpc := 13) (ct := 19) fx hl (no1_month θ l hl0 S0 _ u _ _ _ _ _ _ _ hw a h_0 h_1) (ob_recv hK hcw.1 rfl) dL_month_3 k923 k280 k281 k1 k282 hd_X1_month rfl ⟨by decide, by decide⟩ (Nat.le_of_ble_eq_true rfl) ⟨by (try dsimp only); omega, by (try dsimp only); omega⟩ hS (fun x h => Or.inl (Or.inr h)) htab rfl ⟨by decide, by decide⟩ (by decide) k696 (nw_at (args := args) fx.2 hz.2.2.2.2.2.2.2.2.1 (by decide +kernel)) (by show ∀ q ∈ ([] : List (Nat × Nat × Nat × Nat)), _; exact fun q h => absurd h List.not_mem_nil) (fun q2 H1 locs hszH1 hkH1 hS => ?_)
  have hcwH1 := hcw.kept (fun i hi => hkH1 _ (hcw.lt i hi))
  have hoH1 := ho.kept (hkH1 _ ho.lt)
  refine lv_astore_n (lv' := [(3, .ref q2), (0, .ref (u 0)), (1, .int (iI a)), (2, .ref o)]) hx hb dL_month_13 rfl hl (by decide) rfl (fun ls hl => ?_)
  refine q_con hx hb dL_month_14 ?_
  exact e_i hx hb hr hlk hS dL_month_15 (by first | exact Nat.le_of_ble_eq_true rfl | ((try dsimp only); omega)) (by first | exact Nat.le_of_ble_eq_true rfl | ((try dsimp only); omega)) ⟨rfl, hcwH1, hoH1⟩

set_option maxHeartbeats 4000000 in
set_option maxRecDepth 100000 in
theorem wr_ofMonthNumber (θ : TH) (l : Launch) (hl0 : l.stackTraces = false) (S0 : State) (H : Heap) (u : Nat → Nat) (dt sy sm sd : Nat → Int) (bc rf kn : Int) (hw : CWR θ S0 u H dt sy sm sd bc rf kn) (hj : SJ θ S0 H) (hn : NX S0) (o : Nat) (nv : Int) (sv9 : Value) (ho : OB θ H o 8 [.long (lL nv), sv9]) (hod : ∀ i : Nat, i < 7 → o ≠ u i) (m k : Int) (h_0 : -2147483648 ≤ m ∧ m < 2147483648) (h_1 : -2147483648 ≤ k ∧ k < 2147483648) (h_2 : -119988 ≤ m ∧ m ≤ 119999) (h_3 : 0 ≤ k ∧ k ≤ 3) : CTW l yL_ofMonthNumber cL_ofMonthNumber 5 (some .int) [((0 : Nat), (11 : Nat), (14 : Nat), (21 : Nat))] 4 89 0 0 [.ref (u 0), .int (iI m), .int (iI k), .ref o] S0 H (fun v9 H1 => v9 = some (.int (iI 0)) ∧ CW θ u H1 dt sy sm sd bc rf kn ∧ OB θ H1 o 8 [.long (lL (iI (if k = 0 then m / 12 else if k = 1 then m % 12 + 1 else if k = 2 then fI (m + 1) - fI m else fI m)).toInt), sv9]) (fun x : Nat => UA u H.size x ∨ x = o) := by
  refine ctw_of (by decide +kernel) (Nat.le_of_ble_eq_true rfl) ?_
  intro pg en s mi args below meth co ls fx hs hr hlk htab hl
  subst hs
  obtain ⟨hx, hb, hml, hown, hts⟩ := id fx.1
  have hS : va_S (fun x : Nat => UA u s.heap.size x ∨ x = o) s.heap s.heap [] := va_S.rf
  obtain ⟨hz, hu, hcw, hd, hsp⟩ := id hw
  have hK := sz_K fx.2 hz
  refine lv_aload_n hx hb dL_ofMonthNumber_0 rfl (lv_at hl 3 rfl) ?_
  refine lv_aload_n hx hb dL_ofMonthNumber_1 rfl (lv_at hl 0 rfl) ?_
  refine lv_iload_n hx hb dL_ofMonthNumber_2 rfl (lv_at hl 1 rfl) ?_
  refine lv_iload_n hx hb dL_ofMonthNumber_3 rfl (lv_at hl 2 rfl) ?_
  refine c_Vr (As := [.int (iI m), .int (iI k)]) (rest := [.ref o]) (b := u 0) (C := RX1) (r := some (.int (iI (if k = 0 then m / 12 else if k = 1 then m % 12 + 1 else if k = 2 then fI (m + 1) - fI m else fI m)))) (st1 := [.int (iI (if k = 0 then m / 12 else if k = 1 then m % 12 + 1 else if k = 2 then fI (m + 1) - fI m else fI m)), .ref o]) fx hl (ok_ofMonthNumber θ l hl0 S0 _ u _ _ _ _ _ _ _ hw m k h_0 h_1 h_2 h_3) (ob_recv hK hcw.1 rfl) dL_ofMonthNumber_4 k927 k928 k929 k1 k930 hd_X1_ofMonthNumber rfl rfl ⟨by decide, by decide⟩ (Nat.le_of_ble_eq_true rfl) ⟨by (try dsimp only); omega, by (try dsimp only); omega⟩ hS (fun _ h => h.elim) (fun H1 locs hpH1 hszH1 hk0H1 hS => ?_)
  obtain rfl := hpH1.symm
  refine q_i2lx hx hb dL_ofMonthNumber_7 ?_
  refine r_putN (θ := θ) (C := RX2) (T := TX2) (N := 2) (ci := 8) (v := .long (lL ((iI (if k = 0 then m / 12 else if k = 1 then m % 12 + 1 else if k = 2 then fI (m + 1) - fI m else fI m)).toInt))) (ty := .long) hx hb hts gwX2 tyX2 tyX2_ok nmX2 hown hK ho (Or.inr rfl) hS rfl 0 (by decide) (va_Nw.use rfl (va_Nw.warmF fx.2 hn.2.1)) (fun _ h => h) rfl (by decide +kernel) rfl rfl (Nat.le_of_ble_eq_true rfl) dL_ofMonthNumber_8 (fun H2 locs hqH2 hszH2 hkH2 hS => ?_)
  have hoH2 : OB θ H2 o 8 [.long (lL ((iI (if k = 0 then m / 12 else if k = 1 then m % 12 + 1 else if k = 2 then fI (m + 1) - fI m else fI m)).toInt)), sv9] := hqH2
  have hcwH2 := hcw.kept (fun i hi => hkH2 _ (Ne.symm (hod i hi)))
  refine lv_goto (tgt := 18) hx hb dL_ofMonthNumber_11 (by decide) ?_
  refine q_con hx hb dL_ofMonthNumber_18 ?_
  exact e_i hx hb hr hlk hS dL_ofMonthNumber_19 (by first | exact Nat.le_of_ble_eq_true rfl | ((try dsimp only); omega)) (by first | exact Nat.le_of_ble_eq_true rfl | ((try dsimp only); omega)) ⟨rfl, hcwH2, hoH2⟩

set_option maxHeartbeats 4000000 in
set_option maxRecDepth 100000 in
theorem wn1_ofMonthNumber (θ : TH) (l : Launch) (hl0 : l.stackTraces = false) (S0 : State) (H : Heap) (u : Nat → Nat) (dt sy sm sd : Nat → Int) (bc rf kn : Int) (hw : CWR θ S0 u H dt sy sm sd bc rf kn) (hj : SJ θ S0 H) (hn : NX S0) (o : Nat) (nv : Int) (sv9 : Value) (ho : OB θ H o 8 [.long (lL nv), sv9]) (hod : ∀ i : Nat, i < 7 → o ≠ u i) (m k : Int) (h_0 : -2147483648 ≤ m ∧ m < 2147483648) (h_1 : -2147483648 ≤ k ∧ k < 2147483648) (h_2 : ¬ (-119988 ≤ m ∧ m ≤ 119999)) : CTW l yL_ofMonthNumber cL_ofMonthNumber 5 (some .int) [((0 : Nat), (11 : Nat), (14 : Nat), (21 : Nat))] 9 154 1 6 [.ref (u 0), .int (iI m), .int (iI k), .ref o] S0 H (fun v9 H1 => v9 = some (.int (iI 1)) ∧ CW θ u H1 dt sy sm sd bc rf kn ∧ OB θ H1 o 8 [.long (lL nv), sv9]) (fun x : Nat => UA u H.size x ∨ x = o) := by
  refine ctw_of (by decide +kernel) (Nat.le_of_ble_eq_true rfl) ?_
  intro pg en s mi args below meth co ls fx hs hr hlk htab hl
  subst hs
  obtain ⟨hx, hb, hml, hown, hts⟩ := id fx.1
  have hS : va_S (fun x : Nat => UA u s.heap.size x ∨ x = o) s.heap s.heap [] := va_S.rf
  obtain ⟨hz, hu, hcw, hd, hsp⟩ := id hw
  have hK := sz_K fx.2 hz
  refine lv_aload_n hx hb dL_ofMonthNumber_0 rfl (lv_at hl 3 rfl) ?_
  refine lv_aload_n hx hb dL_ofMonthNumber_1 rfl (lv_at hl 0 rfl) ?_
  refine lv_iload_n hx hb dL_ofMonthNumber_2 rfl (lv_at hl 1 rfl) ?_
  refine lv_iload_n hx hb dL_ofMonthNumber_3 rfl (lv_at hl 2 rfl) ?_
  refine c_VT (As := [.int (iI m), .int (iI k)]) (rest := [.ref o]) (b := u 0) (C := RX1) (E := "java/lang/IllegalArgumentException") (name := "java/lang/IllegalArgumentException") (k := 0) (a0 := 0) (a1 := 11) (hpc := 14) (ct := 21) fx hl (no1_ofMonthNumber θ l hl0 S0 _ u _ _ _ _ _ _ _ hw m k h_0 h_1 h_2) (ob_recv hK hcw.1 rfl) dL_ofMonthNumber_4 k927 k928 k929 k1 k930 hd_X1_ofMonthNumber rfl ⟨by decide, by decide⟩ (Nat.le_of_ble_eq_true rfl) ⟨by (try dsimp only); omega, by (try dsimp only); omega⟩ hS (fun x h => Or.inl (Or.inr h)) htab rfl ⟨by decide, by decide⟩ (by decide) k697 (nw_at (args := args) fx.2 hz.2.2.2.2.2.2.2.2.1 (by decide +kernel)) (by show ∀ q ∈ ([] : List (Nat × Nat × Nat × Nat)), _; exact fun q h => absurd h List.not_mem_nil) (fun q2 H1 locs hszH1 hkH1 hS => ?_)
  have hcwH1 := hcw.kept (fun i hi => hkH1 _ (hcw.lt i hi))
  have hoH1 := ho.kept (hkH1 _ ho.lt)
  refine lv_astore (lv' := [(4, .ref q2), (0, .ref (u 0)), (1, .int (iI m)), (2, .int (iI k)), (3, .ref o)]) hx hb dL_ofMonthNumber_14 hl (by decide) rfl (fun ls hl => ?_)
  refine q_con hx hb dL_ofMonthNumber_16 ?_
  exact e_i hx hb hr hlk hS dL_ofMonthNumber_17 (by first | exact Nat.le_of_ble_eq_true rfl | ((try dsimp only); omega)) (by first | exact Nat.le_of_ble_eq_true rfl | ((try dsimp only); omega)) ⟨rfl, hcwH1, hoH1⟩

set_option maxHeartbeats 4000000 in
set_option maxRecDepth 100000 in
theorem wn2_ofMonthNumber (θ : TH) (l : Launch) (hl0 : l.stackTraces = false) (S0 : State) (H : Heap) (u : Nat → Nat) (dt sy sm sd : Nat → Int) (bc rf kn : Int) (hw : CWR θ S0 u H dt sy sm sd bc rf kn) (hj : SJ θ S0 H) (hn : NX S0) (o : Nat) (nv : Int) (sv9 : Value) (ho : OB θ H o 8 [.long (lL nv), sv9]) (hod : ∀ i : Nat, i < 7 → o ≠ u i) (m k : Int) (h_0 : -2147483648 ≤ m ∧ m < 2147483648) (h_1 : -2147483648 ≤ k ∧ k < 2147483648) (h_2 : -119988 ≤ m ∧ m ≤ 119999) (h_3 : ¬ (0 ≤ k ∧ k ≤ 3)) : CTW l yL_ofMonthNumber cL_ofMonthNumber 5 (some .int) [((0 : Nat), (11 : Nat), (14 : Nat), (21 : Nat))] 8 134 1 6 [.ref (u 0), .int (iI m), .int (iI k), .ref o] S0 H (fun v9 H1 => v9 = some (.int (iI 1)) ∧ CW θ u H1 dt sy sm sd bc rf kn ∧ OB θ H1 o 8 [.long (lL nv), sv9]) (fun x : Nat => UA u H.size x ∨ x = o) := by
  refine ctw_of (by decide +kernel) (Nat.le_of_ble_eq_true rfl) ?_
  intro pg en s mi args below meth co ls fx hs hr hlk htab hl
  subst hs
  obtain ⟨hx, hb, hml, hown, hts⟩ := id fx.1
  have hS : va_S (fun x : Nat => UA u s.heap.size x ∨ x = o) s.heap s.heap [] := va_S.rf
  obtain ⟨hz, hu, hcw, hd, hsp⟩ := id hw
  have hK := sz_K fx.2 hz
  refine lv_aload_n hx hb dL_ofMonthNumber_0 rfl (lv_at hl 3 rfl) ?_
  refine lv_aload_n hx hb dL_ofMonthNumber_1 rfl (lv_at hl 0 rfl) ?_
  refine lv_iload_n hx hb dL_ofMonthNumber_2 rfl (lv_at hl 1 rfl) ?_
  refine lv_iload_n hx hb dL_ofMonthNumber_3 rfl (lv_at hl 2 rfl) ?_
  refine c_VT (As := [.int (iI m), .int (iI k)]) (rest := [.ref o]) (b := u 0) (C := RX1) (E := "java/lang/IllegalArgumentException") (name := "java/lang/IllegalArgumentException") (k := 0) (a0 := 0) (a1 := 11) (hpc := 14) (ct := 21) fx hl (no2_ofMonthNumber θ l hl0 S0 _ u _ _ _ _ _ _ _ hw m k h_0 h_1 h_2 h_3) (ob_recv hK hcw.1 rfl) dL_ofMonthNumber_4 k927 k928 k929 k1 k930 hd_X1_ofMonthNumber rfl ⟨by decide, by decide⟩ (Nat.le_of_ble_eq_true rfl) ⟨by (try dsimp only); omega, by (try dsimp only); omega⟩ hS (fun x h => Or.inl (Or.inr h)) htab rfl ⟨by decide, by decide⟩ (by decide) k697 (nw_at (args := args) fx.2 hz.2.2.2.2.2.2.2.2.1 (by decide +kernel)) (by show ∀ q ∈ ([] : List (Nat × Nat × Nat × Nat)), _; exact fun q h => absurd h List.not_mem_nil) (fun q2 H1 locs hszH1 hkH1 hS => ?_)
  have hcwH1 := hcw.kept (fun i hi => hkH1 _ (hcw.lt i hi))
  have hoH1 := ho.kept (hkH1 _ ho.lt)
  refine lv_astore (lv' := [(4, .ref q2), (0, .ref (u 0)), (1, .int (iI m)), (2, .int (iI k)), (3, .ref o)]) hx hb dL_ofMonthNumber_14 hl (by decide) rfl (fun ls hl => ?_)
  refine q_con hx hb dL_ofMonthNumber_16 ?_
  exact e_i hx hb hr hlk hS dL_ofMonthNumber_17 (by first | exact Nat.le_of_ble_eq_true rfl | ((try dsimp only); omega)) (by first | exact Nat.le_of_ble_eq_true rfl | ((try dsimp only); omega)) ⟨rfl, hcwH1, hoH1⟩

set_option maxHeartbeats 4000000 in
set_option maxRecDepth 100000 in
theorem wr_lengths (θ : TH) (l : Launch) (hl0 : l.stackTraces = false) (S0 : State) (H : Heap) (u : Nat → Nat) (dt sy sm sd : Nat → Int) (bc rf kn : Int) (hw : CWR θ S0 u H dt sy sm sd bc rf kn) (hj : SJ θ S0 H) (hn : NX S0) (o : Nat) (nv : Int) (sv9 : Value) (ho : OB θ H o 8 [.long (lL nv), sv9]) (hod : ∀ i : Nat, i < 7 → o ≠ u i) (m k : Int) (h_0 : -2147483648 ≤ m ∧ m < 2147483648) (h_1 : -2147483648 ≤ k ∧ k < 2147483648) (h_2 : -119988 ≤ m ∧ m ≤ 119999) (h_3 : 0 ≤ k ∧ k ≤ 48) : CTW l yL_lengths cL_lengths 5 (some .int) [((0 : Nat), (11 : Nat), (14 : Nat), (21 : Nat))] 3 69 0 0 [.ref (u 0), .int (iI m), .int (iI k), .ref o] S0 H (fun v9 H1 => v9 = some (.int (iI 0)) ∧ CW θ u H1 dt sy sm sd bc rf kn ∧ OB θ H1 o 8 [.long (lL (iI (fI (m + k) - fI m)).toInt), sv9]) (fun x : Nat => UA u H.size x ∨ x = o) := by
  refine ctw_of (by decide +kernel) (Nat.le_of_ble_eq_true rfl) ?_
  intro pg en s mi args below meth co ls fx hs hr hlk htab hl
  subst hs
  obtain ⟨hx, hb, hml, hown, hts⟩ := id fx.1
  have hS : va_S (fun x : Nat => UA u s.heap.size x ∨ x = o) s.heap s.heap [] := va_S.rf
  obtain ⟨hz, hu, hcw, hd, hsp⟩ := id hw
  have hK := sz_K fx.2 hz
  refine lv_aload_n hx hb dL_lengths_0 rfl (lv_at hl 3 rfl) ?_
  refine lv_aload_n hx hb dL_lengths_1 rfl (lv_at hl 0 rfl) ?_
  refine lv_iload_n hx hb dL_lengths_2 rfl (lv_at hl 1 rfl) ?_
  refine lv_iload_n hx hb dL_lengths_3 rfl (lv_at hl 2 rfl) ?_
  refine c_Vr (As := [.int (iI m), .int (iI k)]) (rest := [.ref o]) (b := u 0) (C := RX1) (r := some (.int (iI (fI (m + k) - fI m)))) (st1 := [.int (iI (fI (m + k) - fI m)), .ref o]) fx hl (ok_lengths θ l hl0 S0 _ u _ _ _ _ _ _ _ hw m k h_0 h_1 h_2 h_3) (ob_recv hK hcw.1 rfl) dL_lengths_4 k934 k935 k936 k1 k937 hd_X1_lengths rfl rfl ⟨by decide, by decide⟩ (Nat.le_of_ble_eq_true rfl) ⟨by (try dsimp only); omega, by (try dsimp only); omega⟩ hS (fun _ h => h.elim) (fun H1 locs hpH1 hszH1 hk0H1 hS => ?_)
  obtain rfl := hpH1.symm
  refine q_i2lx hx hb dL_lengths_7 ?_
  refine r_putN (θ := θ) (C := RX2) (T := TX2) (N := 2) (ci := 8) (v := .long (lL ((iI (fI (m + k) - fI m)).toInt))) (ty := .long) hx hb hts gwX2 tyX2 tyX2_ok nmX2 hown hK ho (Or.inr rfl) hS rfl 0 (by decide) (va_Nw.use rfl (va_Nw.warmF fx.2 hn.2.1)) (fun _ h => h) rfl (by decide +kernel) rfl rfl (Nat.le_of_ble_eq_true rfl) dL_lengths_8 (fun H2 locs hqH2 hszH2 hkH2 hS => ?_)
  have hoH2 : OB θ H2 o 8 [.long (lL ((iI (fI (m + k) - fI m)).toInt)), sv9] := hqH2
  have hcwH2 := hcw.kept (fun i hi => hkH2 _ (Ne.symm (hod i hi)))
  refine lv_goto (tgt := 18) hx hb dL_lengths_11 (by decide) ?_
  refine q_con hx hb dL_lengths_18 ?_
  exact e_i hx hb hr hlk hS dL_lengths_19 (by first | exact Nat.le_of_ble_eq_true rfl | ((try dsimp only); omega)) (by first | exact Nat.le_of_ble_eq_true rfl | ((try dsimp only); omega)) ⟨rfl, hcwH2, hoH2⟩

set_option maxHeartbeats 4000000 in
set_option maxRecDepth 100000 in
theorem wn1_lengths (θ : TH) (l : Launch) (hl0 : l.stackTraces = false) (S0 : State) (H : Heap) (u : Nat → Nat) (dt sy sm sd : Nat → Int) (bc rf kn : Int) (hw : CWR θ S0 u H dt sy sm sd bc rf kn) (hj : SJ θ S0 H) (hn : NX S0) (o : Nat) (nv : Int) (sv9 : Value) (ho : OB θ H o 8 [.long (lL nv), sv9]) (hod : ∀ i : Nat, i < 7 → o ≠ u i) (m k : Int) (h_0 : -2147483648 ≤ m ∧ m < 2147483648) (h_1 : -2147483648 ≤ k ∧ k < 2147483648) (h_2 : ¬ (-119988 ≤ m ∧ m ≤ 119999)) : CTW l yL_lengths cL_lengths 5 (some .int) [((0 : Nat), (11 : Nat), (14 : Nat), (21 : Nat))] 9 154 1 6 [.ref (u 0), .int (iI m), .int (iI k), .ref o] S0 H (fun v9 H1 => v9 = some (.int (iI 1)) ∧ CW θ u H1 dt sy sm sd bc rf kn ∧ OB θ H1 o 8 [.long (lL nv), sv9]) (fun x : Nat => UA u H.size x ∨ x = o) := by
  refine ctw_of (by decide +kernel) (Nat.le_of_ble_eq_true rfl) ?_
  intro pg en s mi args below meth co ls fx hs hr hlk htab hl
  subst hs
  obtain ⟨hx, hb, hml, hown, hts⟩ := id fx.1
  have hS : va_S (fun x : Nat => UA u s.heap.size x ∨ x = o) s.heap s.heap [] := va_S.rf
  obtain ⟨hz, hu, hcw, hd, hsp⟩ := id hw
  have hK := sz_K fx.2 hz
  refine lv_aload_n hx hb dL_lengths_0 rfl (lv_at hl 3 rfl) ?_
  refine lv_aload_n hx hb dL_lengths_1 rfl (lv_at hl 0 rfl) ?_
  refine lv_iload_n hx hb dL_lengths_2 rfl (lv_at hl 1 rfl) ?_
  refine lv_iload_n hx hb dL_lengths_3 rfl (lv_at hl 2 rfl) ?_
  refine c_VT (As := [.int (iI m), .int (iI k)]) (rest := [.ref o]) (b := u 0) (C := RX1) (E := "java/lang/IllegalArgumentException") (name := "java/lang/IllegalArgumentException") (k := 0) (a0 := 0) (a1 := 11) (hpc := 14) (ct := 21) fx hl (no1_lengths θ l hl0 S0 _ u _ _ _ _ _ _ _ hw m k h_0 h_1 h_2) (ob_recv hK hcw.1 rfl) dL_lengths_4 k934 k935 k936 k1 k937 hd_X1_lengths rfl ⟨by decide, by decide⟩ (Nat.le_of_ble_eq_true rfl) ⟨by (try dsimp only); omega, by (try dsimp only); omega⟩ hS (fun x h => Or.inl (Or.inr h)) htab rfl ⟨by decide, by decide⟩ (by decide) k697 (nw_at (args := args) fx.2 hz.2.2.2.2.2.2.2.2.1 (by decide +kernel)) (by show ∀ q ∈ ([] : List (Nat × Nat × Nat × Nat)), _; exact fun q h => absurd h List.not_mem_nil) (fun q2 H1 locs hszH1 hkH1 hS => ?_)
  have hcwH1 := hcw.kept (fun i hi => hkH1 _ (hcw.lt i hi))
  have hoH1 := ho.kept (hkH1 _ ho.lt)
  refine lv_astore (lv' := [(4, .ref q2), (0, .ref (u 0)), (1, .int (iI m)), (2, .int (iI k)), (3, .ref o)]) hx hb dL_lengths_14 hl (by decide) rfl (fun ls hl => ?_)
  refine q_con hx hb dL_lengths_16 ?_
  exact e_i hx hb hr hlk hS dL_lengths_17 (by first | exact Nat.le_of_ble_eq_true rfl | ((try dsimp only); omega)) (by first | exact Nat.le_of_ble_eq_true rfl | ((try dsimp only); omega)) ⟨rfl, hcwH1, hoH1⟩

set_option maxHeartbeats 4000000 in
set_option maxRecDepth 100000 in
theorem wn2_lengths (θ : TH) (l : Launch) (hl0 : l.stackTraces = false) (S0 : State) (H : Heap) (u : Nat → Nat) (dt sy sm sd : Nat → Int) (bc rf kn : Int) (hw : CWR θ S0 u H dt sy sm sd bc rf kn) (hj : SJ θ S0 H) (hn : NX S0) (o : Nat) (nv : Int) (sv9 : Value) (ho : OB θ H o 8 [.long (lL nv), sv9]) (hod : ∀ i : Nat, i < 7 → o ≠ u i) (m k : Int) (h_0 : -2147483648 ≤ m ∧ m < 2147483648) (h_1 : -2147483648 ≤ k ∧ k < 2147483648) (h_2 : -119988 ≤ m ∧ m ≤ 119999) (h_3 : ¬ (0 ≤ k ∧ k ≤ 48)) : CTW l yL_lengths cL_lengths 5 (some .int) [((0 : Nat), (11 : Nat), (14 : Nat), (21 : Nat))] 8 134 1 6 [.ref (u 0), .int (iI m), .int (iI k), .ref o] S0 H (fun v9 H1 => v9 = some (.int (iI 1)) ∧ CW θ u H1 dt sy sm sd bc rf kn ∧ OB θ H1 o 8 [.long (lL nv), sv9]) (fun x : Nat => UA u H.size x ∨ x = o) := by
  refine ctw_of (by decide +kernel) (Nat.le_of_ble_eq_true rfl) ?_
  intro pg en s mi args below meth co ls fx hs hr hlk htab hl
  subst hs
  obtain ⟨hx, hb, hml, hown, hts⟩ := id fx.1
  have hS : va_S (fun x : Nat => UA u s.heap.size x ∨ x = o) s.heap s.heap [] := va_S.rf
  obtain ⟨hz, hu, hcw, hd, hsp⟩ := id hw
  have hK := sz_K fx.2 hz
  refine lv_aload_n hx hb dL_lengths_0 rfl (lv_at hl 3 rfl) ?_
  refine lv_aload_n hx hb dL_lengths_1 rfl (lv_at hl 0 rfl) ?_
  refine lv_iload_n hx hb dL_lengths_2 rfl (lv_at hl 1 rfl) ?_
  refine lv_iload_n hx hb dL_lengths_3 rfl (lv_at hl 2 rfl) ?_
  refine c_VT (As := [.int (iI m), .int (iI k)]) (rest := [.ref o]) (b := u 0) (C := RX1) (E := "java/lang/IllegalArgumentException") (name := "java/lang/IllegalArgumentException") (k := 0) (a0 := 0) (a1 := 11) (hpc := 14) (ct := 21) fx hl (no2_lengths θ l hl0 S0 _ u _ _ _ _ _ _ _ hw m k h_0 h_1 h_2 h_3) (ob_recv hK hcw.1 rfl) dL_lengths_4 k934 k935 k936 k1 k937 hd_X1_lengths rfl ⟨by decide, by decide⟩ (Nat.le_of_ble_eq_true rfl) ⟨by (try dsimp only); omega, by (try dsimp only); omega⟩ hS (fun x h => Or.inl (Or.inr h)) htab rfl ⟨by decide, by decide⟩ (by decide) k697 (nw_at (args := args) fx.2 hz.2.2.2.2.2.2.2.2.1 (by decide +kernel)) (by show ∀ q ∈ ([] : List (Nat × Nat × Nat × Nat)), _; exact fun q h => absurd h List.not_mem_nil) (fun q2 H1 locs hszH1 hkH1 hS => ?_)
  have hcwH1 := hcw.kept (fun i hi => hkH1 _ (hcw.lt i hi))
  have hoH1 := ho.kept (hkH1 _ ho.lt)
  refine lv_astore (lv' := [(4, .ref q2), (0, .ref (u 0)), (1, .int (iI m)), (2, .int (iI k)), (3, .ref o)]) hx hb dL_lengths_14 hl (by decide) rfl (fun ls hl => ?_)
  refine q_con hx hb dL_lengths_16 ?_
  exact e_i hx hb hr hlk hS dL_lengths_17 (by first | exact Nat.le_of_ble_eq_true rfl | ((try dsimp only); omega)) (by first | exact Nat.le_of_ble_eq_true rfl | ((try dsimp only); omega)) ⟨rfl, hcwH1, hoH1⟩

set_option maxHeartbeats 4000000 in
set_option maxRecDepth 100000 in
theorem wr_weekday (θ : TH) (l : Launch) (hl0 : l.stackTraces = false) (S0 : State) (H : Heap) (u : Nat → Nat) (dt sy sm sd : Nat → Int) (bc rf kn : Int) (hw : CWR θ S0 u H dt sy sm sd bc rf kn) (hj : SJ θ S0 H) (hn : NX S0) (o : Nat) (nv : Int) (sv9 : Value) (ho : OB θ H o 8 [.long (lL nv), sv9]) (hod : ∀ i : Nat, i < 7 → o ≠ u i) (a : Int) (h_0 : -2147483648 ≤ a ∧ a < 2147483648) (h_1 : 0 ≤ a ∧ a < 6) : CTW l yL_weekday cL_weekday 4 (some .int) [((0 : Nat), (10 : Nat), (13 : Nat), (19 : Nat))] 3 63 0 0 [.ref (u 0), .int (iI a), .ref o] S0 H (fun v9 H1 => v9 = some (.int (iI 0)) ∧ CW θ u H1 dt sy sm sd bc rf kn ∧ OB θ H1 o 8 [.long (lL (iI (wI (dt a.toNat))).toInt), sv9]) (fun x : Nat => UA u H.size x ∨ x = o) := by
  refine ctw_of (by decide +kernel) (Nat.le_of_ble_eq_true rfl) ?_
  intro pg en s mi args below meth co ls fx hs hr hlk htab hl
  subst hs
  obtain ⟨hx, hb, hml, hown, hts⟩ := id fx.1
  have hS : va_S (fun x : Nat => UA u s.heap.size x ∨ x = o) s.heap s.heap [] := va_S.rf
  obtain ⟨hz, hu, hcw, hd, hsp⟩ := id hw
  have hK := sz_K fx.2 hz
  refine lv_aload_n hx hb dL_weekday_0 rfl (lv_at hl 2 rfl) ?_
  refine lv_aload_n hx hb dL_weekday_1 rfl (lv_at hl 0 rfl) ?_
  refine lv_iload_n hx hb dL_weekday_2 rfl (lv_at hl 1 rfl) ?_
  refine c_Vr (As := [.int (iI a)]) (rest := [.ref o]) (b := u 0) (C := RX1) (r := some (.int (iI (wI (dt a.toNat))))) (st1 := [.int (iI (wI (dt a.toNat))), .ref o]) fx hl (ok_weekday θ l hl0 S0 _ u _ _ _ _ _ _ _ hw a h_0 h_1) (ob_recv hK hcw.1 rfl) dL_weekday_3 k941 k290 k291 k1 k292 hd_X1_weekday rfl rfl ⟨by decide, by decide⟩ (Nat.le_of_ble_eq_true rfl) ⟨by (try dsimp only); omega, by (try dsimp only); omega⟩ hS (fun _ h => h.elim) (fun H1 locs hpH1 hszH1 hk0H1 hS => ?_)
  obtain rfl := hpH1.symm
  refine q_i2lx hx hb dL_weekday_6 ?_
  refine r_putN (θ := θ) (C := RX2) (T := TX2) (N := 2) (ci := 8) (v := .long (lL ((iI (wI (dt a.toNat))).toInt))) (ty := .long) hx hb hts gwX2 tyX2 tyX2_ok nmX2 hown hK ho (Or.inr rfl) hS rfl 0 (by decide) (va_Nw.use rfl (va_Nw.warmF fx.2 hn.2.1)) (fun _ h => h) rfl (by decide +kernel) rfl rfl (Nat.le_of_ble_eq_true rfl) dL_weekday_7 (fun H2 locs hqH2 hszH2 hkH2 hS => ?_)
  have hoH2 : OB θ H2 o 8 [.long (lL ((iI (wI (dt a.toNat))).toInt)), sv9] := hqH2
  have hcwH2 := hcw.kept (fun i hi => hkH2 _ (Ne.symm (hod i hi)))
  refine lv_goto (tgt := 16) hx hb dL_weekday_10 (by decide) ?_
  refine q_con hx hb dL_weekday_16 ?_
  exact e_i hx hb hr hlk hS dL_weekday_17 (by first | exact Nat.le_of_ble_eq_true rfl | ((try dsimp only); omega)) (by first | exact Nat.le_of_ble_eq_true rfl | ((try dsimp only); omega)) ⟨rfl, hcwH2, hoH2⟩

set_option maxHeartbeats 4000000 in
set_option maxRecDepth 100000 in
theorem wn1_weekday (θ : TH) (l : Launch) (hl0 : l.stackTraces = false) (S0 : State) (H : Heap) (u : Nat → Nat) (dt sy sm sd : Nat → Int) (bc rf kn : Int) (hw : CWR θ S0 u H dt sy sm sd bc rf kn) (hj : SJ θ S0 H) (hn : NX S0) (o : Nat) (nv : Int) (sv9 : Value) (ho : OB θ H o 8 [.long (lL nv), sv9]) (hod : ∀ i : Nat, i < 7 → o ≠ u i) (a : Int) (h_0 : -2147483648 ≤ a ∧ a < 2147483648) (h_1 : ¬ (0 ≤ a ∧ a < 6)) : CTW l yL_weekday cL_weekday 4 (some .int) [((0 : Nat), (10 : Nat), (13 : Nat), (19 : Nat))] 8 131 1 6 [.ref (u 0), .int (iI a), .ref o] S0 H (fun v9 H1 => v9 = some (.int (iI 1)) ∧ CW θ u H1 dt sy sm sd bc rf kn ∧ OB θ H1 o 8 [.long (lL nv), sv9]) (fun x : Nat => UA u H.size x ∨ x = o) := by
  refine ctw_of (by decide +kernel) (Nat.le_of_ble_eq_true rfl) ?_
  intro pg en s mi args below meth co ls fx hs hr hlk htab hl
  subst hs
  obtain ⟨hx, hb, hml, hown, hts⟩ := id fx.1
  have hS : va_S (fun x : Nat => UA u s.heap.size x ∨ x = o) s.heap s.heap [] := va_S.rf
  obtain ⟨hz, hu, hcw, hd, hsp⟩ := id hw
  have hK := sz_K fx.2 hz
  refine lv_aload_n hx hb dL_weekday_0 rfl (lv_at hl 2 rfl) ?_
  refine lv_aload_n hx hb dL_weekday_1 rfl (lv_at hl 0 rfl) ?_
  refine lv_iload_n hx hb dL_weekday_2 rfl (lv_at hl 1 rfl) ?_
  refine c_VT (As := [.int (iI a)]) (rest := [.ref o]) (b := u 0) (C := RX1) (E := "java/lang/IndexOutOfBoundsException") (name := "java/lang/IndexOutOfBoundsException") (k := 0) (a0 := 0) (a1 := 10) (hpc := 13) (ct := 19) fx hl (no1_weekday θ l hl0 S0 _ u _ _ _ _ _ _ _ hw a h_0 h_1) (ob_recv hK hcw.1 rfl) dL_weekday_3 k941 k290 k291 k1 k292 hd_X1_weekday rfl ⟨by decide, by decide⟩ (Nat.le_of_ble_eq_true rfl) ⟨by (try dsimp only); omega, by (try dsimp only); omega⟩ hS (fun x h => Or.inl (Or.inr h)) htab rfl ⟨by decide, by decide⟩ (by decide) k696 (nw_at (args := args) fx.2 hz.2.2.2.2.2.2.2.2.1 (by decide +kernel)) (by show ∀ q ∈ ([] : List (Nat × Nat × Nat × Nat)), _; exact fun q h => absurd h List.not_mem_nil) (fun q2 H1 locs hszH1 hkH1 hS => ?_)
  have hcwH1 := hcw.kept (fun i hi => hkH1 _ (hcw.lt i hi))
  have hoH1 := ho.kept (hkH1 _ ho.lt)
  refine lv_astore_n (lv' := [(3, .ref q2), (0, .ref (u 0)), (1, .int (iI a)), (2, .ref o)]) hx hb dL_weekday_13 rfl hl (by decide) rfl (fun ls hl => ?_)
  refine q_con hx hb dL_weekday_14 ?_
  exact e_i hx hb hr hlk hS dL_weekday_15 (by first | exact Nat.le_of_ble_eq_true rfl | ((try dsimp only); omega)) (by first | exact Nat.le_of_ble_eq_true rfl | ((try dsimp only); omega)) ⟨rfl, hcwH1, hoH1⟩

set_option maxHeartbeats 4000000 in
set_option maxRecDepth 100000 in
theorem wr_nth (θ : TH) (l : Launch) (hl0 : l.stackTraces = false) (S0 : State) (H : Heap) (u : Nat → Nat) (dt sy sm sd : Nat → Int) (bc rf kn : Int) (hw : CWR θ S0 u H dt sy sm sd bc rf kn) (hj : SJ θ S0 H) (hn : NX S0) (o : Nat) (nv : Int) (sv9 : Value) (ho : OB θ H o 8 [.long (lL nv), sv9]) (hod : ∀ i : Nat, i < 7 → o ≠ u i) (m w k : Int) (h_0 : -2147483648 ≤ m ∧ m < 2147483648) (h_1 : -2147483648 ≤ w ∧ w < 2147483648) (h_2 : -2147483648 ≤ k ∧ k < 2147483648) (h_3 : -119988 ≤ m ∧ m ≤ 119999) (h_4 : 1 ≤ w ∧ w ≤ 7) (h_5 : 1 ≤ k ∧ k ≤ 5) : CTW l yL_nth cL_nth 6 (some .int) [((0 : Nat), (13 : Nat), (16 : Nat), (21 : Nat))] 4 92 0 0 [.ref (u 0), .int (iI m), .int (iI w), .int (iI k), .ref o] S0 H (fun v9 H1 => v9 = some (.int (iI 0)) ∧ CW θ u H1 dt sy sm sd bc rf kn ∧ ∃ z9 : Int, OB θ H1 o 8 [.long (lL z9), sv9]) (fun x : Nat => UA u H.size x ∨ x = o) := by
  refine ctw_of (by decide +kernel) (Nat.le_of_ble_eq_true rfl) ?_
  intro pg en s mi args below meth co ls fx hs hr hlk htab hl
  subst hs
  obtain ⟨hx, hb, hml, hown, hts⟩ := id fx.1
  have hS : va_S (fun x : Nat => UA u s.heap.size x ∨ x = o) s.heap s.heap [] := va_S.rf
  obtain ⟨hz, hu, hcw, hd, hsp⟩ := id hw
  have hK := sz_K fx.2 hz
  refine lv_aload hx hb dL_nth_0 (lv_at hl 4 rfl) ?_
  refine lv_aload_n hx hb dL_nth_2 rfl (lv_at hl 0 rfl) ?_
  refine lv_iload_n hx hb dL_nth_3 rfl (lv_at hl 1 rfl) ?_
  refine lv_iload_n hx hb dL_nth_4 rfl (lv_at hl 2 rfl) ?_
  refine lv_iload_n hx hb dL_nth_5 rfl (lv_at hl 3 rfl) ?_
  refine c_IP (As := [.int (iI m), .int (iI w), .int (iI k)]) (rest := [.ref o]) (b := u 0) (C := RX1) fx hl (ok_nth θ l hl0 S0 _ u _ _ _ _ _ _ _ hw m w k h_0 h_1 h_2 h_3 h_4 h_5) (ob_recv hK hcw.1 rfl) dL_nth_6 k945 k946 k947 k1 k948 hd_X1_nth rfl ⟨by decide, by decide⟩ (Nat.le_of_ble_eq_true rfl) ⟨by (try dsimp only); omega, by (try dsimp only); omega⟩ hS (fun _ h => h.elim) (fun z2 H1 locs hpH1 hszH1 hk0H1 hS => ?_)
  obtain rfl := hpH1.symm
  refine q_i2lx hx hb dL_nth_9 ?_
  refine r_putN (θ := θ) (C := RX2) (T := TX2) (N := 2) (ci := 8) (v := .long (lL ((iI z2).toInt))) (ty := .long) hx hb hts gwX2 tyX2 tyX2_ok nmX2 hown hK ho (Or.inr rfl) hS rfl 0 (by decide) (va_Nw.use rfl (va_Nw.warmF fx.2 hn.2.1)) (fun _ h => h) rfl (by decide +kernel) rfl rfl (Nat.le_of_ble_eq_true rfl) dL_nth_10 (fun H3 locs hqH3 hszH3 hkH3 hS => ?_)
  have hoH3 : OB θ H3 o 8 [.long (lL ((iI z2).toInt)), sv9] := hqH3
  have hcwH3 := hcw.kept (fun i hi => hkH3 _ (Ne.symm (hod i hi)))
  refine lv_goto (tgt := 20) hx hb dL_nth_13 (by decide) ?_
  refine q_con hx hb dL_nth_20 ?_
  exact e_i hx hb hr hlk hS dL_nth_21 (by first | exact Nat.le_of_ble_eq_true rfl | ((try dsimp only); omega)) (by first | exact Nat.le_of_ble_eq_true rfl | ((try dsimp only); omega)) ⟨rfl, hcwH3, ⟨_, hoH3⟩⟩

set_option maxHeartbeats 4000000 in
set_option maxRecDepth 100000 in
theorem wn1_nth (θ : TH) (l : Launch) (hl0 : l.stackTraces = false) (S0 : State) (H : Heap) (u : Nat → Nat) (dt sy sm sd : Nat → Int) (bc rf kn : Int) (hw : CWR θ S0 u H dt sy sm sd bc rf kn) (hj : SJ θ S0 H) (hn : NX S0) (o : Nat) (nv : Int) (sv9 : Value) (ho : OB θ H o 8 [.long (lL nv), sv9]) (hod : ∀ i : Nat, i < 7 → o ≠ u i) (m w k : Int) (h_0 : -2147483648 ≤ m ∧ m < 2147483648) (h_1 : -2147483648 ≤ w ∧ w < 2147483648) (h_2 : -2147483648 ≤ k ∧ k < 2147483648) (h_3 : ¬ (-119988 ≤ m ∧ m ≤ 119999)) : CTW l yL_nth cL_nth 6 (some .int) [((0 : Nat), (13 : Nat), (16 : Nat), (21 : Nat))] 9 157 1 6 [.ref (u 0), .int (iI m), .int (iI w), .int (iI k), .ref o] S0 H (fun v9 H1 => v9 = some (.int (iI 1)) ∧ CW θ u H1 dt sy sm sd bc rf kn ∧ OB θ H1 o 8 [.long (lL nv), sv9]) (fun x : Nat => UA u H.size x ∨ x = o) := by
  refine ctw_of (by decide +kernel) (Nat.le_of_ble_eq_true rfl) ?_
  intro pg en s mi args below meth co ls fx hs hr hlk htab hl
  subst hs
  obtain ⟨hx, hb, hml, hown, hts⟩ := id fx.1
  have hS : va_S (fun x : Nat => UA u s.heap.size x ∨ x = o) s.heap s.heap [] := va_S.rf
  obtain ⟨hz, hu, hcw, hd, hsp⟩ := id hw
  have hK := sz_K fx.2 hz
  refine lv_aload hx hb dL_nth_0 (lv_at hl 4 rfl) ?_
  refine lv_aload_n hx hb dL_nth_2 rfl (lv_at hl 0 rfl) ?_
  refine lv_iload_n hx hb dL_nth_3 rfl (lv_at hl 1 rfl) ?_
  refine lv_iload_n hx hb dL_nth_4 rfl (lv_at hl 2 rfl) ?_
  refine lv_iload_n hx hb dL_nth_5 rfl (lv_at hl 3 rfl) ?_
  refine c_VT (As := [.int (iI m), .int (iI w), .int (iI k)]) (rest := [.ref o]) (b := u 0) (C := RX1) (E := "java/lang/IllegalArgumentException") (name := "java/lang/IllegalArgumentException") (k := 0) (a0 := 0) (a1 := 13) (hpc := 16) (ct := 21) fx hl (no1_nth θ l hl0 S0 _ u _ _ _ _ _ _ _ hw m w k h_0 h_1 h_2 h_3) (ob_recv hK hcw.1 rfl) dL_nth_6 k945 k946 k947 k1 k948 hd_X1_nth rfl ⟨by decide, by decide⟩ (Nat.le_of_ble_eq_true rfl) ⟨by (try dsimp only); omega, by (try dsimp only); omega⟩ hS (fun x h => Or.inl (Or.inr h)) htab rfl ⟨by decide, by decide⟩ (by decide) k697 (nw_at (args := args) fx.2 hz.2.2.2.2.2.2.2.2.1 (by decide +kernel)) (by show ∀ q ∈ ([] : List (Nat × Nat × Nat × Nat)), _; exact fun q h => absurd h List.not_mem_nil) (fun q2 H1 locs hszH1 hkH1 hS => ?_)
  have hcwH1 := hcw.kept (fun i hi => hkH1 _ (hcw.lt i hi))
  have hoH1 := ho.kept (hkH1 _ ho.lt)
  refine lv_astore (lv' := [(5, .ref q2), (0, .ref (u 0)), (1, .int (iI m)), (2, .int (iI w)), (3, .int (iI k)), (4, .ref o)]) hx hb dL_nth_16 hl (by decide) rfl (fun ls hl => ?_)
  refine q_con hx hb dL_nth_18 ?_
  exact e_i hx hb hr hlk hS dL_nth_19 (by first | exact Nat.le_of_ble_eq_true rfl | ((try dsimp only); omega)) (by first | exact Nat.le_of_ble_eq_true rfl | ((try dsimp only); omega)) ⟨rfl, hcwH1, hoH1⟩

set_option maxHeartbeats 4000000 in
set_option maxRecDepth 100000 in
theorem wn2_nth (θ : TH) (l : Launch) (hl0 : l.stackTraces = false) (S0 : State) (H : Heap) (u : Nat → Nat) (dt sy sm sd : Nat → Int) (bc rf kn : Int) (hw : CWR θ S0 u H dt sy sm sd bc rf kn) (hj : SJ θ S0 H) (hn : NX S0) (o : Nat) (nv : Int) (sv9 : Value) (ho : OB θ H o 8 [.long (lL nv), sv9]) (hod : ∀ i : Nat, i < 7 → o ≠ u i) (m w k : Int) (h_0 : -2147483648 ≤ m ∧ m < 2147483648) (h_1 : -2147483648 ≤ w ∧ w < 2147483648) (h_2 : -2147483648 ≤ k ∧ k < 2147483648) (h_3 : -119988 ≤ m ∧ m ≤ 119999) (h_4 : ¬ (1 ≤ w ∧ w ≤ 7)) : CTW l yL_nth cL_nth 6 (some .int) [((0 : Nat), (13 : Nat), (16 : Nat), (21 : Nat))] 8 137 1 6 [.ref (u 0), .int (iI m), .int (iI w), .int (iI k), .ref o] S0 H (fun v9 H1 => v9 = some (.int (iI 1)) ∧ CW θ u H1 dt sy sm sd bc rf kn ∧ OB θ H1 o 8 [.long (lL nv), sv9]) (fun x : Nat => UA u H.size x ∨ x = o) := by
  refine ctw_of (by decide +kernel) (Nat.le_of_ble_eq_true rfl) ?_
  intro pg en s mi args below meth co ls fx hs hr hlk htab hl
  subst hs
  obtain ⟨hx, hb, hml, hown, hts⟩ := id fx.1
  have hS : va_S (fun x : Nat => UA u s.heap.size x ∨ x = o) s.heap s.heap [] := va_S.rf
  obtain ⟨hz, hu, hcw, hd, hsp⟩ := id hw
  have hK := sz_K fx.2 hz
  refine lv_aload hx hb dL_nth_0 (lv_at hl 4 rfl) ?_
  refine lv_aload_n hx hb dL_nth_2 rfl (lv_at hl 0 rfl) ?_
  refine lv_iload_n hx hb dL_nth_3 rfl (lv_at hl 1 rfl) ?_
  refine lv_iload_n hx hb dL_nth_4 rfl (lv_at hl 2 rfl) ?_
  refine lv_iload_n hx hb dL_nth_5 rfl (lv_at hl 3 rfl) ?_
  refine c_VT (As := [.int (iI m), .int (iI w), .int (iI k)]) (rest := [.ref o]) (b := u 0) (C := RX1) (E := "java/lang/IllegalArgumentException") (name := "java/lang/IllegalArgumentException") (k := 0) (a0 := 0) (a1 := 13) (hpc := 16) (ct := 21) fx hl (no2_nth θ l hl0 S0 _ u _ _ _ _ _ _ _ hw m w k h_0 h_1 h_2 h_3 h_4) (ob_recv hK hcw.1 rfl) dL_nth_6 k945 k946 k947 k1 k948 hd_X1_nth rfl ⟨by decide, by decide⟩ (Nat.le_of_ble_eq_true rfl) ⟨by (try dsimp only); omega, by (try dsimp only); omega⟩ hS (fun x h => Or.inl (Or.inr h)) htab rfl ⟨by decide, by decide⟩ (by decide) k697 (nw_at (args := args) fx.2 hz.2.2.2.2.2.2.2.2.1 (by decide +kernel)) (by show ∀ q ∈ ([] : List (Nat × Nat × Nat × Nat)), _; exact fun q h => absurd h List.not_mem_nil) (fun q2 H1 locs hszH1 hkH1 hS => ?_)
  have hcwH1 := hcw.kept (fun i hi => hkH1 _ (hcw.lt i hi))
  have hoH1 := ho.kept (hkH1 _ ho.lt)
  refine lv_astore (lv' := [(5, .ref q2), (0, .ref (u 0)), (1, .int (iI m)), (2, .int (iI w)), (3, .int (iI k)), (4, .ref o)]) hx hb dL_nth_16 hl (by decide) rfl (fun ls hl => ?_)
  refine q_con hx hb dL_nth_18 ?_
  exact e_i hx hb hr hlk hS dL_nth_19 (by first | exact Nat.le_of_ble_eq_true rfl | ((try dsimp only); omega)) (by first | exact Nat.le_of_ble_eq_true rfl | ((try dsimp only); omega)) ⟨rfl, hcwH1, hoH1⟩

set_option maxHeartbeats 4000000 in
set_option maxRecDepth 100000 in
theorem wn3_nth (θ : TH) (l : Launch) (hl0 : l.stackTraces = false) (S0 : State) (H : Heap) (u : Nat → Nat) (dt sy sm sd : Nat → Int) (bc rf kn : Int) (hw : CWR θ S0 u H dt sy sm sd bc rf kn) (hj : SJ θ S0 H) (hn : NX S0) (o : Nat) (nv : Int) (sv9 : Value) (ho : OB θ H o 8 [.long (lL nv), sv9]) (hod : ∀ i : Nat, i < 7 → o ≠ u i) (m w k : Int) (h_0 : -2147483648 ≤ m ∧ m < 2147483648) (h_1 : -2147483648 ≤ w ∧ w < 2147483648) (h_2 : -2147483648 ≤ k ∧ k < 2147483648) (h_3 : -119988 ≤ m ∧ m ≤ 119999) (h_4 : 1 ≤ w ∧ w ≤ 7) (h_5 : ¬ (1 ≤ k ∧ k ≤ 5)) : CTW l yL_nth cL_nth 6 (some .int) [((0 : Nat), (13 : Nat), (16 : Nat), (21 : Nat))] 8 137 1 6 [.ref (u 0), .int (iI m), .int (iI w), .int (iI k), .ref o] S0 H (fun v9 H1 => v9 = some (.int (iI 1)) ∧ CW θ u H1 dt sy sm sd bc rf kn ∧ OB θ H1 o 8 [.long (lL nv), sv9]) (fun x : Nat => UA u H.size x ∨ x = o) := by
  refine ctw_of (by decide +kernel) (Nat.le_of_ble_eq_true rfl) ?_
  intro pg en s mi args below meth co ls fx hs hr hlk htab hl
  subst hs
  obtain ⟨hx, hb, hml, hown, hts⟩ := id fx.1
  have hS : va_S (fun x : Nat => UA u s.heap.size x ∨ x = o) s.heap s.heap [] := va_S.rf
  obtain ⟨hz, hu, hcw, hd, hsp⟩ := id hw
  have hK := sz_K fx.2 hz
  refine lv_aload hx hb dL_nth_0 (lv_at hl 4 rfl) ?_
  refine lv_aload_n hx hb dL_nth_2 rfl (lv_at hl 0 rfl) ?_
  refine lv_iload_n hx hb dL_nth_3 rfl (lv_at hl 1 rfl) ?_
  refine lv_iload_n hx hb dL_nth_4 rfl (lv_at hl 2 rfl) ?_
  refine lv_iload_n hx hb dL_nth_5 rfl (lv_at hl 3 rfl) ?_
  refine c_VT (As := [.int (iI m), .int (iI w), .int (iI k)]) (rest := [.ref o]) (b := u 0) (C := RX1) (E := "java/lang/IllegalArgumentException") (name := "java/lang/IllegalArgumentException") (k := 0) (a0 := 0) (a1 := 13) (hpc := 16) (ct := 21) fx hl (no3_nth θ l hl0 S0 _ u _ _ _ _ _ _ _ hw m w k h_0 h_1 h_2 h_3 h_4 h_5) (ob_recv hK hcw.1 rfl) dL_nth_6 k945 k946 k947 k1 k948 hd_X1_nth rfl ⟨by decide, by decide⟩ (Nat.le_of_ble_eq_true rfl) ⟨by (try dsimp only); omega, by (try dsimp only); omega⟩ hS (fun x h => Or.inl (Or.inr h)) htab rfl ⟨by decide, by decide⟩ (by decide) k697 (nw_at (args := args) fx.2 hz.2.2.2.2.2.2.2.2.1 (by decide +kernel)) (by show ∀ q ∈ ([] : List (Nat × Nat × Nat × Nat)), _; exact fun q h => absurd h List.not_mem_nil) (fun q2 H1 locs hszH1 hkH1 hS => ?_)
  have hcwH1 := hcw.kept (fun i hi => hkH1 _ (hcw.lt i hi))
  have hoH1 := ho.kept (hkH1 _ ho.lt)
  refine lv_astore (lv' := [(5, .ref q2), (0, .ref (u 0)), (1, .int (iI m)), (2, .int (iI w)), (3, .int (iI k)), (4, .ref o)]) hx hb dL_nth_16 hl (by decide) rfl (fun ls hl => ?_)
  refine q_con hx hb dL_nth_18 ?_
  exact e_i hx hb hr hlk hS dL_nth_19 (by first | exact Nat.le_of_ble_eq_true rfl | ((try dsimp only); omega)) (by first | exact Nat.le_of_ble_eq_true rfl | ((try dsimp only); omega)) ⟨rfl, hcwH1, hoH1⟩

set_option maxHeartbeats 4000000 in
set_option maxRecDepth 100000 in
theorem wr_inYear (θ : TH) (l : Launch) (hl0 : l.stackTraces = false) (S0 : State) (H : Heap) (u : Nat → Nat) (dt sy sm sd : Nat → Int) (bc rf kn : Int) (hw : CWR θ S0 u H dt sy sm sd bc rf kn) (hj : SJ θ S0 H) (hn : NX S0) (o : Nat) (nv : Int) (sv9 : Value) (ho : OB θ H o 8 [.long (lL nv), sv9]) (hod : ∀ i : Nat, i < 7 → o ≠ u i) (y k w : Int) (h_0 : -2147483648 ≤ y ∧ y < 2147483648) (h_1 : -2147483648 ≤ k ∧ k < 2147483648) (h_2 : -2147483648 ≤ w ∧ w < 2147483648) (h_3 : -9999 ≤ y ∧ y ≤ 9999) (h_4 : 1 ≤ k ∧ k ≤ 31) (h_5 : 1 ≤ w ∧ w ≤ 7) : CTW l yL_inYear cL_inYear 6 (some .int) [((0 : Nat), (13 : Nat), (16 : Nat), (21 : Nat))] 4 94 0 0 [.ref (u 0), .int (iI y), .int (iI k), .int (iI w), .ref o] S0 H (fun v9 H1 => v9 = some (.int (iI 0)) ∧ CW θ u H1 dt sy sm sd bc rf kn ∧ ∃ z9 : Int, OB θ H1 o 8 [.long (lL z9), sv9]) (fun x : Nat => UA u H.size x ∨ x = o) := by
  refine ctw_of (by decide +kernel) (Nat.le_of_ble_eq_true rfl) ?_
  intro pg en s mi args below meth co ls fx hs hr hlk htab hl
  subst hs
  obtain ⟨hx, hb, hml, hown, hts⟩ := id fx.1
  have hS : va_S (fun x : Nat => UA u s.heap.size x ∨ x = o) s.heap s.heap [] := va_S.rf
  obtain ⟨hz, hu, hcw, hd, hsp⟩ := id hw
  have hK := sz_K fx.2 hz
  refine lv_aload hx hb dL_inYear_0 (lv_at hl 4 rfl) ?_
  refine lv_aload_n hx hb dL_inYear_2 rfl (lv_at hl 0 rfl) ?_
  refine lv_iload_n hx hb dL_inYear_3 rfl (lv_at hl 1 rfl) ?_
  refine lv_iload_n hx hb dL_inYear_4 rfl (lv_at hl 2 rfl) ?_
  refine lv_iload_n hx hb dL_inYear_5 rfl (lv_at hl 3 rfl) ?_
  refine c_IP (As := [.int (iI y), .int (iI k), .int (iI w)]) (rest := [.ref o]) (b := u 0) (C := RX1) fx hl (ok_inYear θ l hl0 S0 _ u _ _ _ _ _ _ _ hw y k w h_0 h_1 h_2 h_3 h_4 h_5) (ob_recv hK hcw.1 rfl) dL_inYear_6 k953 k954 k955 k1 k956 hd_X1_inYear rfl ⟨by decide, by decide⟩ (Nat.le_of_ble_eq_true rfl) ⟨by (try dsimp only); omega, by (try dsimp only); omega⟩ hS (fun _ h => h.elim) (fun z2 H1 locs hpH1 hszH1 hk0H1 hS => ?_)
  obtain rfl := hpH1.symm
  refine q_i2lx hx hb dL_inYear_9 ?_
  refine r_putN (θ := θ) (C := RX2) (T := TX2) (N := 2) (ci := 8) (v := .long (lL ((iI z2).toInt))) (ty := .long) hx hb hts gwX2 tyX2 tyX2_ok nmX2 hown hK ho (Or.inr rfl) hS rfl 0 (by decide) (va_Nw.use rfl (va_Nw.warmF fx.2 hn.2.1)) (fun _ h => h) rfl (by decide +kernel) rfl rfl (Nat.le_of_ble_eq_true rfl) dL_inYear_10 (fun H3 locs hqH3 hszH3 hkH3 hS => ?_)
  have hoH3 : OB θ H3 o 8 [.long (lL ((iI z2).toInt)), sv9] := hqH3
  have hcwH3 := hcw.kept (fun i hi => hkH3 _ (Ne.symm (hod i hi)))
  refine lv_goto (tgt := 20) hx hb dL_inYear_13 (by decide) ?_
  refine q_con hx hb dL_inYear_20 ?_
  exact e_i hx hb hr hlk hS dL_inYear_21 (by first | exact Nat.le_of_ble_eq_true rfl | ((try dsimp only); omega)) (by first | exact Nat.le_of_ble_eq_true rfl | ((try dsimp only); omega)) ⟨rfl, hcwH3, ⟨_, hoH3⟩⟩

set_option maxHeartbeats 4000000 in
set_option maxRecDepth 100000 in
theorem wn1_inYear (θ : TH) (l : Launch) (hl0 : l.stackTraces = false) (S0 : State) (H : Heap) (u : Nat → Nat) (dt sy sm sd : Nat → Int) (bc rf kn : Int) (hw : CWR θ S0 u H dt sy sm sd bc rf kn) (hj : SJ θ S0 H) (hn : NX S0) (o : Nat) (nv : Int) (sv9 : Value) (ho : OB θ H o 8 [.long (lL nv), sv9]) (hod : ∀ i : Nat, i < 7 → o ≠ u i) (y k w : Int) (h_0 : -2147483648 ≤ y ∧ y < 2147483648) (h_1 : -2147483648 ≤ k ∧ k < 2147483648) (h_2 : -2147483648 ≤ w ∧ w < 2147483648) (h_3 : ¬ (-9999 ≤ y ∧ y ≤ 9999)) : CTW l yL_inYear cL_inYear 6 (some .int) [((0 : Nat), (13 : Nat), (16 : Nat), (21 : Nat))] 8 138 1 6 [.ref (u 0), .int (iI y), .int (iI k), .int (iI w), .ref o] S0 H (fun v9 H1 => v9 = some (.int (iI 1)) ∧ CW θ u H1 dt sy sm sd bc rf kn ∧ OB θ H1 o 8 [.long (lL nv), sv9]) (fun x : Nat => UA u H.size x ∨ x = o) := by
  refine ctw_of (by decide +kernel) (Nat.le_of_ble_eq_true rfl) ?_
  intro pg en s mi args below meth co ls fx hs hr hlk htab hl
  subst hs
  obtain ⟨hx, hb, hml, hown, hts⟩ := id fx.1
  have hS : va_S (fun x : Nat => UA u s.heap.size x ∨ x = o) s.heap s.heap [] := va_S.rf
  obtain ⟨hz, hu, hcw, hd, hsp⟩ := id hw
  have hK := sz_K fx.2 hz
  refine lv_aload hx hb dL_inYear_0 (lv_at hl 4 rfl) ?_
  refine lv_aload_n hx hb dL_inYear_2 rfl (lv_at hl 0 rfl) ?_
  refine lv_iload_n hx hb dL_inYear_3 rfl (lv_at hl 1 rfl) ?_
  refine lv_iload_n hx hb dL_inYear_4 rfl (lv_at hl 2 rfl) ?_
  refine lv_iload_n hx hb dL_inYear_5 rfl (lv_at hl 3 rfl) ?_
  refine c_VT (As := [.int (iI y), .int (iI k), .int (iI w)]) (rest := [.ref o]) (b := u 0) (C := RX1) (E := "java/lang/IllegalArgumentException") (name := "java/lang/IllegalArgumentException") (k := 0) (a0 := 0) (a1 := 13) (hpc := 16) (ct := 21) fx hl (no1_inYear θ l hl0 S0 _ u _ _ _ _ _ _ _ hw y k w h_0 h_1 h_2 h_3) (ob_recv hK hcw.1 rfl) dL_inYear_6 k953 k954 k955 k1 k956 hd_X1_inYear rfl ⟨by decide, by decide⟩ (Nat.le_of_ble_eq_true rfl) ⟨by (try dsimp only); omega, by (try dsimp only); omega⟩ hS (fun x h => Or.inl (Or.inr h)) htab rfl ⟨by decide, by decide⟩ (by decide) k697 (nw_at (args := args) fx.2 hz.2.2.2.2.2.2.2.2.1 (by decide +kernel)) (by show ∀ q ∈ ([] : List (Nat × Nat × Nat × Nat)), _; exact fun q h => absurd h List.not_mem_nil) (fun q2 H1 locs hszH1 hkH1 hS => ?_)
  have hcwH1 := hcw.kept (fun i hi => hkH1 _ (hcw.lt i hi))
  have hoH1 := ho.kept (hkH1 _ ho.lt)
  refine lv_astore (lv' := [(5, .ref q2), (0, .ref (u 0)), (1, .int (iI y)), (2, .int (iI k)), (3, .int (iI w)), (4, .ref o)]) hx hb dL_inYear_16 hl (by decide) rfl (fun ls hl => ?_)
  refine q_con hx hb dL_inYear_18 ?_
  exact e_i hx hb hr hlk hS dL_inYear_19 (by first | exact Nat.le_of_ble_eq_true rfl | ((try dsimp only); omega)) (by first | exact Nat.le_of_ble_eq_true rfl | ((try dsimp only); omega)) ⟨rfl, hcwH1, hoH1⟩

set_option maxHeartbeats 4000000 in
set_option maxRecDepth 100000 in
theorem wn2_inYear (θ : TH) (l : Launch) (hl0 : l.stackTraces = false) (S0 : State) (H : Heap) (u : Nat → Nat) (dt sy sm sd : Nat → Int) (bc rf kn : Int) (hw : CWR θ S0 u H dt sy sm sd bc rf kn) (hj : SJ θ S0 H) (hn : NX S0) (o : Nat) (nv : Int) (sv9 : Value) (ho : OB θ H o 8 [.long (lL nv), sv9]) (hod : ∀ i : Nat, i < 7 → o ≠ u i) (y k w : Int) (h_0 : -2147483648 ≤ y ∧ y < 2147483648) (h_1 : -2147483648 ≤ k ∧ k < 2147483648) (h_2 : -2147483648 ≤ w ∧ w < 2147483648) (h_3 : -9999 ≤ y ∧ y ≤ 9999) (h_4 : ¬ (1 ≤ k ∧ k ≤ 31)) : CTW l yL_inYear cL_inYear 6 (some .int) [((0 : Nat), (13 : Nat), (16 : Nat), (21 : Nat))] 8 138 1 6 [.ref (u 0), .int (iI y), .int (iI k), .int (iI w), .ref o] S0 H (fun v9 H1 => v9 = some (.int (iI 1)) ∧ CW θ u H1 dt sy sm sd bc rf kn ∧ OB θ H1 o 8 [.long (lL nv), sv9]) (fun x : Nat => UA u H.size x ∨ x = o) := by
  refine ctw_of (by decide +kernel) (Nat.le_of_ble_eq_true rfl) ?_
  intro pg en s mi args below meth co ls fx hs hr hlk htab hl
  subst hs
  obtain ⟨hx, hb, hml, hown, hts⟩ := id fx.1
  have hS : va_S (fun x : Nat => UA u s.heap.size x ∨ x = o) s.heap s.heap [] := va_S.rf
  obtain ⟨hz, hu, hcw, hd, hsp⟩ := id hw
  have hK := sz_K fx.2 hz
  refine lv_aload hx hb dL_inYear_0 (lv_at hl 4 rfl) ?_
  refine lv_aload_n hx hb dL_inYear_2 rfl (lv_at hl 0 rfl) ?_
  refine lv_iload_n hx hb dL_inYear_3 rfl (lv_at hl 1 rfl) ?_
  refine lv_iload_n hx hb dL_inYear_4 rfl (lv_at hl 2 rfl) ?_
  refine lv_iload_n hx hb dL_inYear_5 rfl (lv_at hl 3 rfl) ?_
  refine c_VT (As := [.int (iI y), .int (iI k), .int (iI w)]) (rest := [.ref o]) (b := u 0) (C := RX1) (E := "java/lang/IllegalArgumentException") (name := "java/lang/IllegalArgumentException") (k := 0) (a0 := 0) (a1 := 13) (hpc := 16) (ct := 21) fx hl (no2_inYear θ l hl0 S0 _ u _ _ _ _ _ _ _ hw y k w h_0 h_1 h_2 h_3 h_4) (ob_recv hK hcw.1 rfl) dL_inYear_6 k953 k954 k955 k1 k956 hd_X1_inYear rfl ⟨by decide, by decide⟩ (Nat.le_of_ble_eq_true rfl) ⟨by (try dsimp only); omega, by (try dsimp only); omega⟩ hS (fun x h => Or.inl (Or.inr h)) htab rfl ⟨by decide, by decide⟩ (by decide) k697 (nw_at (args := args) fx.2 hz.2.2.2.2.2.2.2.2.1 (by decide +kernel)) (by show ∀ q ∈ ([] : List (Nat × Nat × Nat × Nat)), _; exact fun q h => absurd h List.not_mem_nil) (fun q2 H1 locs hszH1 hkH1 hS => ?_)
  have hcwH1 := hcw.kept (fun i hi => hkH1 _ (hcw.lt i hi))
  have hoH1 := ho.kept (hkH1 _ ho.lt)
  refine lv_astore (lv' := [(5, .ref q2), (0, .ref (u 0)), (1, .int (iI y)), (2, .int (iI k)), (3, .int (iI w)), (4, .ref o)]) hx hb dL_inYear_16 hl (by decide) rfl (fun ls hl => ?_)
  refine q_con hx hb dL_inYear_18 ?_
  exact e_i hx hb hr hlk hS dL_inYear_19 (by first | exact Nat.le_of_ble_eq_true rfl | ((try dsimp only); omega)) (by first | exact Nat.le_of_ble_eq_true rfl | ((try dsimp only); omega)) ⟨rfl, hcwH1, hoH1⟩

set_option maxHeartbeats 4000000 in
set_option maxRecDepth 100000 in
theorem wn3_inYear (θ : TH) (l : Launch) (hl0 : l.stackTraces = false) (S0 : State) (H : Heap) (u : Nat → Nat) (dt sy sm sd : Nat → Int) (bc rf kn : Int) (hw : CWR θ S0 u H dt sy sm sd bc rf kn) (hj : SJ θ S0 H) (hn : NX S0) (o : Nat) (nv : Int) (sv9 : Value) (ho : OB θ H o 8 [.long (lL nv), sv9]) (hod : ∀ i : Nat, i < 7 → o ≠ u i) (y k w : Int) (h_0 : -2147483648 ≤ y ∧ y < 2147483648) (h_1 : -2147483648 ≤ k ∧ k < 2147483648) (h_2 : -2147483648 ≤ w ∧ w < 2147483648) (h_3 : -9999 ≤ y ∧ y ≤ 9999) (h_4 : 1 ≤ k ∧ k ≤ 31) (h_5 : ¬ (1 ≤ w ∧ w ≤ 7)) : CTW l yL_inYear cL_inYear 6 (some .int) [((0 : Nat), (13 : Nat), (16 : Nat), (21 : Nat))] 8 138 1 6 [.ref (u 0), .int (iI y), .int (iI k), .int (iI w), .ref o] S0 H (fun v9 H1 => v9 = some (.int (iI 1)) ∧ CW θ u H1 dt sy sm sd bc rf kn ∧ OB θ H1 o 8 [.long (lL nv), sv9]) (fun x : Nat => UA u H.size x ∨ x = o) := by
  refine ctw_of (by decide +kernel) (Nat.le_of_ble_eq_true rfl) ?_
  intro pg en s mi args below meth co ls fx hs hr hlk htab hl
  subst hs
  obtain ⟨hx, hb, hml, hown, hts⟩ := id fx.1
  have hS : va_S (fun x : Nat => UA u s.heap.size x ∨ x = o) s.heap s.heap [] := va_S.rf
  obtain ⟨hz, hu, hcw, hd, hsp⟩ := id hw
  have hK := sz_K fx.2 hz
  refine lv_aload hx hb dL_inYear_0 (lv_at hl 4 rfl) ?_
  refine lv_aload_n hx hb dL_inYear_2 rfl (lv_at hl 0 rfl) ?_
  refine lv_iload_n hx hb dL_inYear_3 rfl (lv_at hl 1 rfl) ?_
  refine lv_iload_n hx hb dL_inYear_4 rfl (lv_at hl 2 rfl) ?_
  refine lv_iload_n hx hb dL_inYear_5 rfl (lv_at hl 3 rfl) ?_
  refine c_VT (As := [.int (iI y), .int (iI k), .int (iI w)]) (rest := [.ref o]) (b := u 0) (C := RX1) (E := "java/lang/IllegalArgumentException") (name := "java/lang/IllegalArgumentException") (k := 0) (a0 := 0) (a1 := 13) (hpc := 16) (ct := 21) fx hl (no3_inYear θ l hl0 S0 _ u _ _ _ _ _ _ _ hw y k w h_0 h_1 h_2 h_3 h_4 h_5) (ob_recv hK hcw.1 rfl) dL_inYear_6 k953 k954 k955 k1 k956 hd_X1_inYear rfl ⟨by decide, by decide⟩ (Nat.le_of_ble_eq_true rfl) ⟨by (try dsimp only); omega, by (try dsimp only); omega⟩ hS (fun x h => Or.inl (Or.inr h)) htab rfl ⟨by decide, by decide⟩ (by decide) k697 (nw_at (args := args) fx.2 hz.2.2.2.2.2.2.2.2.1 (by decide +kernel)) (by show ∀ q ∈ ([] : List (Nat × Nat × Nat × Nat)), _; exact fun q h => absurd h List.not_mem_nil) (fun q2 H1 locs hszH1 hkH1 hS => ?_)
  have hcwH1 := hcw.kept (fun i hi => hkH1 _ (hcw.lt i hi))
  have hoH1 := ho.kept (hkH1 _ ho.lt)
  refine lv_astore (lv' := [(5, .ref q2), (0, .ref (u 0)), (1, .int (iI y)), (2, .int (iI k)), (3, .int (iI w)), (4, .ref o)]) hx hb dL_inYear_16 hl (by decide) rfl (fun ls hl => ?_)
  refine q_con hx hb dL_inYear_18 ?_
  exact e_i hx hb hr hlk hS dL_inYear_19 (by first | exact Nat.le_of_ble_eq_true rfl | ((try dsimp only); omega)) (by first | exact Nat.le_of_ble_eq_true rfl | ((try dsimp only); omega)) ⟨rfl, hcwH1, hoH1⟩

set_option maxHeartbeats 4000000 in
set_option maxRecDepth 100000 in
theorem wr_recurs (θ : TH) (l : Launch) (hl0 : l.stackTraces = false) (S0 : State) (H : Heap) (u : Nat → Nat) (dt sy sm sd : Nat → Int) (bc rf kn : Int) (hw : CWR θ S0 u H dt sy sm sd bc rf kn) (hj : SJ θ S0 H) (hn : NX S0) (o : Nat) (nv : Int) (sv9 : Value) (ho : OB θ H o 8 [.long (lL nv), sv9]) (hod : ∀ i : Nat, i < 7 → o ≠ u i) (a w k : Int) (h_0 : -2147483648 ≤ a ∧ a < 2147483648) (h_1 : -2147483648 ≤ w ∧ w < 2147483648) (h_2 : -2147483648 ≤ k ∧ k < 2147483648) (h_3 : 0 ≤ a ∧ a < 6) (h_4 : 1 ≤ w ∧ w ≤ 7) (h_5 : 0 ≤ k ∧ k ≤ 48) : CTW l yL_recurs cL_recurs 6 (some .int) [((0 : Nat), (13 : Nat), (16 : Nat), (19 : Nat)), ((0 : Nat), (13 : Nat), (20 : Nat), (21 : Nat))] 5 118 0 0 [.ref (u 0), .int (iI a), .int (iI w), .int (iI k), .ref o] S0 H (fun v9 H1 => v9 = some (.int (iI 0)) ∧ CW θ u H1 dt sy sm sd bc rf kn ∧ ∃ z9 : Int, OB θ H1 o 8 [.long (lL z9), sv9]) (fun x : Nat => UA u H.size x ∨ x = o) := by
  refine ctw_of (by decide +kernel) (Nat.le_of_ble_eq_true rfl) ?_
  intro pg en s mi args below meth co ls fx hs hr hlk htab hl
  subst hs
  obtain ⟨hx, hb, hml, hown, hts⟩ := id fx.1
  have hS : va_S (fun x : Nat => UA u s.heap.size x ∨ x = o) s.heap s.heap [] := va_S.rf
  obtain ⟨hz, hu, hcw, hd, hsp⟩ := id hw
  have hK := sz_K fx.2 hz
  refine lv_aload hx hb dL_recurs_0 (lv_at hl 4 rfl) ?_
  refine lv_aload_n hx hb dL_recurs_2 rfl (lv_at hl 0 rfl) ?_
  refine lv_iload_n hx hb dL_recurs_3 rfl (lv_at hl 1 rfl) ?_
  refine lv_iload_n hx hb dL_recurs_4 rfl (lv_at hl 2 rfl) ?_
  refine lv_iload_n hx hb dL_recurs_5 rfl (lv_at hl 3 rfl) ?_
  refine c_IP (As := [.int (iI a), .int (iI w), .int (iI k)]) (rest := [.ref o]) (b := u 0) (C := RX1) fx hl (ok_recurs θ l hl0 S0 _ u _ _ _ _ _ _ _ hw a w k h_0 h_1 h_2 h_3 h_4 h_5) (ob_recv hK hcw.1 rfl) dL_recurs_6 k960 k961 k962 k1 k963 hd_X1_recurs rfl ⟨by decide, by decide⟩ (Nat.le_of_ble_eq_true rfl) ⟨by (try dsimp only); omega, by (try dsimp only); omega⟩ hS (fun _ h => h.elim) (fun z2 H1 locs hpH1 hszH1 hk0H1 hS => ?_)
  obtain rfl := hpH1.symm
  refine q_i2lx hx hb dL_recurs_9 ?_
  refine r_putN (θ := θ) (C := RX2) (T := TX2) (N := 2) (ci := 8) (v := .long (lL ((iI z2).toInt))) (ty := .long) hx hb hts gwX2 tyX2 tyX2_ok nmX2 hown hK ho (Or.inr rfl) hS rfl 0 (by decide) (va_Nw.use rfl (va_Nw.warmF fx.2 hn.2.1)) (fun _ h => h) rfl (by decide +kernel) rfl rfl (Nat.le_of_ble_eq_true rfl) dL_recurs_10 (fun H3 locs hqH3 hszH3 hkH3 hS => ?_)
  have hoH3 : OB θ H3 o 8 [.long (lL ((iI z2).toInt)), sv9] := hqH3
  have hcwH3 := hcw.kept (fun i hi => hkH3 _ (Ne.symm (hod i hi)))
  refine lv_goto (tgt := 24) hx hb dL_recurs_13 (by decide) ?_
  refine q_con hx hb dL_recurs_24 ?_
  exact e_i hx hb hr hlk hS dL_recurs_25 (by first | exact Nat.le_of_ble_eq_true rfl | ((try dsimp only); omega)) (by first | exact Nat.le_of_ble_eq_true rfl | ((try dsimp only); omega)) ⟨rfl, hcwH3, ⟨_, hoH3⟩⟩

set_option maxHeartbeats 4000000 in
set_option maxRecDepth 100000 in
theorem wn1_recurs (θ : TH) (l : Launch) (hl0 : l.stackTraces = false) (S0 : State) (H : Heap) (u : Nat → Nat) (dt sy sm sd : Nat → Int) (bc rf kn : Int) (hw : CWR θ S0 u H dt sy sm sd bc rf kn) (hj : SJ θ S0 H) (hn : NX S0) (o : Nat) (nv : Int) (sv9 : Value) (ho : OB θ H o 8 [.long (lL nv), sv9]) (hod : ∀ i : Nat, i < 7 → o ≠ u i) (a w k : Int) (h_0 : -2147483648 ≤ a ∧ a < 2147483648) (h_1 : -2147483648 ≤ w ∧ w < 2147483648) (h_2 : -2147483648 ≤ k ∧ k < 2147483648) (h_3 : ¬ (0 ≤ a ∧ a < 6)) : CTW l yL_recurs cL_recurs 6 (some .int) [((0 : Nat), (13 : Nat), (16 : Nat), (19 : Nat)), ((0 : Nat), (13 : Nat), (20 : Nat), (21 : Nat))] 8 136 1 6 [.ref (u 0), .int (iI a), .int (iI w), .int (iI k), .ref o] S0 H (fun v9 H1 => v9 = some (.int (iI 1)) ∧ CW θ u H1 dt sy sm sd bc rf kn ∧ OB θ H1 o 8 [.long (lL nv), sv9]) (fun x : Nat => UA u H.size x ∨ x = o) := by
  refine ctw_of (by decide +kernel) (Nat.le_of_ble_eq_true rfl) ?_
  intro pg en s mi args below meth co ls fx hs hr hlk htab hl
  subst hs
  obtain ⟨hx, hb, hml, hown, hts⟩ := id fx.1
  have hS : va_S (fun x : Nat => UA u s.heap.size x ∨ x = o) s.heap s.heap [] := va_S.rf
  obtain ⟨hz, hu, hcw, hd, hsp⟩ := id hw
  have hK := sz_K fx.2 hz
  refine lv_aload hx hb dL_recurs_0 (lv_at hl 4 rfl) ?_
  refine lv_aload_n hx hb dL_recurs_2 rfl (lv_at hl 0 rfl) ?_
  refine lv_iload_n hx hb dL_recurs_3 rfl (lv_at hl 1 rfl) ?_
  refine lv_iload_n hx hb dL_recurs_4 rfl (lv_at hl 2 rfl) ?_
  refine lv_iload_n hx hb dL_recurs_5 rfl (lv_at hl 3 rfl) ?_
  refine c_VT (As := [.int (iI a), .int (iI w), .int (iI k)]) (rest := [.ref o]) (b := u 0) (C := RX1) (E := "java/lang/IndexOutOfBoundsException") (name := "java/lang/IndexOutOfBoundsException") (k := 0) (a0 := 0) (a1 := 13) (hpc := 16) (ct := 19) fx hl (no1_recurs θ l hl0 S0 _ u _ _ _ _ _ _ _ hw a w k h_0 h_1 h_2 h_3) (ob_recv hK hcw.1 rfl) dL_recurs_6 k960 k961 k962 k1 k963 hd_X1_recurs rfl ⟨by decide, by decide⟩ (Nat.le_of_ble_eq_true rfl) ⟨by (try dsimp only); omega, by (try dsimp only); omega⟩ hS (fun x h => Or.inl (Or.inr h)) htab rfl ⟨by decide, by decide⟩ (by decide) k696 (nw_at (args := args) fx.2 hz.2.2.2.2.2.2.2.2.1 (by decide +kernel)) (by show ∀ q ∈ ([] : List (Nat × Nat × Nat × Nat)), _; exact fun q h => absurd h List.not_mem_nil) (fun q2 H1 locs hszH1 hkH1 hS => ?_)
  have hcwH1 := hcw.kept (fun i hi => hkH1 _ (hcw.lt i hi))
  have hoH1 := ho.kept (hkH1 _ ho.lt)
  refine lv_astore (lv' := [(5, .ref q2), (0, .ref (u 0)), (1, .int (iI a)), (2, .int (iI w)), (3, .int (iI k)), (4, .ref o)]) hx hb dL_recurs_16 hl (by decide) rfl (fun ls hl => ?_)
  refine q_con hx hb dL_recurs_18 ?_
  exact e_i hx hb hr hlk hS dL_recurs_19 (by first | exact Nat.le_of_ble_eq_true rfl | ((try dsimp only); omega)) (by first | exact Nat.le_of_ble_eq_true rfl | ((try dsimp only); omega)) ⟨rfl, hcwH1, hoH1⟩

set_option maxHeartbeats 4000000 in
set_option maxRecDepth 100000 in
theorem wn2_recurs (θ : TH) (l : Launch) (hl0 : l.stackTraces = false) (S0 : State) (H : Heap) (u : Nat → Nat) (dt sy sm sd : Nat → Int) (bc rf kn : Int) (hw : CWR θ S0 u H dt sy sm sd bc rf kn) (hj : SJ θ S0 H) (hn : NX S0) (o : Nat) (nv : Int) (sv9 : Value) (ho : OB θ H o 8 [.long (lL nv), sv9]) (hod : ∀ i : Nat, i < 7 → o ≠ u i) (a w k : Int) (h_0 : -2147483648 ≤ a ∧ a < 2147483648) (h_1 : -2147483648 ≤ w ∧ w < 2147483648) (h_2 : -2147483648 ≤ k ∧ k < 2147483648) (h_3 : 0 ≤ a ∧ a < 6) (h_4 : ¬ (1 ≤ w ∧ w ≤ 7)) : CTW l yL_recurs cL_recurs 6 (some .int) [((0 : Nat), (13 : Nat), (16 : Nat), (19 : Nat)), ((0 : Nat), (13 : Nat), (20 : Nat), (21 : Nat))] 8 138 1 6 [.ref (u 0), .int (iI a), .int (iI w), .int (iI k), .ref o] S0 H (fun v9 H1 => v9 = some (.int (iI 2)) ∧ CW θ u H1 dt sy sm sd bc rf kn ∧ OB θ H1 o 8 [.long (lL nv), sv9]) (fun x : Nat => UA u H.size x ∨ x = o) := by
  refine ctw_of (by decide +kernel) (Nat.le_of_ble_eq_true rfl) ?_
  intro pg en s mi args below meth co ls fx hs hr hlk htab hl
  subst hs
  obtain ⟨hx, hb, hml, hown, hts⟩ := id fx.1
  have hS : va_S (fun x : Nat => UA u s.heap.size x ∨ x = o) s.heap s.heap [] := va_S.rf
  obtain ⟨hz, hu, hcw, hd, hsp⟩ := id hw
  have hK := sz_K fx.2 hz
  refine lv_aload hx hb dL_recurs_0 (lv_at hl 4 rfl) ?_
  refine lv_aload_n hx hb dL_recurs_2 rfl (lv_at hl 0 rfl) ?_
  refine lv_iload_n hx hb dL_recurs_3 rfl (lv_at hl 1 rfl) ?_
  refine lv_iload_n hx hb dL_recurs_4 rfl (lv_at hl 2 rfl) ?_
  refine lv_iload_n hx hb dL_recurs_5 rfl (lv_at hl 3 rfl) ?_
  refine c_VT (As := [.int (iI a), .int (iI w), .int (iI k)]) (rest := [.ref o]) (b := u 0) (C := RX1) (E := "java/lang/IllegalArgumentException") (name := "java/lang/IllegalArgumentException") (k := 1) (a0 := 0) (a1 := 13) (hpc := 20) (ct := 21) fx hl (no2_recurs θ l hl0 S0 _ u _ _ _ _ _ _ _ hw a w k h_0 h_1 h_2 h_3 h_4) (ob_recv hK hcw.1 rfl) dL_recurs_6 k960 k961 k962 k1 k963 hd_X1_recurs rfl ⟨by decide, by decide⟩ (Nat.le_of_ble_eq_true rfl) ⟨by (try dsimp only); omega, by (try dsimp only); omega⟩ hS (fun x h => Or.inl (Or.inr h)) htab rfl ⟨by decide, by decide⟩ (by decide) k697 (nw_at (args := args) fx.2 hz.2.2.2.2.2.2.2.2.1 (by decide +kernel)) (by show ∀ q ∈ ([(0, 13, 16, 19)] : List (Nat × Nat × Nat × Nat)), _; exact List.forall_mem_cons.mpr ⟨⟨by decide, _, k696, hn.1.1⟩, fun q h => absurd h List.not_mem_nil⟩) (fun q2 H1 locs hszH1 hkH1 hS => ?_)
  have hcwH1 := hcw.kept (fun i hi => hkH1 _ (hcw.lt i hi))
  have hoH1 := ho.kept (hkH1 _ ho.lt)
  refine lv_astore (lv' := [(5, .ref q2), (0, .ref (u 0)), (1, .int (iI a)), (2, .int (iI w)), (3, .int (iI k)), (4, .ref o)]) hx hb dL_recurs_20 hl (by decide) rfl (fun ls hl => ?_)
  refine q_con hx hb dL_recurs_22 ?_
  exact e_i hx hb hr hlk hS dL_recurs_23 (by first | exact Nat.le_of_ble_eq_true rfl | ((try dsimp only); omega)) (by first | exact Nat.le_of_ble_eq_true rfl | ((try dsimp only); omega)) ⟨rfl, hcwH1, hoH1⟩

set_option maxHeartbeats 4000000 in
set_option maxRecDepth 100000 in
theorem wn3_recurs (θ : TH) (l : Launch) (hl0 : l.stackTraces = false) (S0 : State) (H : Heap) (u : Nat → Nat) (dt sy sm sd : Nat → Int) (bc rf kn : Int) (hw : CWR θ S0 u H dt sy sm sd bc rf kn) (hj : SJ θ S0 H) (hn : NX S0) (o : Nat) (nv : Int) (sv9 : Value) (ho : OB θ H o 8 [.long (lL nv), sv9]) (hod : ∀ i : Nat, i < 7 → o ≠ u i) (a w k : Int) (h_0 : -2147483648 ≤ a ∧ a < 2147483648) (h_1 : -2147483648 ≤ w ∧ w < 2147483648) (h_2 : -2147483648 ≤ k ∧ k < 2147483648) (h_3 : 0 ≤ a ∧ a < 6) (h_4 : 1 ≤ w ∧ w ≤ 7) (h_5 : ¬ (0 ≤ k ∧ k ≤ 48)) : CTW l yL_recurs cL_recurs 6 (some .int) [((0 : Nat), (13 : Nat), (16 : Nat), (19 : Nat)), ((0 : Nat), (13 : Nat), (20 : Nat), (21 : Nat))] 8 138 1 6 [.ref (u 0), .int (iI a), .int (iI w), .int (iI k), .ref o] S0 H (fun v9 H1 => v9 = some (.int (iI 2)) ∧ CW θ u H1 dt sy sm sd bc rf kn ∧ OB θ H1 o 8 [.long (lL nv), sv9]) (fun x : Nat => UA u H.size x ∨ x = o) := by
  refine ctw_of (by decide +kernel) (Nat.le_of_ble_eq_true rfl) ?_
  intro pg en s mi args below meth co ls fx hs hr hlk htab hl
  subst hs
  obtain ⟨hx, hb, hml, hown, hts⟩ := id fx.1
  have hS : va_S (fun x : Nat => UA u s.heap.size x ∨ x = o) s.heap s.heap [] := va_S.rf
  obtain ⟨hz, hu, hcw, hd, hsp⟩ := id hw
  have hK := sz_K fx.2 hz
  refine lv_aload hx hb dL_recurs_0 (lv_at hl 4 rfl) ?_
  refine lv_aload_n hx hb dL_recurs_2 rfl (lv_at hl 0 rfl) ?_
  refine lv_iload_n hx hb dL_recurs_3 rfl (lv_at hl 1 rfl) ?_
  refine lv_iload_n hx hb dL_recurs_4 rfl (lv_at hl 2 rfl) ?_
  refine lv_iload_n hx hb dL_recurs_5 rfl (lv_at hl 3 rfl) ?_
  refine c_VT (As := [.int (iI a), .int (iI w), .int (iI k)]) (rest := [.ref o]) (b := u 0) (C := RX1) (E := "java/lang/IllegalArgumentException") (name := "java/lang/IllegalArgumentException") (k := 1) (a0 := 0) (a1 := 13) (hpc := 20) (ct := 21) fx hl (no3_recurs θ l hl0 S0 _ u _ _ _ _ _ _ _ hw a w k h_0 h_1 h_2 h_3 h_4 h_5) (ob_recv hK hcw.1 rfl) dL_recurs_6 k960 k961 k962 k1 k963 hd_X1_recurs rfl ⟨by decide, by decide⟩ (Nat.le_of_ble_eq_true rfl) ⟨by (try dsimp only); omega, by (try dsimp only); omega⟩ hS (fun x h => Or.inl (Or.inr h)) htab rfl ⟨by decide, by decide⟩ (by decide) k697 (nw_at (args := args) fx.2 hz.2.2.2.2.2.2.2.2.1 (by decide +kernel)) (by show ∀ q ∈ ([(0, 13, 16, 19)] : List (Nat × Nat × Nat × Nat)), _; exact List.forall_mem_cons.mpr ⟨⟨by decide, _, k696, hn.1.1⟩, fun q h => absurd h List.not_mem_nil⟩) (fun q2 H1 locs hszH1 hkH1 hS => ?_)
  have hcwH1 := hcw.kept (fun i hi => hkH1 _ (hcw.lt i hi))
  have hoH1 := ho.kept (hkH1 _ ho.lt)
  refine lv_astore (lv' := [(5, .ref q2), (0, .ref (u 0)), (1, .int (iI a)), (2, .int (iI w)), (3, .int (iI k)), (4, .ref o)]) hx hb dL_recurs_20 hl (by decide) rfl (fun ls hl => ?_)
  refine q_con hx hb dL_recurs_22 ?_
  exact e_i hx hb hr hlk hS dL_recurs_23 (by first | exact Nat.le_of_ble_eq_true rfl | ((try dsimp only); omega)) (by first | exact Nat.le_of_ble_eq_true rfl | ((try dsimp only); omega)) ⟨rfl, hcwH1, hoH1⟩

set_option maxHeartbeats 4000000 in
set_option maxRecDepth 100000 in
theorem wr_age (θ : TH) (l : Launch) (hl0 : l.stackTraces = false) (S0 : State) (H : Heap) (u : Nat → Nat) (dt sy sm sd : Nat → Int) (bc rf kn : Int) (hw : CWR θ S0 u H dt sy sm sd bc rf kn) (hj : SJ θ S0 H) (hn : NX S0) (o : Nat) (nv : Int) (sv9 : Value) (ho : OB θ H o 8 [.long (lL nv), sv9]) (hod : ∀ i : Nat, i < 7 → o ≠ u i) (a b : Int) (h_0 : -2147483648 ≤ a ∧ a < 2147483648) (h_1 : -2147483648 ≤ b ∧ b < 2147483648) (h_2 : 0 ≤ a ∧ a < 6) (h_3 : 0 ≤ b ∧ b < 6) (h_4 : dt a.toNat ≤ dt b.toNat) : CTW l yL_age cL_age 5 (some .int) [((0 : Nat), (11 : Nat), (14 : Nat), (19 : Nat)), ((0 : Nat), (11 : Nat), (18 : Nat), (23 : Nat))] 6 134 0 0 [.ref (u 0), .int (iI a), .int (iI b), .ref o] S0 H (fun v9 H1 => v9 = some (.int (iI 0)) ∧ CW θ u H1 dt sy sm sd bc rf kn ∧ OB θ H1 o 8 [.long (lL (iI (muI (dt a.toNat) (dt b.toNat) / 12)).toInt), sv9]) (fun x : Nat => UA u H.size x ∨ x = o) := by
  refine ctw_of (by decide +kernel) (Nat.le_of_ble_eq_true rfl) ?_
  intro pg en s mi args below meth co ls fx hs hr hlk htab hl
  subst hs
  obtain ⟨hx, hb, hml, hown, hts⟩ := id fx.1
  have hS : va_S (fun x : Nat => UA u s.heap.size x ∨ x = o) s.heap s.heap [] := va_S.rf
  obtain ⟨hz, hu, hcw, hd, hsp⟩ := id hw
  have hK := sz_K fx.2 hz
  refine lv_aload_n hx hb dL_age_0 rfl (lv_at hl 3 rfl) ?_
  refine lv_aload_n hx hb dL_age_1 rfl (lv_at hl 0 rfl) ?_
  refine lv_iload_n hx hb dL_age_2 rfl (lv_at hl 1 rfl) ?_
  refine lv_iload_n hx hb dL_age_3 rfl (lv_at hl 2 rfl) ?_
  refine c_Vr (As := [.int (iI a), .int (iI b)]) (rest := [.ref o]) (b := u 0) (C := RX1) (r := some (.int (iI (muI (dt a.toNat) (dt b.toNat) / 12)))) (st1 := [.int (iI (muI (dt a.toNat) (dt b.toNat) / 12)), .ref o]) fx hl (ok_age θ l hl0 S0 _ u _ _ _ _ _ _ _ hw a b h_0 h_1 h_2 h_3 h_4) (ob_recv hK hcw.1 rfl) dL_age_4 k967 k968 k969 k1 k970 hd_X1_age rfl rfl ⟨by decide, by decide⟩ (Nat.le_of_ble_eq_true rfl) ⟨by (try dsimp only); omega, by (try dsimp only); omega⟩ hS (fun _ h => h.elim) (fun H1 locs hpH1 hszH1 hk0H1 hS => ?_)
  obtain rfl := hpH1.symm
  refine q_i2lx hx hb dL_age_7 ?_
  refine r_putN (θ := θ) (C := RX2) (T := TX2) (N := 2) (ci := 8) (v := .long (lL ((iI (muI (dt a.toNat) (dt b.toNat) / 12)).toInt))) (ty := .long) hx hb hts gwX2 tyX2 tyX2_ok nmX2 hown hK ho (Or.inr rfl) hS rfl 0 (by decide) (va_Nw.use rfl (va_Nw.warmF fx.2 hn.2.1)) (fun _ h => h) rfl (by decide +kernel) rfl rfl (Nat.le_of_ble_eq_true rfl) dL_age_8 (fun H2 locs hqH2 hszH2 hkH2 hS => ?_)
  have hoH2 : OB θ H2 o 8 [.long (lL ((iI (muI (dt a.toNat) (dt b.toNat) / 12)).toInt)), sv9] := hqH2
  have hcwH2 := hcw.kept (fun i hi => hkH2 _ (Ne.symm (hod i hi)))
  refine lv_goto (tgt := 22) hx hb dL_age_11 (by decide) ?_
  refine q_con hx hb dL_age_22 ?_
  exact e_i hx hb hr hlk hS dL_age_23 (by first | exact Nat.le_of_ble_eq_true rfl | ((try dsimp only); omega)) (by first | exact Nat.le_of_ble_eq_true rfl | ((try dsimp only); omega)) ⟨rfl, hcwH2, hoH2⟩

set_option maxHeartbeats 4000000 in
set_option maxRecDepth 100000 in
theorem wn1_age (θ : TH) (l : Launch) (hl0 : l.stackTraces = false) (S0 : State) (H : Heap) (u : Nat → Nat) (dt sy sm sd : Nat → Int) (bc rf kn : Int) (hw : CWR θ S0 u H dt sy sm sd bc rf kn) (hj : SJ θ S0 H) (hn : NX S0) (o : Nat) (nv : Int) (sv9 : Value) (ho : OB θ H o 8 [.long (lL nv), sv9]) (hod : ∀ i : Nat, i < 7 → o ≠ u i) (a b : Int) (h_0 : -2147483648 ≤ a ∧ a < 2147483648) (h_1 : -2147483648 ≤ b ∧ b < 2147483648) (h_2 : ¬ (0 ≤ a ∧ a < 6)) : CTW l yL_age cL_age 5 (some .int) [((0 : Nat), (11 : Nat), (14 : Nat), (19 : Nat)), ((0 : Nat), (11 : Nat), (18 : Nat), (23 : Nat))] 8 132 1 6 [.ref (u 0), .int (iI a), .int (iI b), .ref o] S0 H (fun v9 H1 => v9 = some (.int (iI 1)) ∧ CW θ u H1 dt sy sm sd bc rf kn ∧ OB θ H1 o 8 [.long (lL nv), sv9]) (fun x : Nat => UA u H.size x ∨ x = o) := by
  refine ctw_of (by decide +kernel) (Nat.le_of_ble_eq_true rfl) ?_
  intro pg en s mi args below meth co ls fx hs hr hlk htab hl
  subst hs
  obtain ⟨hx, hb, hml, hown, hts⟩ := id fx.1
  have hS : va_S (fun x : Nat => UA u s.heap.size x ∨ x = o) s.heap s.heap [] := va_S.rf
  obtain ⟨hz, hu, hcw, hd, hsp⟩ := id hw
  have hK := sz_K fx.2 hz
  refine lv_aload_n hx hb dL_age_0 rfl (lv_at hl 3 rfl) ?_
  refine lv_aload_n hx hb dL_age_1 rfl (lv_at hl 0 rfl) ?_
  refine lv_iload_n hx hb dL_age_2 rfl (lv_at hl 1 rfl) ?_
  refine lv_iload_n hx hb dL_age_3 rfl (lv_at hl 2 rfl) ?_
  refine c_VT (As := [.int (iI a), .int (iI b)]) (rest := [.ref o]) (b := u 0) (C := RX1) (E := "java/lang/IndexOutOfBoundsException") (name := "java/lang/IndexOutOfBoundsException") (k := 0) (a0 := 0) (a1 := 11) (hpc := 14) (ct := 19) fx hl (no1_age θ l hl0 S0 _ u _ _ _ _ _ _ _ hw a b h_0 h_1 h_2) (ob_recv hK hcw.1 rfl) dL_age_4 k967 k968 k969 k1 k970 hd_X1_age rfl ⟨by decide, by decide⟩ (Nat.le_of_ble_eq_true rfl) ⟨by (try dsimp only); omega, by (try dsimp only); omega⟩ hS (fun x h => Or.inl (Or.inr h)) htab rfl ⟨by decide, by decide⟩ (by decide) k696 (nw_at (args := args) fx.2 hz.2.2.2.2.2.2.2.2.1 (by decide +kernel)) (by show ∀ q ∈ ([] : List (Nat × Nat × Nat × Nat)), _; exact fun q h => absurd h List.not_mem_nil) (fun q2 H1 locs hszH1 hkH1 hS => ?_)
  have hcwH1 := hcw.kept (fun i hi => hkH1 _ (hcw.lt i hi))
  have hoH1 := ho.kept (hkH1 _ ho.lt)
  refine lv_astore (lv' := [(4, .ref q2), (0, .ref (u 0)), (1, .int (iI a)), (2, .int (iI b)), (3, .ref o)]) hx hb dL_age_14 hl (by decide) rfl (fun ls hl => ?_)
  refine q_con hx hb dL_age_16 ?_
  exact e_i hx hb hr hlk hS dL_age_17 (by first | exact Nat.le_of_ble_eq_true rfl | ((try dsimp only); omega)) (by first | exact Nat.le_of_ble_eq_true rfl | ((try dsimp only); omega)) ⟨rfl, hcwH1, hoH1⟩

set_option maxHeartbeats 4000000 in
set_option maxRecDepth 100000 in
theorem wn2_age (θ : TH) (l : Launch) (hl0 : l.stackTraces = false) (S0 : State) (H : Heap) (u : Nat → Nat) (dt sy sm sd : Nat → Int) (bc rf kn : Int) (hw : CWR θ S0 u H dt sy sm sd bc rf kn) (hj : SJ θ S0 H) (hn : NX S0) (o : Nat) (nv : Int) (sv9 : Value) (ho : OB θ H o 8 [.long (lL nv), sv9]) (hod : ∀ i : Nat, i < 7 → o ≠ u i) (a b : Int) (h_0 : -2147483648 ≤ a ∧ a < 2147483648) (h_1 : -2147483648 ≤ b ∧ b < 2147483648) (h_2 : 0 ≤ a ∧ a < 6) (h_3 : ¬ (0 ≤ b ∧ b < 6)) : CTW l yL_age cL_age 5 (some .int) [((0 : Nat), (11 : Nat), (14 : Nat), (19 : Nat)), ((0 : Nat), (11 : Nat), (18 : Nat), (23 : Nat))] 8 132 1 6 [.ref (u 0), .int (iI a), .int (iI b), .ref o] S0 H (fun v9 H1 => v9 = some (.int (iI 1)) ∧ CW θ u H1 dt sy sm sd bc rf kn ∧ OB θ H1 o 8 [.long (lL nv), sv9]) (fun x : Nat => UA u H.size x ∨ x = o) := by
  refine ctw_of (by decide +kernel) (Nat.le_of_ble_eq_true rfl) ?_
  intro pg en s mi args below meth co ls fx hs hr hlk htab hl
  subst hs
  obtain ⟨hx, hb, hml, hown, hts⟩ := id fx.1
  have hS : va_S (fun x : Nat => UA u s.heap.size x ∨ x = o) s.heap s.heap [] := va_S.rf
  obtain ⟨hz, hu, hcw, hd, hsp⟩ := id hw
  have hK := sz_K fx.2 hz
  refine lv_aload_n hx hb dL_age_0 rfl (lv_at hl 3 rfl) ?_
  refine lv_aload_n hx hb dL_age_1 rfl (lv_at hl 0 rfl) ?_
  refine lv_iload_n hx hb dL_age_2 rfl (lv_at hl 1 rfl) ?_
  refine lv_iload_n hx hb dL_age_3 rfl (lv_at hl 2 rfl) ?_
  refine c_VT (As := [.int (iI a), .int (iI b)]) (rest := [.ref o]) (b := u 0) (C := RX1) (E := "java/lang/IndexOutOfBoundsException") (name := "java/lang/IndexOutOfBoundsException") (k := 0) (a0 := 0) (a1 := 11) (hpc := 14) (ct := 19) fx hl (no2_age θ l hl0 S0 _ u _ _ _ _ _ _ _ hw a b h_0 h_1 h_2 h_3) (ob_recv hK hcw.1 rfl) dL_age_4 k967 k968 k969 k1 k970 hd_X1_age rfl ⟨by decide, by decide⟩ (Nat.le_of_ble_eq_true rfl) ⟨by (try dsimp only); omega, by (try dsimp only); omega⟩ hS (fun x h => Or.inl (Or.inr h)) htab rfl ⟨by decide, by decide⟩ (by decide) k696 (nw_at (args := args) fx.2 hz.2.2.2.2.2.2.2.2.1 (by decide +kernel)) (by show ∀ q ∈ ([] : List (Nat × Nat × Nat × Nat)), _; exact fun q h => absurd h List.not_mem_nil) (fun q2 H1 locs hszH1 hkH1 hS => ?_)
  have hcwH1 := hcw.kept (fun i hi => hkH1 _ (hcw.lt i hi))
  have hoH1 := ho.kept (hkH1 _ ho.lt)
  refine lv_astore (lv' := [(4, .ref q2), (0, .ref (u 0)), (1, .int (iI a)), (2, .int (iI b)), (3, .ref o)]) hx hb dL_age_14 hl (by decide) rfl (fun ls hl => ?_)
  refine q_con hx hb dL_age_16 ?_
  exact e_i hx hb hr hlk hS dL_age_17 (by first | exact Nat.le_of_ble_eq_true rfl | ((try dsimp only); omega)) (by first | exact Nat.le_of_ble_eq_true rfl | ((try dsimp only); omega)) ⟨rfl, hcwH1, hoH1⟩

set_option maxHeartbeats 4000000 in
set_option maxRecDepth 100000 in
theorem wn3_age (θ : TH) (l : Launch) (hl0 : l.stackTraces = false) (S0 : State) (H : Heap) (u : Nat → Nat) (dt sy sm sd : Nat → Int) (bc rf kn : Int) (hw : CWR θ S0 u H dt sy sm sd bc rf kn) (hj : SJ θ S0 H) (hn : NX S0) (o : Nat) (nv : Int) (sv9 : Value) (ho : OB θ H o 8 [.long (lL nv), sv9]) (hod : ∀ i : Nat, i < 7 → o ≠ u i) (a b : Int) (h_0 : -2147483648 ≤ a ∧ a < 2147483648) (h_1 : -2147483648 ≤ b ∧ b < 2147483648) (h_2 : 0 ≤ a ∧ a < 6) (h_3 : 0 ≤ b ∧ b < 6) (h_4 : ¬ (dt a.toNat ≤ dt b.toNat)) : CTW l yL_age cL_age 5 (some .int) [((0 : Nat), (11 : Nat), (14 : Nat), (19 : Nat)), ((0 : Nat), (11 : Nat), (18 : Nat), (23 : Nat))] 8 133 1 6 [.ref (u 0), .int (iI a), .int (iI b), .ref o] S0 H (fun v9 H1 => v9 = some (.int (iI 2)) ∧ CW θ u H1 dt sy sm sd bc rf kn ∧ OB θ H1 o 8 [.long (lL nv), sv9]) (fun x : Nat => UA u H.size x ∨ x = o) := by
  refine ctw_of (by decide +kernel) (Nat.le_of_ble_eq_true rfl) ?_
  intro pg en s mi args below meth co ls fx hs hr hlk htab hl
  subst hs
  obtain ⟨hx, hb, hml, hown, hts⟩ := id fx.1
  have hS : va_S (fun x : Nat => UA u s.heap.size x ∨ x = o) s.heap s.heap [] := va_S.rf
  obtain ⟨hz, hu, hcw, hd, hsp⟩ := id hw
  have hK := sz_K fx.2 hz
  refine lv_aload_n hx hb dL_age_0 rfl (lv_at hl 3 rfl) ?_
  refine lv_aload_n hx hb dL_age_1 rfl (lv_at hl 0 rfl) ?_
  refine lv_iload_n hx hb dL_age_2 rfl (lv_at hl 1 rfl) ?_
  refine lv_iload_n hx hb dL_age_3 rfl (lv_at hl 2 rfl) ?_
  refine c_VT (As := [.int (iI a), .int (iI b)]) (rest := [.ref o]) (b := u 0) (C := RX1) (E := "java/lang/IllegalStateException") (name := "java/lang/IllegalStateException") (k := 1) (a0 := 0) (a1 := 11) (hpc := 18) (ct := 23) fx hl (no3_age θ l hl0 S0 _ u _ _ _ _ _ _ _ hw a b h_0 h_1 h_2 h_3 h_4) (ob_recv hK hcw.1 rfl) dL_age_4 k967 k968 k969 k1 k970 hd_X1_age rfl ⟨by decide, by decide⟩ (Nat.le_of_ble_eq_true rfl) ⟨by (try dsimp only); omega, by (try dsimp only); omega⟩ hS (fun x h => Or.inl (Or.inr h)) htab rfl ⟨by decide, by decide⟩ (by decide) k698 (nw_at (args := args) fx.2 hz.2.2.2.2.2.2.2.2.1 (by decide +kernel)) (by show ∀ q ∈ ([(0, 11, 14, 19)] : List (Nat × Nat × Nat × Nat)), _; exact List.forall_mem_cons.mpr ⟨⟨by decide, _, k696, hn.1.2.1⟩, fun q h => absurd h List.not_mem_nil⟩) (fun q2 H1 locs hszH1 hkH1 hS => ?_)
  have hcwH1 := hcw.kept (fun i hi => hkH1 _ (hcw.lt i hi))
  have hoH1 := ho.kept (hkH1 _ ho.lt)
  refine lv_astore (lv' := [(4, .ref q2), (0, .ref (u 0)), (1, .int (iI a)), (2, .int (iI b)), (3, .ref o)]) hx hb dL_age_18 hl (by decide) rfl (fun ls hl => ?_)
  refine q_con hx hb dL_age_20 ?_
  exact e_i hx hb hr hlk hS dL_age_21 (by first | exact Nat.le_of_ble_eq_true rfl | ((try dsimp only); omega)) (by first | exact Nat.le_of_ble_eq_true rfl | ((try dsimp only); omega)) ⟨rfl, hcwH1, hoH1⟩

set_option maxHeartbeats 4000000 in
set_option maxRecDepth 100000 in
theorem wr_wholeMonths (θ : TH) (l : Launch) (hl0 : l.stackTraces = false) (S0 : State) (H : Heap) (u : Nat → Nat) (dt sy sm sd : Nat → Int) (bc rf kn : Int) (hw : CWR θ S0 u H dt sy sm sd bc rf kn) (hj : SJ θ S0 H) (hn : NX S0) (o : Nat) (nv : Int) (sv9 : Value) (ho : OB θ H o 8 [.long (lL nv), sv9]) (hod : ∀ i : Nat, i < 7 → o ≠ u i) (a b : Int) (h_0 : -2147483648 ≤ a ∧ a < 2147483648) (h_1 : -2147483648 ≤ b ∧ b < 2147483648) (h_2 : 0 ≤ a ∧ a < 6) (h_3 : 0 ≤ b ∧ b < 6) : CTW l yL_wholeMonths cL_wholeMonths 5 (some .int) [((0 : Nat), (11 : Nat), (14 : Nat), (19 : Nat))] 6 134 0 0 [.ref (u 0), .int (iI a), .int (iI b), .ref o] S0 H (fun v9 H1 => v9 = some (.int (iI 0)) ∧ CW θ u H1 dt sy sm sd bc rf kn ∧ OB θ H1 o 8 [.long (lL (iI (if dt b.toNat < dt a.toNat then -muI (dt b.toNat) (dt a.toNat) else muI (dt a.toNat) (dt b.toNat))).toInt), sv9]) (fun x : Nat => UA u H.size x ∨ x = o) := by
  refine ctw_of (by decide +kernel) (Nat.le_of_ble_eq_true rfl) ?_
  intro pg en s mi args below meth co ls fx hs hr hlk htab hl
  subst hs
  obtain ⟨hx, hb, hml, hown, hts⟩ := id fx.1
  have hS : va_S (fun x : Nat => UA u s.heap.size x ∨ x = o) s.heap s.heap [] := va_S.rf
  obtain ⟨hz, hu, hcw, hd, hsp⟩ := id hw
  have hK := sz_K fx.2 hz
  refine lv_aload_n hx hb dL_wholeMonths_0 rfl (lv_at hl 3 rfl) ?_
  refine lv_aload_n hx hb dL_wholeMonths_1 rfl (lv_at hl 0 rfl) ?_
  refine lv_iload_n hx hb dL_wholeMonths_2 rfl (lv_at hl 1 rfl) ?_
  refine lv_iload_n hx hb dL_wholeMonths_3 rfl (lv_at hl 2 rfl) ?_
  refine c_Vr (As := [.int (iI a), .int (iI b)]) (rest := [.ref o]) (b := u 0) (C := RX1) (r := some (.int (iI (if dt b.toNat < dt a.toNat then -muI (dt b.toNat) (dt a.toNat) else muI (dt a.toNat) (dt b.toNat))))) (st1 := [.int (iI (if dt b.toNat < dt a.toNat then -muI (dt b.toNat) (dt a.toNat) else muI (dt a.toNat) (dt b.toNat))), .ref o]) fx hl (ok_wholeMonths θ l hl0 S0 _ u _ _ _ _ _ _ _ hw a b h_0 h_1 h_2 h_3) (ob_recv hK hcw.1 rfl) dL_wholeMonths_4 k1005 k663 k664 k1 k665 hd_X1_wholeMonths rfl rfl ⟨by decide, by decide⟩ (Nat.le_of_ble_eq_true rfl) ⟨by (try dsimp only); omega, by (try dsimp only); omega⟩ hS (fun _ h => h.elim) (fun H1 locs hpH1 hszH1 hk0H1 hS => ?_)
  obtain rfl := hpH1.symm
  refine q_i2lx hx hb dL_wholeMonths_7 ?_
  refine r_putN (θ := θ) (C := RX2) (T := TX2) (N := 2) (ci := 8) (v := .long (lL ((iI (if dt b.toNat < dt a.toNat then -muI (dt b.toNat) (dt a.toNat) else muI (dt a.toNat) (dt b.toNat))).toInt))) (ty := .long) hx hb hts gwX2 tyX2 tyX2_ok nmX2 hown hK ho (Or.inr rfl) hS rfl 0 (by decide) (va_Nw.use rfl (va_Nw.warmF fx.2 hn.2.1)) (fun _ h => h) rfl (by decide +kernel) rfl rfl (Nat.le_of_ble_eq_true rfl) dL_wholeMonths_8 (fun H2 locs hqH2 hszH2 hkH2 hS => ?_)
  have hoH2 : OB θ H2 o 8 [.long (lL ((iI (if dt b.toNat < dt a.toNat then -muI (dt b.toNat) (dt a.toNat) else muI (dt a.toNat) (dt b.toNat))).toInt)), sv9] := hqH2
  have hcwH2 := hcw.kept (fun i hi => hkH2 _ (Ne.symm (hod i hi)))
  refine lv_goto (tgt := 18) hx hb dL_wholeMonths_11 (by decide) ?_
  refine q_con hx hb dL_wholeMonths_18 ?_
  exact e_i hx hb hr hlk hS dL_wholeMonths_19 (by first | exact Nat.le_of_ble_eq_true rfl | ((try dsimp only); omega)) (by first | exact Nat.le_of_ble_eq_true rfl | ((try dsimp only); omega)) ⟨rfl, hcwH2, hoH2⟩

set_option maxHeartbeats 4000000 in
set_option maxRecDepth 100000 in
theorem wn1_wholeMonths (θ : TH) (l : Launch) (hl0 : l.stackTraces = false) (S0 : State) (H : Heap) (u : Nat → Nat) (dt sy sm sd : Nat → Int) (bc rf kn : Int) (hw : CWR θ S0 u H dt sy sm sd bc rf kn) (hj : SJ θ S0 H) (hn : NX S0) (o : Nat) (nv : Int) (sv9 : Value) (ho : OB θ H o 8 [.long (lL nv), sv9]) (hod : ∀ i : Nat, i < 7 → o ≠ u i) (a b : Int) (h_0 : -2147483648 ≤ a ∧ a < 2147483648) (h_1 : -2147483648 ≤ b ∧ b < 2147483648) (h_2 : ¬ (0 ≤ a ∧ a < 6)) : CTW l yL_wholeMonths cL_wholeMonths 5 (some .int) [((0 : Nat), (11 : Nat), (14 : Nat), (19 : Nat))] 8 132 1 6 [.ref (u 0), .int (iI a), .int (iI b), .ref o] S0 H (fun v9 H1 => v9 = some (.int (iI 1)) ∧ CW θ u H1 dt sy sm sd bc rf kn ∧ OB θ H1 o 8 [.long (lL nv), sv9]) (fun x : Nat => UA u H.size x ∨ x = o) := by
  refine ctw_of (by decide +kernel) (Nat.le_of_ble_eq_true rfl) ?_
  intro pg en s mi args below meth co ls fx hs hr hlk htab hl
  subst hs
  obtain ⟨hx, hb, hml, hown, hts⟩ := id fx.1
  have hS : va_S (fun x : Nat => UA u s.heap.size x ∨ x = o) s.heap s.heap [] := va_S.rf
  obtain ⟨hz, hu, hcw, hd, hsp⟩ := id hw
  have hK := sz_K fx.2 hz
  refine lv_aload_n hx hb dL_wholeMonths_0 rfl (lv_at hl 3 rfl) ?_
  refine lv_aload_n hx hb dL_wholeMonths_1 rfl (lv_at hl 0 rfl) ?_
  refine lv_iload_n hx hb dL_wholeMonths_2 rfl (lv_at hl 1 rfl) ?_
  refine lv_iload_n hx hb dL_wholeMonths_3 rfl (lv_at hl 2 rfl) ?_
  refine c_VT (As := [.int (iI a), .int (iI b)]) (rest := [.ref o]) (b := u 0) (C := RX1) (E := "java/lang/IndexOutOfBoundsException") (name := "java/lang/IndexOutOfBoundsException") (k := 0) (a0 := 0) (a1 := 11) (hpc := 14) (ct := 19) fx hl (no1_wholeMonths θ l hl0 S0 _ u _ _ _ _ _ _ _ hw a b h_0 h_1 h_2) (ob_recv hK hcw.1 rfl) dL_wholeMonths_4 k1005 k663 k664 k1 k665 hd_X1_wholeMonths rfl ⟨by decide, by decide⟩ (Nat.le_of_ble_eq_true rfl) ⟨by (try dsimp only); omega, by (try dsimp only); omega⟩ hS (fun x h => Or.inl (Or.inr h)) htab rfl ⟨by decide, by decide⟩ (by decide) k696 (nw_at (args := args) fx.2 hz.2.2.2.2.2.2.2.2.1 (by decide +kernel)) (by show ∀ q ∈ ([] : List (Nat × Nat × Nat × Nat)), _; exact fun q h => absurd h List.not_mem_nil) (fun q2 H1 locs hszH1 hkH1 hS => ?_)
  have hcwH1 := hcw.kept (fun i hi => hkH1 _ (hcw.lt i hi))
  have hoH1 := ho.kept (hkH1 _ ho.lt)
  refine lv_astore (lv' := [(4, .ref q2), (0, .ref (u 0)), (1, .int (iI a)), (2, .int (iI b)), (3, .ref o)]) hx hb dL_wholeMonths_14 hl (by decide) rfl (fun ls hl => ?_)
  refine q_con hx hb dL_wholeMonths_16 ?_
  exact e_i hx hb hr hlk hS dL_wholeMonths_17 (by first | exact Nat.le_of_ble_eq_true rfl | ((try dsimp only); omega)) (by first | exact Nat.le_of_ble_eq_true rfl | ((try dsimp only); omega)) ⟨rfl, hcwH1, hoH1⟩

set_option maxHeartbeats 4000000 in
set_option maxRecDepth 100000 in
theorem wn2_wholeMonths (θ : TH) (l : Launch) (hl0 : l.stackTraces = false) (S0 : State) (H : Heap) (u : Nat → Nat) (dt sy sm sd : Nat → Int) (bc rf kn : Int) (hw : CWR θ S0 u H dt sy sm sd bc rf kn) (hj : SJ θ S0 H) (hn : NX S0) (o : Nat) (nv : Int) (sv9 : Value) (ho : OB θ H o 8 [.long (lL nv), sv9]) (hod : ∀ i : Nat, i < 7 → o ≠ u i) (a b : Int) (h_0 : -2147483648 ≤ a ∧ a < 2147483648) (h_1 : -2147483648 ≤ b ∧ b < 2147483648) (h_2 : 0 ≤ a ∧ a < 6) (h_3 : ¬ (0 ≤ b ∧ b < 6)) : CTW l yL_wholeMonths cL_wholeMonths 5 (some .int) [((0 : Nat), (11 : Nat), (14 : Nat), (19 : Nat))] 8 132 1 6 [.ref (u 0), .int (iI a), .int (iI b), .ref o] S0 H (fun v9 H1 => v9 = some (.int (iI 1)) ∧ CW θ u H1 dt sy sm sd bc rf kn ∧ OB θ H1 o 8 [.long (lL nv), sv9]) (fun x : Nat => UA u H.size x ∨ x = o) := by
  refine ctw_of (by decide +kernel) (Nat.le_of_ble_eq_true rfl) ?_
  intro pg en s mi args below meth co ls fx hs hr hlk htab hl
  subst hs
  obtain ⟨hx, hb, hml, hown, hts⟩ := id fx.1
  have hS : va_S (fun x : Nat => UA u s.heap.size x ∨ x = o) s.heap s.heap [] := va_S.rf
  obtain ⟨hz, hu, hcw, hd, hsp⟩ := id hw
  have hK := sz_K fx.2 hz
  refine lv_aload_n hx hb dL_wholeMonths_0 rfl (lv_at hl 3 rfl) ?_
  refine lv_aload_n hx hb dL_wholeMonths_1 rfl (lv_at hl 0 rfl) ?_
  refine lv_iload_n hx hb dL_wholeMonths_2 rfl (lv_at hl 1 rfl) ?_
  refine lv_iload_n hx hb dL_wholeMonths_3 rfl (lv_at hl 2 rfl) ?_
  refine c_VT (As := [.int (iI a), .int (iI b)]) (rest := [.ref o]) (b := u 0) (C := RX1) (E := "java/lang/IndexOutOfBoundsException") (name := "java/lang/IndexOutOfBoundsException") (k := 0) (a0 := 0) (a1 := 11) (hpc := 14) (ct := 19) fx hl (no2_wholeMonths θ l hl0 S0 _ u _ _ _ _ _ _ _ hw a b h_0 h_1 h_2 h_3) (ob_recv hK hcw.1 rfl) dL_wholeMonths_4 k1005 k663 k664 k1 k665 hd_X1_wholeMonths rfl ⟨by decide, by decide⟩ (Nat.le_of_ble_eq_true rfl) ⟨by (try dsimp only); omega, by (try dsimp only); omega⟩ hS (fun x h => Or.inl (Or.inr h)) htab rfl ⟨by decide, by decide⟩ (by decide) k696 (nw_at (args := args) fx.2 hz.2.2.2.2.2.2.2.2.1 (by decide +kernel)) (by show ∀ q ∈ ([] : List (Nat × Nat × Nat × Nat)), _; exact fun q h => absurd h List.not_mem_nil) (fun q2 H1 locs hszH1 hkH1 hS => ?_)
  have hcwH1 := hcw.kept (fun i hi => hkH1 _ (hcw.lt i hi))
  have hoH1 := ho.kept (hkH1 _ ho.lt)
  refine lv_astore (lv' := [(4, .ref q2), (0, .ref (u 0)), (1, .int (iI a)), (2, .int (iI b)), (3, .ref o)]) hx hb dL_wholeMonths_14 hl (by decide) rfl (fun ls hl => ?_)
  refine q_con hx hb dL_wholeMonths_16 ?_
  exact e_i hx hb hr hlk hS dL_wholeMonths_17 (by first | exact Nat.le_of_ble_eq_true rfl | ((try dsimp only); omega)) (by first | exact Nat.le_of_ble_eq_true rfl | ((try dsimp only); omega)) ⟨rfl, hcwH1, hoH1⟩

set_option maxHeartbeats 4000000 in
set_option maxRecDepth 100000 in
theorem wr_year (θ : TH) (l : Launch) (hl0 : l.stackTraces = false) (S0 : State) (H : Heap) (u : Nat → Nat) (dt sy sm sd : Nat → Int) (bc rf kn : Int) (hw : CWR θ S0 u H dt sy sm sd bc rf kn) (hj : SJ θ S0 H) (hn : NX S0) (o : Nat) (nv : Int) (sv9 : Value) (ho : OB θ H o 8 [.long (lL nv), sv9]) (hod : ∀ i : Nat, i < 7 → o ≠ u i) (a : Int) (h_0 : -2147483648 ≤ a ∧ a < 2147483648) (h_1 : 0 ≤ a ∧ a < 6) : CTW l yL_year cL_year 4 (some .int) [((0 : Nat), (10 : Nat), (13 : Nat), (19 : Nat))] 5 111 0 0 [.ref (u 0), .int (iI a), .ref o] S0 H (fun v9 H1 => v9 = some (.int (iI 0)) ∧ CW θ u H1 dt sy sm sd bc rf kn ∧ OB θ H1 o 8 [.long (lL (iI (mI (dt a.toNat) / 12)).toInt), sv9]) (fun x : Nat => UA u H.size x ∨ x = o) := by
  refine ctw_of (by decide +kernel) (Nat.le_of_ble_eq_true rfl) ?_
  intro pg en s mi args below meth co ls fx hs hr hlk htab hl
  subst hs
  obtain ⟨hx, hb, hml, hown, hts⟩ := id fx.1
  have hS : va_S (fun x : Nat => UA u s.heap.size x ∨ x = o) s.heap s.heap [] := va_S.rf
  obtain ⟨hz, hu, hcw, hd, hsp⟩ := id hw
  have hK := sz_K fx.2 hz
  refine lv_aload_n hx hb dL_year_0 rfl (lv_at hl 2 rfl) ?_
  refine lv_aload_n hx hb dL_year_1 rfl (lv_at hl 0 rfl) ?_
  refine lv_iload_n hx hb dL_year_2 rfl (lv_at hl 1 rfl) ?_
  refine c_Vr (As := [.int (iI a)]) (rest := [.ref o]) (b := u 0) (C := RX1) (r := some (.int (iI (mI (dt a.toNat) / 12)))) (st1 := [.int (iI (mI (dt a.toNat) / 12)), .ref o]) fx hl (ok_year θ l hl0 S0 _ u _ _ _ _ _ _ _ hw a h_0 h_1) (ob_recv hK hcw.1 rfl) dL_year_3 k1009 k1010 k1011 k1 k1012 hd_X1_year rfl rfl ⟨by decide, by decide⟩ (Nat.le_of_ble_eq_true rfl) ⟨by (try dsimp only); omega, by (try dsimp only); omega⟩ hS (fun _ h => h.elim) (fun H1 locs hpH1 hszH1 hk0H1 hS => ?_)
  obtain rfl := hpH1.symm
  refine q_i2lx hx hb dL_year_6 ?_
  refine r_putN (θ := θ) (C := RX2) (T := TX2) (N := 2) (ci := 8) (v := .long (lL ((iI (mI (dt a.toNat) / 12)).toInt))) (ty := .long) hx hb hts gwX2 tyX2 tyX2_ok nmX2 hown hK ho (Or.inr rfl) hS rfl 0 (by decide) (va_Nw.use rfl (va_Nw.warmF fx.2 hn.2.1)) (fun _ h => h) rfl (by decide +kernel) rfl rfl (Nat.le_of_ble_eq_true rfl) dL_year_7 (fun H2 locs hqH2 hszH2 hkH2 hS => ?_)
  have hoH2 : OB θ H2 o 8 [.long (lL ((iI (mI (dt a.toNat) / 12)).toInt)), sv9] := hqH2
  have hcwH2 := hcw.kept (fun i hi => hkH2 _ (Ne.symm (hod i hi)))
  refine lv_goto (tgt := 16) hx hb dL_year_10 (by decide) ?_
  refine q_con hx hb dL_year_16 ?_
  exact e_i hx hb hr hlk hS dL_year_17 (by first | exact Nat.le_of_ble_eq_true rfl | ((try dsimp only); omega)) (by first | exact Nat.le_of_ble_eq_true rfl | ((try dsimp only); omega)) ⟨rfl, hcwH2, hoH2⟩

set_option maxHeartbeats 4000000 in
set_option maxRecDepth 100000 in
theorem wn1_year (θ : TH) (l : Launch) (hl0 : l.stackTraces = false) (S0 : State) (H : Heap) (u : Nat → Nat) (dt sy sm sd : Nat → Int) (bc rf kn : Int) (hw : CWR θ S0 u H dt sy sm sd bc rf kn) (hj : SJ θ S0 H) (hn : NX S0) (o : Nat) (nv : Int) (sv9 : Value) (ho : OB θ H o 8 [.long (lL nv), sv9]) (hod : ∀ i : Nat, i < 7 → o ≠ u i) (a : Int) (h_0 : -2147483648 ≤ a ∧ a < 2147483648) (h_1 : ¬ (0 ≤ a ∧ a < 6)) : CTW l yL_year cL_year 4 (some .int) [((0 : Nat), (10 : Nat), (13 : Nat), (19 : Nat))] 8 131 1 6 [.ref (u 0), .int (iI a), .ref o] S0 H (fun v9 H1 => v9 = some (.int (iI 1)) ∧ CW θ u H1 dt sy sm sd bc rf kn ∧ OB θ H1 o 8 [.long (lL nv), sv9]) (fun x : Nat => UA u H.size x ∨ x = o) := by
  refine ctw_of (by decide +kernel) (Nat.le_of_ble_eq_true rfl) ?_
  intro pg en s mi args below meth co ls fx hs hr hlk htab hl
  subst hs
  obtain ⟨hx, hb, hml, hown, hts⟩ := id fx.1
  have hS : va_S (fun x : Nat => UA u s.heap.size x ∨ x = o) s.heap s.heap [] := va_S.rf
  obtain ⟨hz, hu, hcw, hd, hsp⟩ := id hw
  have hK := sz_K fx.2 hz
  refine lv_aload_n hx hb dL_year_0 rfl (lv_at hl 2 rfl) ?_
  refine lv_aload_n hx hb dL_year_1 rfl (lv_at hl 0 rfl) ?_
  refine lv_iload_n hx hb dL_year_2 rfl (lv_at hl 1 rfl) ?_
  refine c_VT (As := [.int (iI a)]) (rest := [.ref o]) (b := u 0) (C := RX1) (E := "java/lang/IndexOutOfBoundsException") (name := "java/lang/IndexOutOfBoundsException") (k := 0) (a0 := 0) (a1 := 10) (hpc := 13) (ct := 19) fx hl (no1_year θ l hl0 S0 _ u _ _ _ _ _ _ _ hw a h_0 h_1) (ob_recv hK hcw.1 rfl) dL_year_3 k1009 k1010 k1011 k1 k1012 hd_X1_year rfl ⟨by decide, by decide⟩ (Nat.le_of_ble_eq_true rfl) ⟨by (try dsimp only); omega, by (try dsimp only); omega⟩ hS (fun x h => Or.inl (Or.inr h)) htab rfl ⟨by decide, by decide⟩ (by decide) k696 (nw_at (args := args) fx.2 hz.2.2.2.2.2.2.2.2.1 (by decide +kernel)) (by show ∀ q ∈ ([] : List (Nat × Nat × Nat × Nat)), _; exact fun q h => absurd h List.not_mem_nil) (fun q2 H1 locs hszH1 hkH1 hS => ?_)
  have hcwH1 := hcw.kept (fun i hi => hkH1 _ (hcw.lt i hi))
  have hoH1 := ho.kept (hkH1 _ ho.lt)
  refine lv_astore_n (lv' := [(3, .ref q2), (0, .ref (u 0)), (1, .int (iI a)), (2, .ref o)]) hx hb dL_year_13 rfl hl (by decide) rfl (fun ls hl => ?_)
  refine q_con hx hb dL_year_14 ?_
  exact e_i hx hb hr hlk hS dL_year_15 (by first | exact Nat.le_of_ble_eq_true rfl | ((try dsimp only); omega)) (by first | exact Nat.le_of_ble_eq_true rfl | ((try dsimp only); omega)) ⟨rfl, hcwH1, hoH1⟩

set_option maxHeartbeats 4000000 in
set_option maxRecDepth 100000 in
theorem wr_monthOfYear (θ : TH) (l : Launch) (hl0 : l.stackTraces = false) (S0 : State) (H : Heap) (u : Nat → Nat) (dt sy sm sd : Nat → Int) (bc rf kn : Int) (hw : CWR θ S0 u H dt sy sm sd bc rf kn) (hj : SJ θ S0 H) (hn : NX S0) (o : Nat) (nv : Int) (sv9 : Value) (ho : OB θ H o 8 [.long (lL nv), sv9]) (hod : ∀ i : Nat, i < 7 → o ≠ u i) (a : Int) (h_0 : -2147483648 ≤ a ∧ a < 2147483648) (h_1 : 0 ≤ a ∧ a < 6) : CTW l yL_monthOfYear cL_monthOfYear 4 (some .int) [((0 : Nat), (10 : Nat), (13 : Nat), (19 : Nat))] 4 91 0 0 [.ref (u 0), .int (iI a), .ref o] S0 H (fun v9 H1 => v9 = some (.int (iI 0)) ∧ CW θ u H1 dt sy sm sd bc rf kn ∧ OB θ H1 o 8 [.long (lL (iI (mI (dt a.toNat) % 12 + 1)).toInt), sv9]) (fun x : Nat => UA u H.size x ∨ x = o) := by
  refine ctw_of (by decide +kernel) (Nat.le_of_ble_eq_true rfl) ?_
  intro pg en s mi args below meth co ls fx hs hr hlk htab hl
  subst hs
  obtain ⟨hx, hb, hml, hown, hts⟩ := id fx.1
  have hS : va_S (fun x : Nat => UA u s.heap.size x ∨ x = o) s.heap s.heap [] := va_S.rf
  obtain ⟨hz, hu, hcw, hd, hsp⟩ := id hw
  have hK := sz_K fx.2 hz
  refine lv_aload_n hx hb dL_monthOfYear_0 rfl (lv_at hl 2 rfl) ?_
  refine lv_aload_n hx hb dL_monthOfYear_1 rfl (lv_at hl 0 rfl) ?_
  refine lv_iload_n hx hb dL_monthOfYear_2 rfl (lv_at hl 1 rfl) ?_
  refine c_Vr (As := [.int (iI a)]) (rest := [.ref o]) (b := u 0) (C := RX1) (r := some (.int (iI (mI (dt a.toNat) % 12 + 1)))) (st1 := [.int (iI (mI (dt a.toNat) % 12 + 1)), .ref o]) fx hl (ok_monthOfYear θ l hl0 S0 _ u _ _ _ _ _ _ _ hw a h_0 h_1) (ob_recv hK hcw.1 rfl) dL_monthOfYear_3 k1016 k1017 k1018 k1 k1019 hd_X1_monthOfYear rfl rfl ⟨by decide, by decide⟩ (Nat.le_of_ble_eq_true rfl) ⟨by (try dsimp only); omega, by (try dsimp only); omega⟩ hS (fun _ h => h.elim) (fun H1 locs hpH1 hszH1 hk0H1 hS => ?_)
  obtain rfl := hpH1.symm
  refine q_i2lx hx hb dL_monthOfYear_6 ?_
  refine r_putN (θ := θ) (C := RX2) (T := TX2) (N := 2) (ci := 8) (v := .long (lL ((iI (mI (dt a.toNat) % 12 + 1)).toInt))) (ty := .long) hx hb hts gwX2 tyX2 tyX2_ok nmX2 hown hK ho (Or.inr rfl) hS rfl 0 (by decide) (va_Nw.use rfl (va_Nw.warmF fx.2 hn.2.1)) (fun _ h => h) rfl (by decide +kernel) rfl rfl (Nat.le_of_ble_eq_true rfl) dL_monthOfYear_7 (fun H2 locs hqH2 hszH2 hkH2 hS => ?_)
  have hoH2 : OB θ H2 o 8 [.long (lL ((iI (mI (dt a.toNat) % 12 + 1)).toInt)), sv9] := hqH2
  have hcwH2 := hcw.kept (fun i hi => hkH2 _ (Ne.symm (hod i hi)))
  refine lv_goto (tgt := 16) hx hb dL_monthOfYear_10 (by decide) ?_
  refine q_con hx hb dL_monthOfYear_16 ?_
  exact e_i hx hb hr hlk hS dL_monthOfYear_17 (by first | exact Nat.le_of_ble_eq_true rfl | ((try dsimp only); omega)) (by first | exact Nat.le_of_ble_eq_true rfl | ((try dsimp only); omega)) ⟨rfl, hcwH2, hoH2⟩

set_option maxHeartbeats 4000000 in
set_option maxRecDepth 100000 in
theorem wn1_monthOfYear (θ : TH) (l : Launch) (hl0 : l.stackTraces = false) (S0 : State) (H : Heap) (u : Nat → Nat) (dt sy sm sd : Nat → Int) (bc rf kn : Int) (hw : CWR θ S0 u H dt sy sm sd bc rf kn) (hj : SJ θ S0 H) (hn : NX S0) (o : Nat) (nv : Int) (sv9 : Value) (ho : OB θ H o 8 [.long (lL nv), sv9]) (hod : ∀ i : Nat, i < 7 → o ≠ u i) (a : Int) (h_0 : -2147483648 ≤ a ∧ a < 2147483648) (h_1 : ¬ (0 ≤ a ∧ a < 6)) : CTW l yL_monthOfYear cL_monthOfYear 4 (some .int) [((0 : Nat), (10 : Nat), (13 : Nat), (19 : Nat))] 8 131 1 6 [.ref (u 0), .int (iI a), .ref o] S0 H (fun v9 H1 => v9 = some (.int (iI 1)) ∧ CW θ u H1 dt sy sm sd bc rf kn ∧ OB θ H1 o 8 [.long (lL nv), sv9]) (fun x : Nat => UA u H.size x ∨ x = o) := by
  refine ctw_of (by decide +kernel) (Nat.le_of_ble_eq_true rfl) ?_
  intro pg en s mi args below meth co ls fx hs hr hlk htab hl
  subst hs
  obtain ⟨hx, hb, hml, hown, hts⟩ := id fx.1
  have hS : va_S (fun x : Nat => UA u s.heap.size x ∨ x = o) s.heap s.heap [] := va_S.rf
  obtain ⟨hz, hu, hcw, hd, hsp⟩ := id hw
  have hK := sz_K fx.2 hz
  refine lv_aload_n hx hb dL_monthOfYear_0 rfl (lv_at hl 2 rfl) ?_
  refine lv_aload_n hx hb dL_monthOfYear_1 rfl (lv_at hl 0 rfl) ?_
  refine lv_iload_n hx hb dL_monthOfYear_2 rfl (lv_at hl 1 rfl) ?_
  refine c_VT (As := [.int (iI a)]) (rest := [.ref o]) (b := u 0) (C := RX1) (E := "java/lang/IndexOutOfBoundsException") (name := "java/lang/IndexOutOfBoundsException") (k := 0) (a0 := 0) (a1 := 10) (hpc := 13) (ct := 19) fx hl (no1_monthOfYear θ l hl0 S0 _ u _ _ _ _ _ _ _ hw a h_0 h_1) (ob_recv hK hcw.1 rfl) dL_monthOfYear_3 k1016 k1017 k1018 k1 k1019 hd_X1_monthOfYear rfl ⟨by decide, by decide⟩ (Nat.le_of_ble_eq_true rfl) ⟨by (try dsimp only); omega, by (try dsimp only); omega⟩ hS (fun x h => Or.inl (Or.inr h)) htab rfl ⟨by decide, by decide⟩ (by decide) k696 (nw_at (args := args) fx.2 hz.2.2.2.2.2.2.2.2.1 (by decide +kernel)) (by show ∀ q ∈ ([] : List (Nat × Nat × Nat × Nat)), _; exact fun q h => absurd h List.not_mem_nil) (fun q2 H1 locs hszH1 hkH1 hS => ?_)
  have hcwH1 := hcw.kept (fun i hi => hkH1 _ (hcw.lt i hi))
  have hoH1 := ho.kept (hkH1 _ ho.lt)
  refine lv_astore_n (lv' := [(3, .ref q2), (0, .ref (u 0)), (1, .int (iI a)), (2, .ref o)]) hx hb dL_monthOfYear_13 rfl hl (by decide) rfl (fun ls hl => ?_)
  refine q_con hx hb dL_monthOfYear_14 ?_
  exact e_i hx hb hr hlk hS dL_monthOfYear_15 (by first | exact Nat.le_of_ble_eq_true rfl | ((try dsimp only); omega)) (by first | exact Nat.le_of_ble_eq_true rfl | ((try dsimp only); omega)) ⟨rfl, hcwH1, hoH1⟩

set_option maxHeartbeats 4000000 in
set_option maxRecDepth 100000 in
theorem wr_day (θ : TH) (l : Launch) (hl0 : l.stackTraces = false) (S0 : State) (H : Heap) (u : Nat → Nat) (dt sy sm sd : Nat → Int) (bc rf kn : Int) (hw : CWR θ S0 u H dt sy sm sd bc rf kn) (hj : SJ θ S0 H) (hn : NX S0) (o : Nat) (nv : Int) (sv9 : Value) (ho : OB θ H o 8 [.long (lL nv), sv9]) (hod : ∀ i : Nat, i < 7 → o ≠ u i) (a : Int) (h_0 : -2147483648 ≤ a ∧ a < 2147483648) (h_1 : 0 ≤ a ∧ a < 6) : CTW l yL_day cL_day 4 (some .int) [((0 : Nat), (10 : Nat), (13 : Nat), (19 : Nat))] 5 111 0 0 [.ref (u 0), .int (iI a), .ref o] S0 H (fun v9 H1 => v9 = some (.int (iI 0)) ∧ CW θ u H1 dt sy sm sd bc rf kn ∧ OB θ H1 o 8 [.long (lL (iI (dI (dt a.toNat))).toInt), sv9]) (fun x : Nat => UA u H.size x ∨ x = o) := by
  refine ctw_of (by decide +kernel) (Nat.le_of_ble_eq_true rfl) ?_
  intro pg en s mi args below meth co ls fx hs hr hlk htab hl
  subst hs
  obtain ⟨hx, hb, hml, hown, hts⟩ := id fx.1
  have hS : va_S (fun x : Nat => UA u s.heap.size x ∨ x = o) s.heap s.heap [] := va_S.rf
  obtain ⟨hz, hu, hcw, hd, hsp⟩ := id hw
  have hK := sz_K fx.2 hz
  refine lv_aload_n hx hb dL_day_0 rfl (lv_at hl 2 rfl) ?_
  refine lv_aload_n hx hb dL_day_1 rfl (lv_at hl 0 rfl) ?_
  refine lv_iload_n hx hb dL_day_2 rfl (lv_at hl 1 rfl) ?_
  refine c_Vr (As := [.int (iI a)]) (rest := [.ref o]) (b := u 0) (C := RX1) (r := some (.int (iI (dI (dt a.toNat))))) (st1 := [.int (iI (dI (dt a.toNat))), .ref o]) fx hl (ok_day θ l hl0 S0 _ u _ _ _ _ _ _ _ hw a h_0 h_1) (ob_recv hK hcw.1 rfl) dL_day_3 k1023 k285 k286 k1 k287 hd_X1_day rfl rfl ⟨by decide, by decide⟩ (Nat.le_of_ble_eq_true rfl) ⟨by (try dsimp only); omega, by (try dsimp only); omega⟩ hS (fun _ h => h.elim) (fun H1 locs hpH1 hszH1 hk0H1 hS => ?_)
  obtain rfl := hpH1.symm
  refine q_i2lx hx hb dL_day_6 ?_
  refine r_putN (θ := θ) (C := RX2) (T := TX2) (N := 2) (ci := 8) (v := .long (lL ((iI (dI (dt a.toNat))).toInt))) (ty := .long) hx hb hts gwX2 tyX2 tyX2_ok nmX2 hown hK ho (Or.inr rfl) hS rfl 0 (by decide) (va_Nw.use rfl (va_Nw.warmF fx.2 hn.2.1)) (fun _ h => h) rfl (by decide +kernel) rfl rfl (Nat.le_of_ble_eq_true rfl) dL_day_7 (fun H2 locs hqH2 hszH2 hkH2 hS => ?_)
  have hoH2 : OB θ H2 o 8 [.long (lL ((iI (dI (dt a.toNat))).toInt)), sv9] := hqH2
  have hcwH2 := hcw.kept (fun i hi => hkH2 _ (Ne.symm (hod i hi)))
  refine lv_goto (tgt := 16) hx hb dL_day_10 (by decide) ?_
  refine q_con hx hb dL_day_16 ?_
  exact e_i hx hb hr hlk hS dL_day_17 (by first | exact Nat.le_of_ble_eq_true rfl | ((try dsimp only); omega)) (by first | exact Nat.le_of_ble_eq_true rfl | ((try dsimp only); omega)) ⟨rfl, hcwH2, hoH2⟩

set_option maxHeartbeats 4000000 in
set_option maxRecDepth 100000 in
theorem wn1_day (θ : TH) (l : Launch) (hl0 : l.stackTraces = false) (S0 : State) (H : Heap) (u : Nat → Nat) (dt sy sm sd : Nat → Int) (bc rf kn : Int) (hw : CWR θ S0 u H dt sy sm sd bc rf kn) (hj : SJ θ S0 H) (hn : NX S0) (o : Nat) (nv : Int) (sv9 : Value) (ho : OB θ H o 8 [.long (lL nv), sv9]) (hod : ∀ i : Nat, i < 7 → o ≠ u i) (a : Int) (h_0 : -2147483648 ≤ a ∧ a < 2147483648) (h_1 : ¬ (0 ≤ a ∧ a < 6)) : CTW l yL_day cL_day 4 (some .int) [((0 : Nat), (10 : Nat), (13 : Nat), (19 : Nat))] 8 131 1 6 [.ref (u 0), .int (iI a), .ref o] S0 H (fun v9 H1 => v9 = some (.int (iI 1)) ∧ CW θ u H1 dt sy sm sd bc rf kn ∧ OB θ H1 o 8 [.long (lL nv), sv9]) (fun x : Nat => UA u H.size x ∨ x = o) := by
  refine ctw_of (by decide +kernel) (Nat.le_of_ble_eq_true rfl) ?_
  intro pg en s mi args below meth co ls fx hs hr hlk htab hl
  subst hs
  obtain ⟨hx, hb, hml, hown, hts⟩ := id fx.1
  have hS : va_S (fun x : Nat => UA u s.heap.size x ∨ x = o) s.heap s.heap [] := va_S.rf
  obtain ⟨hz, hu, hcw, hd, hsp⟩ := id hw
  have hK := sz_K fx.2 hz
  refine lv_aload_n hx hb dL_day_0 rfl (lv_at hl 2 rfl) ?_
  refine lv_aload_n hx hb dL_day_1 rfl (lv_at hl 0 rfl) ?_
  refine lv_iload_n hx hb dL_day_2 rfl (lv_at hl 1 rfl) ?_
  refine c_VT (As := [.int (iI a)]) (rest := [.ref o]) (b := u 0) (C := RX1) (E := "java/lang/IndexOutOfBoundsException") (name := "java/lang/IndexOutOfBoundsException") (k := 0) (a0 := 0) (a1 := 10) (hpc := 13) (ct := 19) fx hl (no1_day θ l hl0 S0 _ u _ _ _ _ _ _ _ hw a h_0 h_1) (ob_recv hK hcw.1 rfl) dL_day_3 k1023 k285 k286 k1 k287 hd_X1_day rfl ⟨by decide, by decide⟩ (Nat.le_of_ble_eq_true rfl) ⟨by (try dsimp only); omega, by (try dsimp only); omega⟩ hS (fun x h => Or.inl (Or.inr h)) htab rfl ⟨by decide, by decide⟩ (by decide) k696 (nw_at (args := args) fx.2 hz.2.2.2.2.2.2.2.2.1 (by decide +kernel)) (by show ∀ q ∈ ([] : List (Nat × Nat × Nat × Nat)), _; exact fun q h => absurd h List.not_mem_nil) (fun q2 H1 locs hszH1 hkH1 hS => ?_)
  have hcwH1 := hcw.kept (fun i hi => hkH1 _ (hcw.lt i hi))
  have hoH1 := ho.kept (hkH1 _ ho.lt)
  refine lv_astore_n (lv' := [(3, .ref q2), (0, .ref (u 0)), (1, .int (iI a)), (2, .ref o)]) hx hb dL_day_13 rfl hl (by decide) rfl (fun ls hl => ?_)
  refine q_con hx hb dL_day_14 ?_
  exact e_i hx hb hr hlk hS dL_day_15 (by first | exact Nat.le_of_ble_eq_true rfl | ((try dsimp only); omega)) (by first | exact Nat.le_of_ble_eq_true rfl | ((try dsimp only); omega)) ⟨rfl, hcwH1, hoH1⟩

set_option maxHeartbeats 4000000 in
set_option maxRecDepth 100000 in
theorem wr_dayOfYear (θ : TH) (l : Launch) (hl0 : l.stackTraces = false) (S0 : State) (H : Heap) (u : Nat → Nat) (dt sy sm sd : Nat → Int) (bc rf kn : Int) (hw : CWR θ S0 u H dt sy sm sd bc rf kn) (hj : SJ θ S0 H) (hn : NX S0) (o : Nat) (nv : Int) (sv9 : Value) (ho : OB θ H o 8 [.long (lL nv), sv9]) (hod : ∀ i : Nat, i < 7 → o ≠ u i) (a : Int) (h_0 : -2147483648 ≤ a ∧ a < 2147483648) (h_1 : 0 ≤ a ∧ a < 6) : CTW l yL_dayOfYear cL_dayOfYear 4 (some .int) [((0 : Nat), (10 : Nat), (13 : Nat), (19 : Nat))] 5 112 0 0 [.ref (u 0), .int (iI a), .ref o] S0 H (fun v9 H1 => v9 = some (.int (iI 0)) ∧ CW θ u H1 dt sy sm sd bc rf kn ∧ OB θ H1 o 8 [.long (lL (iI (dt a.toNat - fI (12 * (mI (dt a.toNat) / 12)) + 1)).toInt), sv9]) (fun x : Nat => UA u H.size x ∨ x = o) := by
  refine ctw_of (by decide +kernel) (Nat.le_of_ble_eq_true rfl) ?_
  intro pg en s mi args below meth co ls fx hs hr hlk htab hl
  subst hs
  obtain ⟨hx, hb, hml, hown, hts⟩ := id fx.1
  have hS : va_S (fun x : Nat => UA u s.heap.size x ∨ x = o) s.heap s.heap [] := va_S.rf
  obtain ⟨hz, hu, hcw, hd, hsp⟩ := id hw
  have hK := sz_K fx.2 hz
  refine lv_aload_n hx hb dL_dayOfYear_0 rfl (lv_at hl 2 rfl) ?_
  refine lv_aload_n hx hb dL_dayOfYear_1 rfl (lv_at hl 0 rfl) ?_
  refine lv_iload_n hx hb dL_dayOfYear_2 rfl (lv_at hl 1 rfl) ?_
  refine c_Vr (As := [.int (iI a)]) (rest := [.ref o]) (b := u 0) (C := RX1) (r := some (.int (iI (dt a.toNat - fI (12 * (mI (dt a.toNat) / 12)) + 1)))) (st1 := [.int (iI (dt a.toNat - fI (12 * (mI (dt a.toNat) / 12)) + 1)), .ref o]) fx hl (ok_dayOfYear θ l hl0 S0 _ u _ _ _ _ _ _ _ hw a h_0 h_1) (ob_recv hK hcw.1 rfl) dL_dayOfYear_3 k1027 k297 k298 k1 k299 hd_X1_dayOfYear rfl rfl ⟨by decide, by decide⟩ (Nat.le_of_ble_eq_true rfl) ⟨by (try dsimp only); omega, by (try dsimp only); omega⟩ hS (fun _ h => h.elim) (fun H1 locs hpH1 hszH1 hk0H1 hS => ?_)
  obtain rfl := hpH1.symm
  refine q_i2lx hx hb dL_dayOfYear_6 ?_
  refine r_putN (θ := θ) (C := RX2) (T := TX2) (N := 2) (ci := 8) (v := .long (lL ((iI (dt a.toNat - fI (12 * (mI (dt a.toNat) / 12)) + 1)).toInt))) (ty := .long) hx hb hts gwX2 tyX2 tyX2_ok nmX2 hown hK ho (Or.inr rfl) hS rfl 0 (by decide) (va_Nw.use rfl (va_Nw.warmF fx.2 hn.2.1)) (fun _ h => h) rfl (by decide +kernel) rfl rfl (Nat.le_of_ble_eq_true rfl) dL_dayOfYear_7 (fun H2 locs hqH2 hszH2 hkH2 hS => ?_)
  have hoH2 : OB θ H2 o 8 [.long (lL ((iI (dt a.toNat - fI (12 * (mI (dt a.toNat) / 12)) + 1)).toInt)), sv9] := hqH2
  have hcwH2 := hcw.kept (fun i hi => hkH2 _ (Ne.symm (hod i hi)))
  refine lv_goto (tgt := 16) hx hb dL_dayOfYear_10 (by decide) ?_
  refine q_con hx hb dL_dayOfYear_16 ?_
  exact e_i hx hb hr hlk hS dL_dayOfYear_17 (by first | exact Nat.le_of_ble_eq_true rfl | ((try dsimp only); omega)) (by first | exact Nat.le_of_ble_eq_true rfl | ((try dsimp only); omega)) ⟨rfl, hcwH2, hoH2⟩

set_option maxHeartbeats 4000000 in
set_option maxRecDepth 100000 in
theorem wn1_dayOfYear (θ : TH) (l : Launch) (hl0 : l.stackTraces = false) (S0 : State) (H : Heap) (u : Nat → Nat) (dt sy sm sd : Nat → Int) (bc rf kn : Int) (hw : CWR θ S0 u H dt sy sm sd bc rf kn) (hj : SJ θ S0 H) (hn : NX S0) (o : Nat) (nv : Int) (sv9 : Value) (ho : OB θ H o 8 [.long (lL nv), sv9]) (hod : ∀ i : Nat, i < 7 → o ≠ u i) (a : Int) (h_0 : -2147483648 ≤ a ∧ a < 2147483648) (h_1 : ¬ (0 ≤ a ∧ a < 6)) : CTW l yL_dayOfYear cL_dayOfYear 4 (some .int) [((0 : Nat), (10 : Nat), (13 : Nat), (19 : Nat))] 8 132 1 6 [.ref (u 0), .int (iI a), .ref o] S0 H (fun v9 H1 => v9 = some (.int (iI 1)) ∧ CW θ u H1 dt sy sm sd bc rf kn ∧ OB θ H1 o 8 [.long (lL nv), sv9]) (fun x : Nat => UA u H.size x ∨ x = o) := by
  refine ctw_of (by decide +kernel) (Nat.le_of_ble_eq_true rfl) ?_
  intro pg en s mi args below meth co ls fx hs hr hlk htab hl
  subst hs
  obtain ⟨hx, hb, hml, hown, hts⟩ := id fx.1
  have hS : va_S (fun x : Nat => UA u s.heap.size x ∨ x = o) s.heap s.heap [] := va_S.rf
  obtain ⟨hz, hu, hcw, hd, hsp⟩ := id hw
  have hK := sz_K fx.2 hz
  refine lv_aload_n hx hb dL_dayOfYear_0 rfl (lv_at hl 2 rfl) ?_
  refine lv_aload_n hx hb dL_dayOfYear_1 rfl (lv_at hl 0 rfl) ?_
  refine lv_iload_n hx hb dL_dayOfYear_2 rfl (lv_at hl 1 rfl) ?_
  refine c_VT (As := [.int (iI a)]) (rest := [.ref o]) (b := u 0) (C := RX1) (E := "java/lang/IndexOutOfBoundsException") (name := "java/lang/IndexOutOfBoundsException") (k := 0) (a0 := 0) (a1 := 10) (hpc := 13) (ct := 19) fx hl (no1_dayOfYear θ l hl0 S0 _ u _ _ _ _ _ _ _ hw a h_0 h_1) (ob_recv hK hcw.1 rfl) dL_dayOfYear_3 k1027 k297 k298 k1 k299 hd_X1_dayOfYear rfl ⟨by decide, by decide⟩ (Nat.le_of_ble_eq_true rfl) ⟨by (try dsimp only); omega, by (try dsimp only); omega⟩ hS (fun x h => Or.inl (Or.inr h)) htab rfl ⟨by decide, by decide⟩ (by decide) k696 (nw_at (args := args) fx.2 hz.2.2.2.2.2.2.2.2.1 (by decide +kernel)) (by show ∀ q ∈ ([] : List (Nat × Nat × Nat × Nat)), _; exact fun q h => absurd h List.not_mem_nil) (fun q2 H1 locs hszH1 hkH1 hS => ?_)
  have hcwH1 := hcw.kept (fun i hi => hkH1 _ (hcw.lt i hi))
  have hoH1 := ho.kept (hkH1 _ ho.lt)
  refine lv_astore_n (lv' := [(3, .ref q2), (0, .ref (u 0)), (1, .int (iI a)), (2, .ref o)]) hx hb dL_dayOfYear_13 rfl hl (by decide) rfl (fun ls hl => ?_)
  refine q_con hx hb dL_dayOfYear_14 ?_
  exact e_i hx hb hr hlk hS dL_dayOfYear_15 (by first | exact Nat.le_of_ble_eq_true rfl | ((try dsimp only); omega)) (by first | exact Nat.le_of_ble_eq_true rfl | ((try dsimp only); omega)) ⟨rfl, hcwH1, hoH1⟩

set_option maxHeartbeats 4000000 in
set_option maxRecDepth 100000 in
theorem wr_number (θ : TH) (l : Launch) (hl0 : l.stackTraces = false) (S0 : State) (H : Heap) (u : Nat → Nat) (dt sy sm sd : Nat → Int) (bc rf kn : Int) (hw : CWR θ S0 u H dt sy sm sd bc rf kn) (hj : SJ θ S0 H) (hn : NX S0) (o : Nat) (nv : Int) (sv9 : Value) (ho : OB θ H o 8 [.long (lL nv), sv9]) (hod : ∀ i : Nat, i < 7 → o ≠ u i) (a : Int) (h_0 : -2147483648 ≤ a ∧ a < 2147483648) (h_1 : 0 ≤ a ∧ a < 6) : CTW l yL_number cL_number 4 (some .int) [((0 : Nat), (10 : Nat), (13 : Nat), (19 : Nat))] 2 41 0 0 [.ref (u 0), .int (iI a), .ref o] S0 H (fun v9 H1 => v9 = some (.int (iI 0)) ∧ CW θ u H1 dt sy sm sd bc rf kn ∧ OB θ H1 o 8 [.long (lL (iI (dt a.toNat)).toInt), sv9]) (fun x : Nat => UA u H.size x ∨ x = o) := by
  refine ctw_of (by decide +kernel) (Nat.le_of_ble_eq_true rfl) ?_
  intro pg en s mi args below meth co ls fx hs hr hlk htab hl
  subst hs
  obtain ⟨hx, hb, hml, hown, hts⟩ := id fx.1
  have hS : va_S (fun x : Nat => UA u s.heap.size x ∨ x = o) s.heap s.heap [] := va_S.rf
  obtain ⟨hz, hu, hcw, hd, hsp⟩ := id hw
  have hK := sz_K fx.2 hz
  refine lv_aload_n hx hb dL_number_0 rfl (lv_at hl 2 rfl) ?_
  refine lv_aload_n hx hb dL_number_1 rfl (lv_at hl 0 rfl) ?_
  refine lv_iload_n hx hb dL_number_2 rfl (lv_at hl 1 rfl) ?_
  refine c_Vr (As := [.int (iI a)]) (rest := [.ref o]) (b := u 0) (C := RX1) (r := some (.int (iI (dt a.toNat)))) (st1 := [.int (iI (dt a.toNat)), .ref o]) fx hl (ok_number θ l hl0 S0 _ u _ _ _ _ _ _ _ hw a h_0 h_1) (ob_recv hK hcw.1 rfl) dL_number_3 k1031 k257 k258 k1 k259 hd_X1_number rfl rfl ⟨by decide, by decide⟩ (Nat.le_of_ble_eq_true rfl) ⟨by (try dsimp only); omega, by (try dsimp only); omega⟩ hS (fun _ h => h.elim) (fun H1 locs hpH1 hszH1 hk0H1 hS => ?_)
  obtain rfl := hpH1.symm
  refine q_i2lx hx hb dL_number_6 ?_
  refine r_putN (θ := θ) (C := RX2) (T := TX2) (N := 2) (ci := 8) (v := .long (lL ((iI (dt a.toNat)).toInt))) (ty := .long) hx hb hts gwX2 tyX2 tyX2_ok nmX2 hown hK ho (Or.inr rfl) hS rfl 0 (by decide) (va_Nw.use rfl (va_Nw.warmF fx.2 hn.2.1)) (fun _ h => h) rfl (by decide +kernel) rfl rfl (Nat.le_of_ble_eq_true rfl) dL_number_7 (fun H2 locs hqH2 hszH2 hkH2 hS => ?_)
  have hoH2 : OB θ H2 o 8 [.long (lL ((iI (dt a.toNat)).toInt)), sv9] := hqH2
  have hcwH2 := hcw.kept (fun i hi => hkH2 _ (Ne.symm (hod i hi)))
  refine lv_goto (tgt := 16) hx hb dL_number_10 (by decide) ?_
  refine q_con hx hb dL_number_16 ?_
  exact e_i hx hb hr hlk hS dL_number_17 (by first | exact Nat.le_of_ble_eq_true rfl | ((try dsimp only); omega)) (by first | exact Nat.le_of_ble_eq_true rfl | ((try dsimp only); omega)) ⟨rfl, hcwH2, hoH2⟩

set_option maxHeartbeats 4000000 in
set_option maxRecDepth 100000 in
theorem wn1_number (θ : TH) (l : Launch) (hl0 : l.stackTraces = false) (S0 : State) (H : Heap) (u : Nat → Nat) (dt sy sm sd : Nat → Int) (bc rf kn : Int) (hw : CWR θ S0 u H dt sy sm sd bc rf kn) (hj : SJ θ S0 H) (hn : NX S0) (o : Nat) (nv : Int) (sv9 : Value) (ho : OB θ H o 8 [.long (lL nv), sv9]) (hod : ∀ i : Nat, i < 7 → o ≠ u i) (a : Int) (h_0 : -2147483648 ≤ a ∧ a < 2147483648) (h_1 : ¬ (0 ≤ a ∧ a < 6)) : CTW l yL_number cL_number 4 (some .int) [((0 : Nat), (10 : Nat), (13 : Nat), (19 : Nat))] 8 131 1 6 [.ref (u 0), .int (iI a), .ref o] S0 H (fun v9 H1 => v9 = some (.int (iI 1)) ∧ CW θ u H1 dt sy sm sd bc rf kn ∧ OB θ H1 o 8 [.long (lL nv), sv9]) (fun x : Nat => UA u H.size x ∨ x = o) := by
  refine ctw_of (by decide +kernel) (Nat.le_of_ble_eq_true rfl) ?_
  intro pg en s mi args below meth co ls fx hs hr hlk htab hl
  subst hs
  obtain ⟨hx, hb, hml, hown, hts⟩ := id fx.1
  have hS : va_S (fun x : Nat => UA u s.heap.size x ∨ x = o) s.heap s.heap [] := va_S.rf
  obtain ⟨hz, hu, hcw, hd, hsp⟩ := id hw
  have hK := sz_K fx.2 hz
  refine lv_aload_n hx hb dL_number_0 rfl (lv_at hl 2 rfl) ?_
  refine lv_aload_n hx hb dL_number_1 rfl (lv_at hl 0 rfl) ?_
  refine lv_iload_n hx hb dL_number_2 rfl (lv_at hl 1 rfl) ?_
  refine c_VT (As := [.int (iI a)]) (rest := [.ref o]) (b := u 0) (C := RX1) (E := "java/lang/IndexOutOfBoundsException") (name := "java/lang/IndexOutOfBoundsException") (k := 0) (a0 := 0) (a1 := 10) (hpc := 13) (ct := 19) fx hl (no1_number θ l hl0 S0 _ u _ _ _ _ _ _ _ hw a h_0 h_1) (ob_recv hK hcw.1 rfl) dL_number_3 k1031 k257 k258 k1 k259 hd_X1_number rfl ⟨by decide, by decide⟩ (Nat.le_of_ble_eq_true rfl) ⟨by (try dsimp only); omega, by (try dsimp only); omega⟩ hS (fun x h => Or.inl (Or.inr h)) htab rfl ⟨by decide, by decide⟩ (by decide) k696 (nw_at (args := args) fx.2 hz.2.2.2.2.2.2.2.2.1 (by decide +kernel)) (by show ∀ q ∈ ([] : List (Nat × Nat × Nat × Nat)), _; exact fun q h => absurd h List.not_mem_nil) (fun q2 H1 locs hszH1 hkH1 hS => ?_)
  have hcwH1 := hcw.kept (fun i hi => hkH1 _ (hcw.lt i hi))
  have hoH1 := ho.kept (hkH1 _ ho.lt)
  refine lv_astore_n (lv' := [(3, .ref q2), (0, .ref (u 0)), (1, .int (iI a)), (2, .ref o)]) hx hb dL_number_13 rfl hl (by decide) rfl (fun ls hl => ?_)
  refine q_con hx hb dL_number_14 ?_
  exact e_i hx hb hr hlk hS dL_number_15 (by first | exact Nat.le_of_ble_eq_true rfl | ((try dsimp only); omega)) (by first | exact Nat.le_of_ble_eq_true rfl | ((try dsimp only); omega)) ⟨rfl, hcwH1, hoH1⟩

set_option maxHeartbeats 4000000 in
set_option maxRecDepth 100000 in
theorem wr_lengthOfMonth (θ : TH) (l : Launch) (hl0 : l.stackTraces = false) (S0 : State) (H : Heap) (u : Nat → Nat) (dt sy sm sd : Nat → Int) (bc rf kn : Int) (hw : CWR θ S0 u H dt sy sm sd bc rf kn) (hj : SJ θ S0 H) (hn : NX S0) (o : Nat) (nv : Int) (sv9 : Value) (ho : OB θ H o 8 [.long (lL nv), sv9]) (hod : ∀ i : Nat, i < 7 → o ≠ u i) (a : Int) (h_0 : -2147483648 ≤ a ∧ a < 2147483648) (h_1 : 0 ≤ a ∧ a < 6) : CTW l yL_lengthOfMonth cL_lengthOfMonth 4 (some .int) [((0 : Nat), (10 : Nat), (13 : Nat), (19 : Nat))] 4 91 0 0 [.ref (u 0), .int (iI a), .ref o] S0 H (fun v9 H1 => v9 = some (.int (iI 0)) ∧ CW θ u H1 dt sy sm sd bc rf kn ∧ OB θ H1 o 8 [.long (lL (iI (fI (mI (dt a.toNat) + 1) - fI (mI (dt a.toNat)))).toInt), sv9]) (fun x : Nat => UA u H.size x ∨ x = o) := by
  refine ctw_of (by decide +kernel) (Nat.le_of_ble_eq_true rfl) ?_
  intro pg en s mi args below meth co ls fx hs hr hlk htab hl
  subst hs
  obtain ⟨hx, hb, hml, hown, hts⟩ := id fx.1
  have hS : va_S (fun x : Nat => UA u s.heap.size x ∨ x = o) s.heap s.heap [] := va_S.rf
  obtain ⟨hz, hu, hcw, hd, hsp⟩ := id hw
  have hK := sz_K fx.2 hz
  refine lv_aload_n hx hb dL_lengthOfMonth_0 rfl (lv_at hl 2 rfl) ?_
  refine lv_aload_n hx hb dL_lengthOfMonth_1 rfl (lv_at hl 0 rfl) ?_
  refine lv_iload_n hx hb dL_lengthOfMonth_2 rfl (lv_at hl 1 rfl) ?_
  refine c_Vr (As := [.int (iI a)]) (rest := [.ref o]) (b := u 0) (C := RX1) (r := some (.int (iI (fI (mI (dt a.toNat) + 1) - fI (mI (dt a.toNat)))))) (st1 := [.int (iI (fI (mI (dt a.toNat) + 1) - fI (mI (dt a.toNat)))), .ref o]) fx hl (ok_lengthOfMonth θ l hl0 S0 _ u _ _ _ _ _ _ _ hw a h_0 h_1) (ob_recv hK hcw.1 rfl) dL_lengthOfMonth_3 k1035 k308 k309 k1 k310 hd_X1_lengthOfMonth rfl rfl ⟨by decide, by decide⟩ (Nat.le_of_ble_eq_true rfl) ⟨by (try dsimp only); omega, by (try dsimp only); omega⟩ hS (fun _ h => h.elim) (fun H1 locs hpH1 hszH1 hk0H1 hS => ?_)
  obtain rfl := hpH1.symm
  refine q_i2lx hx hb dL_lengthOfMonth_6 ?_
  refine r_putN (θ := θ) (C := RX2) (T := TX2) (N := 2) (ci := 8) (v := .long (lL ((iI (fI (mI (dt a.toNat) + 1) - fI (mI (dt a.toNat)))).toInt))) (ty := .long) hx hb hts gwX2 tyX2 tyX2_ok nmX2 hown hK ho (Or.inr rfl) hS rfl 0 (by decide) (va_Nw.use rfl (va_Nw.warmF fx.2 hn.2.1)) (fun _ h => h) rfl (by decide +kernel) rfl rfl (Nat.le_of_ble_eq_true rfl) dL_lengthOfMonth_7 (fun H2 locs hqH2 hszH2 hkH2 hS => ?_)
  have hoH2 : OB θ H2 o 8 [.long (lL ((iI (fI (mI (dt a.toNat) + 1) - fI (mI (dt a.toNat)))).toInt)), sv9] := hqH2
  have hcwH2 := hcw.kept (fun i hi => hkH2 _ (Ne.symm (hod i hi)))
  refine lv_goto (tgt := 16) hx hb dL_lengthOfMonth_10 (by decide) ?_
  refine q_con hx hb dL_lengthOfMonth_16 ?_
  exact e_i hx hb hr hlk hS dL_lengthOfMonth_17 (by first | exact Nat.le_of_ble_eq_true rfl | ((try dsimp only); omega)) (by first | exact Nat.le_of_ble_eq_true rfl | ((try dsimp only); omega)) ⟨rfl, hcwH2, hoH2⟩

set_option maxHeartbeats 4000000 in
set_option maxRecDepth 100000 in
theorem wn1_lengthOfMonth (θ : TH) (l : Launch) (hl0 : l.stackTraces = false) (S0 : State) (H : Heap) (u : Nat → Nat) (dt sy sm sd : Nat → Int) (bc rf kn : Int) (hw : CWR θ S0 u H dt sy sm sd bc rf kn) (hj : SJ θ S0 H) (hn : NX S0) (o : Nat) (nv : Int) (sv9 : Value) (ho : OB θ H o 8 [.long (lL nv), sv9]) (hod : ∀ i : Nat, i < 7 → o ≠ u i) (a : Int) (h_0 : -2147483648 ≤ a ∧ a < 2147483648) (h_1 : ¬ (0 ≤ a ∧ a < 6)) : CTW l yL_lengthOfMonth cL_lengthOfMonth 4 (some .int) [((0 : Nat), (10 : Nat), (13 : Nat), (19 : Nat))] 8 131 1 6 [.ref (u 0), .int (iI a), .ref o] S0 H (fun v9 H1 => v9 = some (.int (iI 1)) ∧ CW θ u H1 dt sy sm sd bc rf kn ∧ OB θ H1 o 8 [.long (lL nv), sv9]) (fun x : Nat => UA u H.size x ∨ x = o) := by
  refine ctw_of (by decide +kernel) (Nat.le_of_ble_eq_true rfl) ?_
  intro pg en s mi args below meth co ls fx hs hr hlk htab hl
  subst hs
  obtain ⟨hx, hb, hml, hown, hts⟩ := id fx.1
  have hS : va_S (fun x : Nat => UA u s.heap.size x ∨ x = o) s.heap s.heap [] := va_S.rf
  obtain ⟨hz, hu, hcw, hd, hsp⟩ := id hw
  have hK := sz_K fx.2 hz
  refine lv_aload_n hx hb dL_lengthOfMonth_0 rfl (lv_at hl 2 rfl) ?_
  refine lv_aload_n hx hb dL_lengthOfMonth_1 rfl (lv_at hl 0 rfl) ?_
  refine lv_iload_n hx hb dL_lengthOfMonth_2 rfl (lv_at hl 1 rfl) ?_
  refine c_VT (As := [.int (iI a)]) (rest := [.ref o]) (b := u 0) (C := RX1) (E := "java/lang/IndexOutOfBoundsException") (name := "java/lang/IndexOutOfBoundsException") (k := 0) (a0 := 0) (a1 := 10) (hpc := 13) (ct := 19) fx hl (no1_lengthOfMonth θ l hl0 S0 _ u _ _ _ _ _ _ _ hw a h_0 h_1) (ob_recv hK hcw.1 rfl) dL_lengthOfMonth_3 k1035 k308 k309 k1 k310 hd_X1_lengthOfMonth rfl ⟨by decide, by decide⟩ (Nat.le_of_ble_eq_true rfl) ⟨by (try dsimp only); omega, by (try dsimp only); omega⟩ hS (fun x h => Or.inl (Or.inr h)) htab rfl ⟨by decide, by decide⟩ (by decide) k696 (nw_at (args := args) fx.2 hz.2.2.2.2.2.2.2.2.1 (by decide +kernel)) (by show ∀ q ∈ ([] : List (Nat × Nat × Nat × Nat)), _; exact fun q h => absurd h List.not_mem_nil) (fun q2 H1 locs hszH1 hkH1 hS => ?_)
  have hcwH1 := hcw.kept (fun i hi => hkH1 _ (hcw.lt i hi))
  have hoH1 := ho.kept (hkH1 _ ho.lt)
  refine lv_astore_n (lv' := [(3, .ref q2), (0, .ref (u 0)), (1, .int (iI a)), (2, .ref o)]) hx hb dL_lengthOfMonth_13 rfl hl (by decide) rfl (fun ls hl => ?_)
  refine q_con hx hb dL_lengthOfMonth_14 ?_
  exact e_i hx hb hr hlk hS dL_lengthOfMonth_15 (by first | exact Nat.le_of_ble_eq_true rfl | ((try dsimp only); omega)) (by first | exact Nat.le_of_ble_eq_true rfl | ((try dsimp only); omega)) ⟨rfl, hcwH1, hoH1⟩

set_option maxHeartbeats 4000000 in
set_option maxRecDepth 100000 in
theorem wr_isLeapYear (θ : TH) (l : Launch) (hl0 : l.stackTraces = false) (S0 : State) (H : Heap) (u : Nat → Nat) (dt sy sm sd : Nat → Int) (bc rf kn : Int) (hw : CWR θ S0 u H dt sy sm sd bc rf kn) (hj : SJ θ S0 H) (hn : NX S0) (o : Nat) (nv : Int) (sv9 : Value) (ho : OB θ H o 8 [.long (lL nv), sv9]) (hod : ∀ i : Nat, i < 7 → o ≠ u i) (a : Int) (r : Int) (hr0 : (r = 1 ∧ (lpI (mI (dt a.toNat) / 12))) ∨ (r = 0 ∧ ¬ (lpI (mI (dt a.toNat) / 12)))) (h_0 : -2147483648 ≤ a ∧ a < 2147483648) (h_1 : 0 ≤ a ∧ a < 6) : CTW l yL_isLeapYear cL_isLeapYear 4 (some .int) [((0 : Nat), (17 : Nat), (20 : Nat), (19 : Nat))] 5 111 0 0 [.ref (u 0), .int (iI a), .ref o] S0 H (fun v9 H1 => v9 = some (.int (iI 0)) ∧ CW θ u H1 dt sy sm sd bc rf kn ∧ OB θ H1 o 8 [.long (lL r), sv9]) (fun x : Nat => UA u H.size x ∨ x = o) := by
  refine ctw_of (by decide +kernel) (Nat.le_of_ble_eq_true rfl) ?_
  intro pg en s mi args below meth co ls fx hs hr hlk htab hl
  subst hs
  obtain ⟨hx, hb, hml, hown, hts⟩ := id fx.1
  have hS : va_S (fun x : Nat => UA u s.heap.size x ∨ x = o) s.heap s.heap [] := va_S.rf
  obtain ⟨hz, hu, hcw, hd, hsp⟩ := id hw
  have hK := sz_K fx.2 hz
  refine lv_aload_n hx hb dL_isLeapYear_0 rfl (lv_at hl 2 rfl) ?_
  refine lv_aload_n hx hb dL_isLeapYear_1 rfl (lv_at hl 0 rfl) ?_
  refine lv_iload_n hx hb dL_isLeapYear_2 rfl (lv_at hl 1 rfl) ?_
  refine c_Vr (As := [.int (iI a)]) (rest := [.ref o]) (b := u 0) (C := RX1) (r := some (.int (iI r))) (st1 := [.int (iI r), .ref o]) fx hl (ok_isLeapYear θ l hl0 S0 _ u _ _ _ _ _ _ _ hw a r hr0 h_0 h_1) (ob_recv hK hcw.1 rfl) dL_isLeapYear_3 k1039 k313 k314 k1 k315 hd_X1_isLeapYear rfl rfl ⟨by decide, by decide⟩ (Nat.le_of_ble_eq_true rfl) ⟨by (try dsimp only); omega, by (try dsimp only); omega⟩ hS (fun _ h => h.elim) (fun H1 locs hpH1 hszH1 hk0H1 hS => ?_)
  obtain rfl := hpH1.symm
  have br : r = 0 ∨ r = 1 := hr0.elim (fun h => Or.inr h.1) (fun h => Or.inl h.1)
  refine q_ieq (tgt := 13) hx hb dL_isLeapYear_6 (by decide) (by omega) (fun c2 => ?_) (fun c2 => ?_)
  · refine q_lcon (z := 0) hx hb (by decide) dL_isLeapYear_13 ?_
    refine r_putN (θ := θ) (C := RX2) (T := TX2) (N := 2) (ci := 8) (v := .long (lL 0)) (ty := .long) hx hb hts gwX2 tyX2 tyX2_ok nmX2 hown hK ho (Or.inr rfl) hS rfl 0 (by decide) (va_Nw.use rfl (va_Nw.warmF fx.2 hn.2.1)) (fun _ h => h) rfl (by decide +kernel) rfl rfl (Nat.le_of_ble_eq_true rfl) dL_isLeapYear_14 (fun H3 locs hqH3 hszH3 hkH3 hS => ?_)
    have hoH3 : OB θ H3 o 8 [.long (lL 0), sv9] := hqH3
    have hcwH3 := hcw.kept (fun i hi => hkH3 _ (Ne.symm (hod i hi)))
    refine lv_goto (tgt := 23) hx hb dL_isLeapYear_17 (by decide) ?_
    refine q_con hx hb dL_isLeapYear_23 ?_
    exact e_i hx hb hr hlk hS dL_isLeapYear_24 (by first | exact Nat.le_of_ble_eq_true rfl | ((try dsimp only); omega)) (by first | exact Nat.le_of_ble_eq_true rfl | ((try dsimp only); omega)) ⟨rfl, hcwH3, (by rw [show r = 0 by omega]; exact hoH3)⟩
  · refine q_lcon (z := 1) hx hb (by decide) dL_isLeapYear_9 ?_
    refine lv_goto (tgt := 14) hx hb dL_isLeapYear_10 (by decide) ?_
    refine r_putN (θ := θ) (C := RX2) (T := TX2) (N := 2) (ci := 8) (v := .long (lL 1)) (ty := .long) hx hb hts gwX2 tyX2 tyX2_ok nmX2 hown hK ho (Or.inr rfl) hS rfl 0 (by decide) (va_Nw.use rfl (va_Nw.warmF fx.2 hn.2.1)) (fun _ h => h) rfl (by decide +kernel) rfl rfl (Nat.le_of_ble_eq_true rfl) dL_isLeapYear_14 (fun H4 locs hqH4 hszH4 hkH4 hS => ?_)
    have hoH4 : OB θ H4 o 8 [.long (lL 1), sv9] := hqH4
    have hcwH4 := hcw.kept (fun i hi => hkH4 _ (Ne.symm (hod i hi)))
    refine lv_goto (tgt := 23) hx hb dL_isLeapYear_17 (by decide) ?_
    refine q_con hx hb dL_isLeapYear_23 ?_
    exact e_i hx hb hr hlk hS dL_isLeapYear_24 (by first | exact Nat.le_of_ble_eq_true rfl | ((try dsimp only); omega)) (by first | exact Nat.le_of_ble_eq_true rfl | ((try dsimp only); omega)) ⟨rfl, hcwH4, (by rw [show r = 1 by omega]; exact hoH4)⟩

set_option maxHeartbeats 4000000 in
set_option maxRecDepth 100000 in
theorem wn1_isLeapYear (θ : TH) (l : Launch) (hl0 : l.stackTraces = false) (S0 : State) (H : Heap) (u : Nat → Nat) (dt sy sm sd : Nat → Int) (bc rf kn : Int) (hw : CWR θ S0 u H dt sy sm sd bc rf kn) (hj : SJ θ S0 H) (hn : NX S0) (o : Nat) (nv : Int) (sv9 : Value) (ho : OB θ H o 8 [.long (lL nv), sv9]) (hod : ∀ i : Nat, i < 7 → o ≠ u i) (a : Int) (h_0 : -2147483648 ≤ a ∧ a < 2147483648) (h_1 : ¬ (0 ≤ a ∧ a < 6)) : CTW l yL_isLeapYear cL_isLeapYear 4 (some .int) [((0 : Nat), (17 : Nat), (20 : Nat), (19 : Nat))] 8 131 1 6 [.ref (u 0), .int (iI a), .ref o] S0 H (fun v9 H1 => v9 = some (.int (iI 1)) ∧ CW θ u H1 dt sy sm sd bc rf kn ∧ OB θ H1 o 8 [.long (lL nv), sv9]) (fun x : Nat => UA u H.size x ∨ x = o) := by
  refine ctw_of (by decide +kernel) (Nat.le_of_ble_eq_true rfl) ?_
  intro pg en s mi args below meth co ls fx hs hr hlk htab hl
  subst hs
  obtain ⟨hx, hb, hml, hown, hts⟩ := id fx.1
  have hS : va_S (fun x : Nat => UA u s.heap.size x ∨ x = o) s.heap s.heap [] := va_S.rf
  obtain ⟨hz, hu, hcw, hd, hsp⟩ := id hw
  have hK := sz_K fx.2 hz
  refine lv_aload_n hx hb dL_isLeapYear_0 rfl (lv_at hl 2 rfl) ?_
  refine lv_aload_n hx hb dL_isLeapYear_1 rfl (lv_at hl 0 rfl) ?_
  refine lv_iload_n hx hb dL_isLeapYear_2 rfl (lv_at hl 1 rfl) ?_
  refine c_VT (As := [.int (iI a)]) (rest := [.ref o]) (b := u 0) (C := RX1) (E := "java/lang/IndexOutOfBoundsException") (name := "java/lang/IndexOutOfBoundsException") (k := 0) (a0 := 0) (a1 := 17) (hpc := 20) (ct := 19) fx hl (no1_isLeapYear θ l hl0 S0 _ u _ _ _ _ _ _ _ hw a h_0 h_1) (ob_recv hK hcw.1 rfl) dL_isLeapYear_3 k1039 k313 k314 k1 k315 hd_X1_isLeapYear rfl ⟨by decide, by decide⟩ (Nat.le_of_ble_eq_true rfl) ⟨by (try dsimp only); omega, by (try dsimp only); omega⟩ hS (fun x h => Or.inl (Or.inr h)) htab rfl ⟨by decide, by decide⟩ (by decide) k696 (nw_at (args := args) fx.2 hz.2.2.2.2.2.2.2.2.1 (by decide +kernel)) (by show ∀ q ∈ ([] : List (Nat × Nat × Nat × Nat)), _; exact fun q h => absurd h List.not_mem_nil) (fun q2 H1 locs hszH1 hkH1 hS => ?_)
  have hcwH1 := hcw.kept (fun i hi => hkH1 _ (hcw.lt i hi))
  have hoH1 := ho.kept (hkH1 _ ho.lt)
  refine lv_astore_n (lv' := [(3, .ref q2), (0, .ref (u 0)), (1, .int (iI a)), (2, .ref o)]) hx hb dL_isLeapYear_20 rfl hl (by decide) rfl (fun ls hl => ?_)
  refine q_con hx hb dL_isLeapYear_21 ?_
  exact e_i hx hb hr hlk hS dL_isLeapYear_22 (by first | exact Nat.le_of_ble_eq_true rfl | ((try dsimp only); omega)) (by first | exact Nat.le_of_ble_eq_true rfl | ((try dsimp only); omega)) ⟨rfl, hcwH1, hoH1⟩

set_option maxHeartbeats 4000000 in
set_option maxRecDepth 100000 in
theorem wr_text (θ : TH) (l : Launch) (hl0 : l.stackTraces = false) (S0 : State) (H : Heap) (u : Nat → Nat) (dt sy sm sd : Nat → Int) (bc rf kn : Int) (hw : CWR θ S0 u H dt sy sm sd bc rf kn) (hj : SJ θ S0 H) (hn : NX S0) (o : Nat) (nv : Int) (sv9 : Value) (ho : OB θ H o 8 [.long (lL nv), sv9]) (hod : ∀ i : Nat, i < 7 → o ≠ u i) (a : Int) (h_0 : 0 ≤ a ∧ a < 6) : CTW l yL_text cL_text 4 (some .int) [((0 : Nat), (9 : Nat), (12 : Nat), (19 : Nat))] 7 195 2 20 [.ref (u 0), .int (iI a), .ref o] S0 H (fun v9 H1 => v9 = some (.int (iI 0)) ∧ CW θ u H1 dt sy sm sd bc rf kn ∧ ∃ a9 : Nat, OB θ H1 o 8 [.long (lL nv), .ref a9]) (fun x : Nat => UA u H.size x ∨ x = o) := by
  refine ctw_of (by decide +kernel) (Nat.le_of_ble_eq_true rfl) ?_
  intro pg en s mi args below meth co ls fx hs hr hlk htab hl
  subst hs
  obtain ⟨hx, hb, hml, hown, hts⟩ := id fx.1
  have hS : va_S (fun x : Nat => UA u s.heap.size x ∨ x = o) s.heap s.heap [] := va_S.rf
  obtain ⟨hz, hu, hcw, hd, hsp⟩ := id hw
  have hK := sz_K fx.2 hz
  refine lv_aload_n hx hb dL_text_0 rfl (lv_at hl 2 rfl) ?_
  refine lv_aload_n hx hb dL_text_1 rfl (lv_at hl 0 rfl) ?_
  refine lv_iload_n hx hb dL_text_2 rfl (lv_at hl 1 rfl) ?_
  refine c_Vr (As := [.int (iI a)]) (rest := [.ref o]) (b := u 0) (C := RX1) (r := some (.ref s.heap.size)) (st1 := [.ref s.heap.size, .ref o]) fx hl (ok_text θ l hl0 S0 _ u _ _ _ _ _ _ _ hw hj a h_0) (ob_recv hK hcw.1 rfl) dL_text_3 k1043 k320 k321 k1 k322 hd_X1_text rfl rfl ⟨by decide, by decide⟩ (Nat.le_of_ble_eq_true rfl) ⟨by (try dsimp only); omega, by (try dsimp only); omega⟩ hS (fun x h => Or.inl (h.elim (fun e => Or.inl ⟨5, by decide, e⟩) (fun h => h.elim (fun e => Or.inl ⟨6, by decide, e⟩) Or.inr))) (fun H1 locs hpH1 hszH1 hk0H1 hS => ?_)
  have hoH1 := ho.kept (hk0H1 _ ho.lt (fun h => h.elim (fun e => hod 5 (by decide) e) (fun h => h.elim (fun e => hod 6 (by decide) e) (fun h => Nat.not_le.mpr ho.lt h))))
  have hcwH1 := hpH1.1
  refine r_putN (θ := θ) (C := RX2) (T := TX2) (N := 2) (ci := 8) (v := .ref s.heap.size) (ty := .object "java/lang/String") hx hb hts gwX2 tyX2 tyX2_ok nmX2 hown hK hoH1 (Or.inr rfl) hS rfl 1 (by decide) (va_Nw.use rfl (va_Nw.warmF fx.2 hn.2.2)) (fun _ h => h) rfl (by decide +kernel) rfl rfl (Nat.le_of_ble_eq_true rfl) dL_text_6 (fun H2 locs hqH2 hszH2 hkH2 hS => ?_)
  have hoH2 : OB θ H2 o 8 [.long (lL nv), .ref s.heap.size] := hqH2
  have hcwH2 := hcwH1.kept (fun i hi => hkH2 _ (Ne.symm (hod i hi)))
  refine lv_goto (tgt := 15) hx hb dL_text_9 (by decide) ?_
  refine q_con hx hb dL_text_15 ?_
  exact e_i hx hb hr hlk hS dL_text_16 (by first | exact Nat.le_of_ble_eq_true rfl | ((try dsimp only); omega)) (by first | exact Nat.le_of_ble_eq_true rfl | ((try dsimp only); omega)) ⟨rfl, hcwH2, ⟨_, hoH2⟩⟩

set_option maxHeartbeats 4000000 in
set_option maxRecDepth 100000 in
theorem wn1_text (θ : TH) (l : Launch) (hl0 : l.stackTraces = false) (S0 : State) (H : Heap) (u : Nat → Nat) (dt sy sm sd : Nat → Int) (bc rf kn : Int) (hw : CWR θ S0 u H dt sy sm sd bc rf kn) (hj : SJ θ S0 H) (hn : NX S0) (o : Nat) (nv : Int) (sv9 : Value) (ho : OB θ H o 8 [.long (lL nv), sv9]) (hod : ∀ i : Nat, i < 7 → o ≠ u i) (a : Int) (h_0 : -2147483648 ≤ a ∧ a < 2147483648) (h_1 : ¬ (0 ≤ a ∧ a < 6)) : CTW l yL_text cL_text 4 (some .int) [((0 : Nat), (9 : Nat), (12 : Nat), (19 : Nat))] 8 134 1 6 [.ref (u 0), .int (iI a), .ref o] S0 H (fun v9 H1 => v9 = some (.int (iI 1)) ∧ CW θ u H1 dt sy sm sd bc rf kn ∧ OB θ H1 o 8 [.long (lL nv), sv9]) (fun x : Nat => UA u H.size x ∨ x = o) := by
  refine ctw_of (by decide +kernel) (Nat.le_of_ble_eq_true rfl) ?_
  intro pg en s mi args below meth co ls fx hs hr hlk htab hl
  subst hs
  obtain ⟨hx, hb, hml, hown, hts⟩ := id fx.1
  have hS : va_S (fun x : Nat => UA u s.heap.size x ∨ x = o) s.heap s.heap [] := va_S.rf
  obtain ⟨hz, hu, hcw, hd, hsp⟩ := id hw
  have hK := sz_K fx.2 hz
  refine lv_aload_n hx hb dL_text_0 rfl (lv_at hl 2 rfl) ?_
  refine lv_aload_n hx hb dL_text_1 rfl (lv_at hl 0 rfl) ?_
  refine lv_iload_n hx hb dL_text_2 rfl (lv_at hl 1 rfl) ?_
  refine c_VT (As := [.int (iI a)]) (rest := [.ref o]) (b := u 0) (C := RX1) (E := "java/lang/IndexOutOfBoundsException") (name := "java/lang/IndexOutOfBoundsException") (k := 0) (a0 := 0) (a1 := 9) (hpc := 12) (ct := 19) fx hl (no1_text θ l hl0 S0 _ u _ _ _ _ _ _ _ hw a h_0 h_1) (ob_recv hK hcw.1 rfl) dL_text_3 k1043 k320 k321 k1 k322 hd_X1_text rfl ⟨by decide, by decide⟩ (Nat.le_of_ble_eq_true rfl) ⟨by (try dsimp only); omega, by (try dsimp only); omega⟩ hS (fun x h => Or.inl (Or.inr h)) htab rfl ⟨by decide, by decide⟩ (by decide) k696 (nw_at (args := args) fx.2 hz.2.2.2.2.2.2.2.2.1 (by decide +kernel)) (by show ∀ q ∈ ([] : List (Nat × Nat × Nat × Nat)), _; exact fun q h => absurd h List.not_mem_nil) (fun q2 H1 locs hszH1 hkH1 hS => ?_)
  have hcwH1 := hcw.kept (fun i hi => hkH1 _ (hcw.lt i hi))
  have hoH1 := ho.kept (hkH1 _ ho.lt)
  refine lv_astore_n (lv' := [(3, .ref q2), (0, .ref (u 0)), (1, .int (iI a)), (2, .ref o)]) hx hb dL_text_12 rfl hl (by decide) rfl (fun ls hl => ?_)
  refine q_con hx hb dL_text_13 ?_
  exact e_i hx hb hr hlk hS dL_text_14 (by first | exact Nat.le_of_ble_eq_true rfl | ((try dsimp only); omega)) (by first | exact Nat.le_of_ble_eq_true rfl | ((try dsimp only); omega)) ⟨rfl, hcwH1, hoH1⟩

set_option maxHeartbeats 4000000 in
set_option maxRecDepth 100000 in
theorem wr_compare (θ : TH) (l : Launch) (hl0 : l.stackTraces = false) (S0 : State) (H : Heap) (u : Nat → Nat) (dt sy sm sd : Nat → Int) (bc rf kn : Int) (hw : CWR θ S0 u H dt sy sm sd bc rf kn) (hj : SJ θ S0 H) (hn : NX S0) (o : Nat) (nv : Int) (sv9 : Value) (ho : OB θ H o 8 [.long (lL nv), sv9]) (hod : ∀ i : Nat, i < 7 → o ≠ u i) (a b : Int) (h_0 : -2147483648 ≤ a ∧ a < 2147483648) (h_1 : -2147483648 ≤ b ∧ b < 2147483648) (h_2 : 0 ≤ a ∧ a < 6) (h_3 : 0 ≤ b ∧ b < 6) : CTW l yL_compare cL_compare 5 (some .int) [((0 : Nat), (11 : Nat), (14 : Nat), (19 : Nat))] 2 42 0 0 [.ref (u 0), .int (iI a), .int (iI b), .ref o] S0 H (fun v9 H1 => v9 = some (.int (iI 0)) ∧ CW θ u H1 dt sy sm sd bc rf kn ∧ OB θ H1 o 8 [.long (lL (iI (if dt a.toNat = dt b.toNat then 0 else if dt a.toNat < dt b.toNat then -1 else 1)).toInt), sv9]) (fun x : Nat => UA u H.size x ∨ x = o) := by
  refine ctw_of (by decide +kernel) (Nat.le_of_ble_eq_true rfl) ?_
  intro pg en s mi args below meth co ls fx hs hr hlk htab hl
  subst hs
  obtain ⟨hx, hb, hml, hown, hts⟩ := id fx.1
  have hS : va_S (fun x : Nat => UA u s.heap.size x ∨ x = o) s.heap s.heap [] := va_S.rf
  obtain ⟨hz, hu, hcw, hd, hsp⟩ := id hw
  have hK := sz_K fx.2 hz
  refine lv_aload_n hx hb dL_compare_0 rfl (lv_at hl 3 rfl) ?_
  refine lv_aload_n hx hb dL_compare_1 rfl (lv_at hl 0 rfl) ?_
  refine lv_iload_n hx hb dL_compare_2 rfl (lv_at hl 1 rfl) ?_
  refine lv_iload_n hx hb dL_compare_3 rfl (lv_at hl 2 rfl) ?_
  refine c_Vr (As := [.int (iI a), .int (iI b)]) (rest := [.ref o]) (b := u 0) (C := RX1) (r := some (.int (iI (if dt a.toNat = dt b.toNat then 0 else if dt a.toNat < dt b.toNat then -1 else 1)))) (st1 := [.int (iI (if dt a.toNat = dt b.toNat then 0 else if dt a.toNat < dt b.toNat then -1 else 1)), .ref o]) fx hl (ok_compare θ l hl0 S0 _ u _ _ _ _ _ _ _ hw a b h_0 h_1 h_2 h_3) (ob_recv hK hcw.1 rfl) dL_compare_4 k1047 k659 k660 k1 k661 hd_X1_compare rfl rfl ⟨by decide, by decide⟩ (Nat.le_of_ble_eq_true rfl) ⟨by (try dsimp only); omega, by (try dsimp only); omega⟩ hS (fun _ h => h.elim) (fun H1 locs hpH1 hszH1 hk0H1 hS => ?_)
  obtain rfl := hpH1.symm
  refine q_i2lx hx hb dL_compare_7 ?_
  refine r_putN (θ := θ) (C := RX2) (T := TX2) (N := 2) (ci := 8) (v := .long (lL ((iI (if dt a.toNat = dt b.toNat then 0 else if dt a.toNat < dt b.toNat then -1 else 1)).toInt))) (ty := .long) hx hb hts gwX2 tyX2 tyX2_ok nmX2 hown hK ho (Or.inr rfl) hS rfl 0 (by decide) (va_Nw.use rfl (va_Nw.warmF fx.2 hn.2.1)) (fun _ h => h) rfl (by decide +kernel) rfl rfl (Nat.le_of_ble_eq_true rfl) dL_compare_8 (fun H2 locs hqH2 hszH2 hkH2 hS => ?_)
  have hoH2 : OB θ H2 o 8 [.long (lL ((iI (if dt a.toNat = dt b.toNat then 0 else if dt a.toNat < dt b.toNat then -1 else 1)).toInt)), sv9] := hqH2
  have hcwH2 := hcw.kept (fun i hi => hkH2 _ (Ne.symm (hod i hi)))
  refine lv_goto (tgt := 18) hx hb dL_compare_11 (by decide) ?_
  refine q_con hx hb dL_compare_18 ?_
  exact e_i hx hb hr hlk hS dL_compare_19 (by first | exact Nat.le_of_ble_eq_true rfl | ((try dsimp only); omega)) (by first | exact Nat.le_of_ble_eq_true rfl | ((try dsimp only); omega)) ⟨rfl, hcwH2, hoH2⟩

set_option maxHeartbeats 4000000 in
set_option maxRecDepth 100000 in
theorem wn1_compare (θ : TH) (l : Launch) (hl0 : l.stackTraces = false) (S0 : State) (H : Heap) (u : Nat → Nat) (dt sy sm sd : Nat → Int) (bc rf kn : Int) (hw : CWR θ S0 u H dt sy sm sd bc rf kn) (hj : SJ θ S0 H) (hn : NX S0) (o : Nat) (nv : Int) (sv9 : Value) (ho : OB θ H o 8 [.long (lL nv), sv9]) (hod : ∀ i : Nat, i < 7 → o ≠ u i) (a b : Int) (h_0 : -2147483648 ≤ a ∧ a < 2147483648) (h_1 : -2147483648 ≤ b ∧ b < 2147483648) (h_2 : ¬ (0 ≤ a ∧ a < 6)) : CTW l yL_compare cL_compare 5 (some .int) [((0 : Nat), (11 : Nat), (14 : Nat), (19 : Nat))] 8 132 1 6 [.ref (u 0), .int (iI a), .int (iI b), .ref o] S0 H (fun v9 H1 => v9 = some (.int (iI 1)) ∧ CW θ u H1 dt sy sm sd bc rf kn ∧ OB θ H1 o 8 [.long (lL nv), sv9]) (fun x : Nat => UA u H.size x ∨ x = o) := by
  refine ctw_of (by decide +kernel) (Nat.le_of_ble_eq_true rfl) ?_
  intro pg en s mi args below meth co ls fx hs hr hlk htab hl
  subst hs
  obtain ⟨hx, hb, hml, hown, hts⟩ := id fx.1
  have hS : va_S (fun x : Nat => UA u s.heap.size x ∨ x = o) s.heap s.heap [] := va_S.rf
  obtain ⟨hz, hu, hcw, hd, hsp⟩ := id hw
  have hK := sz_K fx.2 hz
  refine lv_aload_n hx hb dL_compare_0 rfl (lv_at hl 3 rfl) ?_
  refine lv_aload_n hx hb dL_compare_1 rfl (lv_at hl 0 rfl) ?_
  refine lv_iload_n hx hb dL_compare_2 rfl (lv_at hl 1 rfl) ?_
  refine lv_iload_n hx hb dL_compare_3 rfl (lv_at hl 2 rfl) ?_
  refine c_VT (As := [.int (iI a), .int (iI b)]) (rest := [.ref o]) (b := u 0) (C := RX1) (E := "java/lang/IndexOutOfBoundsException") (name := "java/lang/IndexOutOfBoundsException") (k := 0) (a0 := 0) (a1 := 11) (hpc := 14) (ct := 19) fx hl (no1_compare θ l hl0 S0 _ u _ _ _ _ _ _ _ hw a b h_0 h_1 h_2) (ob_recv hK hcw.1 rfl) dL_compare_4 k1047 k659 k660 k1 k661 hd_X1_compare rfl ⟨by decide, by decide⟩ (Nat.le_of_ble_eq_true rfl) ⟨by (try dsimp only); omega, by (try dsimp only); omega⟩ hS (fun x h => Or.inl (Or.inr h)) htab rfl ⟨by decide, by decide⟩ (by decide) k696 (nw_at (args := args) fx.2 hz.2.2.2.2.2.2.2.2.1 (by decide +kernel)) (by show ∀ q ∈ ([] : List (Nat × Nat × Nat × Nat)), _; exact fun q h => absurd h List.not_mem_nil) (fun q2 H1 locs hszH1 hkH1 hS => ?_)
  have hcwH1 := hcw.kept (fun i hi => hkH1 _ (hcw.lt i hi))
  have hoH1 := ho.kept (hkH1 _ ho.lt)
  refine lv_astore (lv' := [(4, .ref q2), (0, .ref (u 0)), (1, .int (iI a)), (2, .int (iI b)), (3, .ref o)]) hx hb dL_compare_14 hl (by decide) rfl (fun ls hl => ?_)
  refine q_con hx hb dL_compare_16 ?_
  exact e_i hx hb hr hlk hS dL_compare_17 (by first | exact Nat.le_of_ble_eq_true rfl | ((try dsimp only); omega)) (by first | exact Nat.le_of_ble_eq_true rfl | ((try dsimp only); omega)) ⟨rfl, hcwH1, hoH1⟩

set_option maxHeartbeats 4000000 in
set_option maxRecDepth 100000 in
theorem wn2_compare (θ : TH) (l : Launch) (hl0 : l.stackTraces = false) (S0 : State) (H : Heap) (u : Nat → Nat) (dt sy sm sd : Nat → Int) (bc rf kn : Int) (hw : CWR θ S0 u H dt sy sm sd bc rf kn) (hj : SJ θ S0 H) (hn : NX S0) (o : Nat) (nv : Int) (sv9 : Value) (ho : OB θ H o 8 [.long (lL nv), sv9]) (hod : ∀ i : Nat, i < 7 → o ≠ u i) (a b : Int) (h_0 : -2147483648 ≤ a ∧ a < 2147483648) (h_1 : -2147483648 ≤ b ∧ b < 2147483648) (h_2 : 0 ≤ a ∧ a < 6) (h_3 : ¬ (0 ≤ b ∧ b < 6)) : CTW l yL_compare cL_compare 5 (some .int) [((0 : Nat), (11 : Nat), (14 : Nat), (19 : Nat))] 8 132 1 6 [.ref (u 0), .int (iI a), .int (iI b), .ref o] S0 H (fun v9 H1 => v9 = some (.int (iI 1)) ∧ CW θ u H1 dt sy sm sd bc rf kn ∧ OB θ H1 o 8 [.long (lL nv), sv9]) (fun x : Nat => UA u H.size x ∨ x = o) := by
  refine ctw_of (by decide +kernel) (Nat.le_of_ble_eq_true rfl) ?_
  intro pg en s mi args below meth co ls fx hs hr hlk htab hl
  subst hs
  obtain ⟨hx, hb, hml, hown, hts⟩ := id fx.1
  have hS : va_S (fun x : Nat => UA u s.heap.size x ∨ x = o) s.heap s.heap [] := va_S.rf
  obtain ⟨hz, hu, hcw, hd, hsp⟩ := id hw
  have hK := sz_K fx.2 hz
  refine lv_aload_n hx hb dL_compare_0 rfl (lv_at hl 3 rfl) ?_
  refine lv_aload_n hx hb dL_compare_1 rfl (lv_at hl 0 rfl) ?_
  refine lv_iload_n hx hb dL_compare_2 rfl (lv_at hl 1 rfl) ?_
  refine lv_iload_n hx hb dL_compare_3 rfl (lv_at hl 2 rfl) ?_
  refine c_VT (As := [.int (iI a), .int (iI b)]) (rest := [.ref o]) (b := u 0) (C := RX1) (E := "java/lang/IndexOutOfBoundsException") (name := "java/lang/IndexOutOfBoundsException") (k := 0) (a0 := 0) (a1 := 11) (hpc := 14) (ct := 19) fx hl (no2_compare θ l hl0 S0 _ u _ _ _ _ _ _ _ hw a b h_0 h_1 h_2 h_3) (ob_recv hK hcw.1 rfl) dL_compare_4 k1047 k659 k660 k1 k661 hd_X1_compare rfl ⟨by decide, by decide⟩ (Nat.le_of_ble_eq_true rfl) ⟨by (try dsimp only); omega, by (try dsimp only); omega⟩ hS (fun x h => Or.inl (Or.inr h)) htab rfl ⟨by decide, by decide⟩ (by decide) k696 (nw_at (args := args) fx.2 hz.2.2.2.2.2.2.2.2.1 (by decide +kernel)) (by show ∀ q ∈ ([] : List (Nat × Nat × Nat × Nat)), _; exact fun q h => absurd h List.not_mem_nil) (fun q2 H1 locs hszH1 hkH1 hS => ?_)
  have hcwH1 := hcw.kept (fun i hi => hkH1 _ (hcw.lt i hi))
  have hoH1 := ho.kept (hkH1 _ ho.lt)
  refine lv_astore (lv' := [(4, .ref q2), (0, .ref (u 0)), (1, .int (iI a)), (2, .int (iI b)), (3, .ref o)]) hx hb dL_compare_14 hl (by decide) rfl (fun ls hl => ?_)
  refine q_con hx hb dL_compare_16 ?_
  exact e_i hx hb hr hlk hS dL_compare_17 (by first | exact Nat.le_of_ble_eq_true rfl | ((try dsimp only); omega)) (by first | exact Nat.le_of_ble_eq_true rfl | ((try dsimp only); omega)) ⟨rfl, hcwH1, hoH1⟩

set_option maxHeartbeats 4000000 in
set_option maxRecDepth 100000 in
theorem wr_between (θ : TH) (l : Launch) (hl0 : l.stackTraces = false) (S0 : State) (H : Heap) (u : Nat → Nat) (dt sy sm sd : Nat → Int) (bc rf kn : Int) (hw : CWR θ S0 u H dt sy sm sd bc rf kn) (hj : SJ θ S0 H) (hn : NX S0) (o : Nat) (nv : Int) (sv9 : Value) (ho : OB θ H o 8 [.long (lL nv), sv9]) (hod : ∀ i : Nat, i < 7 → o ≠ u i) (a b : Int) (h_0 : -2147483648 ≤ a ∧ a < 2147483648) (h_1 : -2147483648 ≤ b ∧ b < 2147483648) (h_2 : 0 ≤ a ∧ a < 6) (h_3 : 0 ≤ b ∧ b < 6) : CTW l yL_between cL_between 5 (some .int) [((0 : Nat), (11 : Nat), (14 : Nat), (19 : Nat))] 2 42 0 0 [.ref (u 0), .int (iI a), .int (iI b), .ref o] S0 H (fun v9 H1 => v9 = some (.int (iI 0)) ∧ CW θ u H1 dt sy sm sd bc rf kn ∧ OB θ H1 o 8 [.long (lL (iI (dt b.toNat - dt a.toNat)).toInt), sv9]) (fun x : Nat => UA u H.size x ∨ x = o) := by
  refine ctw_of (by decide +kernel) (Nat.le_of_ble_eq_true rfl) ?_
  intro pg en s mi args below meth co ls fx hs hr hlk htab hl
  subst hs
  obtain ⟨hx, hb, hml, hown, hts⟩ := id fx.1
  have hS : va_S (fun x : Nat => UA u s.heap.size x ∨ x = o) s.heap s.heap [] := va_S.rf
  obtain ⟨hz, hu, hcw, hd, hsp⟩ := id hw
  have hK := sz_K fx.2 hz
  refine lv_aload_n hx hb dL_between_0 rfl (lv_at hl 3 rfl) ?_
  refine lv_aload_n hx hb dL_between_1 rfl (lv_at hl 0 rfl) ?_
  refine lv_iload_n hx hb dL_between_2 rfl (lv_at hl 1 rfl) ?_
  refine lv_iload_n hx hb dL_between_3 rfl (lv_at hl 2 rfl) ?_
  refine c_Vr (As := [.int (iI a), .int (iI b)]) (rest := [.ref o]) (b := u 0) (C := RX1) (r := some (.int (iI (dt b.toNat - dt a.toNat)))) (st1 := [.int (iI (dt b.toNat - dt a.toNat)), .ref o]) fx hl (ok_between θ l hl0 S0 _ u _ _ _ _ _ _ _ hw a b h_0 h_1 h_2 h_3) (ob_recv hK hcw.1 rfl) dL_between_4 k1051 k1052 k1053 k1 k1054 hd_X1_between rfl rfl ⟨by decide, by decide⟩ (Nat.le_of_ble_eq_true rfl) ⟨by (try dsimp only); omega, by (try dsimp only); omega⟩ hS (fun _ h => h.elim) (fun H1 locs hpH1 hszH1 hk0H1 hS => ?_)
  obtain rfl := hpH1.symm
  refine q_i2lx hx hb dL_between_7 ?_
  refine r_putN (θ := θ) (C := RX2) (T := TX2) (N := 2) (ci := 8) (v := .long (lL ((iI (dt b.toNat - dt a.toNat)).toInt))) (ty := .long) hx hb hts gwX2 tyX2 tyX2_ok nmX2 hown hK ho (Or.inr rfl) hS rfl 0 (by decide) (va_Nw.use rfl (va_Nw.warmF fx.2 hn.2.1)) (fun _ h => h) rfl (by decide +kernel) rfl rfl (Nat.le_of_ble_eq_true rfl) dL_between_8 (fun H2 locs hqH2 hszH2 hkH2 hS => ?_)
  have hoH2 : OB θ H2 o 8 [.long (lL ((iI (dt b.toNat - dt a.toNat)).toInt)), sv9] := hqH2
  have hcwH2 := hcw.kept (fun i hi => hkH2 _ (Ne.symm (hod i hi)))
  refine lv_goto (tgt := 18) hx hb dL_between_11 (by decide) ?_
  refine q_con hx hb dL_between_18 ?_
  exact e_i hx hb hr hlk hS dL_between_19 (by first | exact Nat.le_of_ble_eq_true rfl | ((try dsimp only); omega)) (by first | exact Nat.le_of_ble_eq_true rfl | ((try dsimp only); omega)) ⟨rfl, hcwH2, hoH2⟩

set_option maxHeartbeats 4000000 in
set_option maxRecDepth 100000 in
theorem wn1_between (θ : TH) (l : Launch) (hl0 : l.stackTraces = false) (S0 : State) (H : Heap) (u : Nat → Nat) (dt sy sm sd : Nat → Int) (bc rf kn : Int) (hw : CWR θ S0 u H dt sy sm sd bc rf kn) (hj : SJ θ S0 H) (hn : NX S0) (o : Nat) (nv : Int) (sv9 : Value) (ho : OB θ H o 8 [.long (lL nv), sv9]) (hod : ∀ i : Nat, i < 7 → o ≠ u i) (a b : Int) (h_0 : -2147483648 ≤ a ∧ a < 2147483648) (h_1 : -2147483648 ≤ b ∧ b < 2147483648) (h_2 : ¬ (0 ≤ a ∧ a < 6)) : CTW l yL_between cL_between 5 (some .int) [((0 : Nat), (11 : Nat), (14 : Nat), (19 : Nat))] 8 132 1 6 [.ref (u 0), .int (iI a), .int (iI b), .ref o] S0 H (fun v9 H1 => v9 = some (.int (iI 1)) ∧ CW θ u H1 dt sy sm sd bc rf kn ∧ OB θ H1 o 8 [.long (lL nv), sv9]) (fun x : Nat => UA u H.size x ∨ x = o) := by
  refine ctw_of (by decide +kernel) (Nat.le_of_ble_eq_true rfl) ?_
  intro pg en s mi args below meth co ls fx hs hr hlk htab hl
  subst hs
  obtain ⟨hx, hb, hml, hown, hts⟩ := id fx.1
  have hS : va_S (fun x : Nat => UA u s.heap.size x ∨ x = o) s.heap s.heap [] := va_S.rf
  obtain ⟨hz, hu, hcw, hd, hsp⟩ := id hw
  have hK := sz_K fx.2 hz
  refine lv_aload_n hx hb dL_between_0 rfl (lv_at hl 3 rfl) ?_
  refine lv_aload_n hx hb dL_between_1 rfl (lv_at hl 0 rfl) ?_
  refine lv_iload_n hx hb dL_between_2 rfl (lv_at hl 1 rfl) ?_
  refine lv_iload_n hx hb dL_between_3 rfl (lv_at hl 2 rfl) ?_
  refine c_VT (As := [.int (iI a), .int (iI b)]) (rest := [.ref o]) (b := u 0) (C := RX1) (E := "java/lang/IndexOutOfBoundsException") (name := "java/lang/IndexOutOfBoundsException") (k := 0) (a0 := 0) (a1 := 11) (hpc := 14) (ct := 19) fx hl (no1_between θ l hl0 S0 _ u _ _ _ _ _ _ _ hw a b h_0 h_1 h_2) (ob_recv hK hcw.1 rfl) dL_between_4 k1051 k1052 k1053 k1 k1054 hd_X1_between rfl ⟨by decide, by decide⟩ (Nat.le_of_ble_eq_true rfl) ⟨by (try dsimp only); omega, by (try dsimp only); omega⟩ hS (fun x h => Or.inl (Or.inr h)) htab rfl ⟨by decide, by decide⟩ (by decide) k696 (nw_at (args := args) fx.2 hz.2.2.2.2.2.2.2.2.1 (by decide +kernel)) (by show ∀ q ∈ ([] : List (Nat × Nat × Nat × Nat)), _; exact fun q h => absurd h List.not_mem_nil) (fun q2 H1 locs hszH1 hkH1 hS => ?_)
  have hcwH1 := hcw.kept (fun i hi => hkH1 _ (hcw.lt i hi))
  have hoH1 := ho.kept (hkH1 _ ho.lt)
  refine lv_astore (lv' := [(4, .ref q2), (0, .ref (u 0)), (1, .int (iI a)), (2, .int (iI b)), (3, .ref o)]) hx hb dL_between_14 hl (by decide) rfl (fun ls hl => ?_)
  refine q_con hx hb dL_between_16 ?_
  exact e_i hx hb hr hlk hS dL_between_17 (by first | exact Nat.le_of_ble_eq_true rfl | ((try dsimp only); omega)) (by first | exact Nat.le_of_ble_eq_true rfl | ((try dsimp only); omega)) ⟨rfl, hcwH1, hoH1⟩

set_option maxHeartbeats 4000000 in
set_option maxRecDepth 100000 in
theorem wn2_between (θ : TH) (l : Launch) (hl0 : l.stackTraces = false) (S0 : State) (H : Heap) (u : Nat → Nat) (dt sy sm sd : Nat → Int) (bc rf kn : Int) (hw : CWR θ S0 u H dt sy sm sd bc rf kn) (hj : SJ θ S0 H) (hn : NX S0) (o : Nat) (nv : Int) (sv9 : Value) (ho : OB θ H o 8 [.long (lL nv), sv9]) (hod : ∀ i : Nat, i < 7 → o ≠ u i) (a b : Int) (h_0 : -2147483648 ≤ a ∧ a < 2147483648) (h_1 : -2147483648 ≤ b ∧ b < 2147483648) (h_2 : 0 ≤ a ∧ a < 6) (h_3 : ¬ (0 ≤ b ∧ b < 6)) : CTW l yL_between cL_between 5 (some .int) [((0 : Nat), (11 : Nat), (14 : Nat), (19 : Nat))] 8 132 1 6 [.ref (u 0), .int (iI a), .int (iI b), .ref o] S0 H (fun v9 H1 => v9 = some (.int (iI 1)) ∧ CW θ u H1 dt sy sm sd bc rf kn ∧ OB θ H1 o 8 [.long (lL nv), sv9]) (fun x : Nat => UA u H.size x ∨ x = o) := by
  refine ctw_of (by decide +kernel) (Nat.le_of_ble_eq_true rfl) ?_
  intro pg en s mi args below meth co ls fx hs hr hlk htab hl
  subst hs
  obtain ⟨hx, hb, hml, hown, hts⟩ := id fx.1
  have hS : va_S (fun x : Nat => UA u s.heap.size x ∨ x = o) s.heap s.heap [] := va_S.rf
  obtain ⟨hz, hu, hcw, hd, hsp⟩ := id hw
  have hK := sz_K fx.2 hz
  refine lv_aload_n hx hb dL_between_0 rfl (lv_at hl 3 rfl) ?_
  refine lv_aload_n hx hb dL_between_1 rfl (lv_at hl 0 rfl) ?_
  refine lv_iload_n hx hb dL_between_2 rfl (lv_at hl 1 rfl) ?_
  refine lv_iload_n hx hb dL_between_3 rfl (lv_at hl 2 rfl) ?_
  refine c_VT (As := [.int (iI a), .int (iI b)]) (rest := [.ref o]) (b := u 0) (C := RX1) (E := "java/lang/IndexOutOfBoundsException") (name := "java/lang/IndexOutOfBoundsException") (k := 0) (a0 := 0) (a1 := 11) (hpc := 14) (ct := 19) fx hl (no2_between θ l hl0 S0 _ u _ _ _ _ _ _ _ hw a b h_0 h_1 h_2 h_3) (ob_recv hK hcw.1 rfl) dL_between_4 k1051 k1052 k1053 k1 k1054 hd_X1_between rfl ⟨by decide, by decide⟩ (Nat.le_of_ble_eq_true rfl) ⟨by (try dsimp only); omega, by (try dsimp only); omega⟩ hS (fun x h => Or.inl (Or.inr h)) htab rfl ⟨by decide, by decide⟩ (by decide) k696 (nw_at (args := args) fx.2 hz.2.2.2.2.2.2.2.2.1 (by decide +kernel)) (by show ∀ q ∈ ([] : List (Nat × Nat × Nat × Nat)), _; exact fun q h => absurd h List.not_mem_nil) (fun q2 H1 locs hszH1 hkH1 hS => ?_)
  have hcwH1 := hcw.kept (fun i hi => hkH1 _ (hcw.lt i hi))
  have hoH1 := ho.kept (hkH1 _ ho.lt)
  refine lv_astore (lv' := [(4, .ref q2), (0, .ref (u 0)), (1, .int (iI a)), (2, .int (iI b)), (3, .ref o)]) hx hb dL_between_14 hl (by decide) rfl (fun ls hl => ?_)
  refine q_con hx hb dL_between_16 ?_
  exact e_i hx hb hr hlk hS dL_between_17 (by first | exact Nat.le_of_ble_eq_true rfl | ((try dsimp only); omega)) (by first | exact Nat.le_of_ble_eq_true rfl | ((try dsimp only); omega)) ⟨rfl, hcwH1, hoH1⟩

set_option maxHeartbeats 4000000 in
set_option maxRecDepth 100000 in
theorem wr_house (θ : TH) (l : Launch) (hl0 : l.stackTraces = false) (S0 : State) (H : Heap) (u : Nat → Nat) (dt sy sm sd : Nat → Int) (bc rf kn : Int) (hw : CWR θ S0 u H dt sy sm sd bc rf kn) (hj : SJ θ S0 H) (hn : NX S0) (o : Nat) (nv : Int) (sv9 : Value) (ho : OB θ H o 8 [.long (lL nv), sv9]) (hod : ∀ i : Nat, i < 7 → o ≠ u i) (k : Int) (h_0 : -2147483648 ≤ k ∧ k < 2147483648) (h_1 : 0 ≤ k ∧ k ≤ 3) : CTW l yL_house cL_house 4 (some .int) [((0 : Nat), (10 : Nat), (13 : Nat), (21 : Nat))] 3 65 0 0 [.ref (u 0), .int (iI k), .ref o] S0 H (fun v9 H1 => v9 = some (.int (iI 0)) ∧ CW θ u H1 dt sy sm sd bc rf kn ∧ ∃ z9 : Int, OB θ H1 o 8 [.long (lL z9), sv9]) (fun x : Nat => UA u H.size x ∨ x = o) := by
  refine ctw_of (by decide +kernel) (Nat.le_of_ble_eq_true rfl) ?_
  intro pg en s mi args below meth co ls fx hs hr hlk htab hl
  subst hs
  obtain ⟨hx, hb, hml, hown, hts⟩ := id fx.1
  have hS : va_S (fun x : Nat => UA u s.heap.size x ∨ x = o) s.heap s.heap [] := va_S.rf
  obtain ⟨hz, hu, hcw, hd, hsp⟩ := id hw
  have hK := sz_K fx.2 hz
  refine lv_aload_n hx hb dL_house_0 rfl (lv_at hl 2 rfl) ?_
  refine lv_aload_n hx hb dL_house_1 rfl (lv_at hl 0 rfl) ?_
  refine lv_iload_n hx hb dL_house_2 rfl (lv_at hl 1 rfl) ?_
  refine c_IP (As := [.int (iI k)]) (rest := [.ref o]) (b := u 0) (C := RX1) fx hl (ok_house θ l hl0 S0 _ u _ _ _ _ _ _ _ hw k h_0 h_1) (ob_recv hK hcw.1 rfl) dL_house_3 k1058 k169 k170 k1 k171 hd_X1_house rfl ⟨by decide, by decide⟩ (Nat.le_of_ble_eq_true rfl) ⟨by (try dsimp only); omega, by (try dsimp only); omega⟩ hS (fun _ h => h.elim) (fun z2 H1 locs hpH1 hszH1 hk0H1 hS => ?_)
  obtain rfl := hpH1.symm
  refine q_i2lx hx hb dL_house_6 ?_
  refine r_putN (θ := θ) (C := RX2) (T := TX2) (N := 2) (ci := 8) (v := .long (lL ((iI z2).toInt))) (ty := .long) hx hb hts gwX2 tyX2 tyX2_ok nmX2 hown hK ho (Or.inr rfl) hS rfl 0 (by decide) (va_Nw.use rfl (va_Nw.warmF fx.2 hn.2.1)) (fun _ h => h) rfl (by decide +kernel) rfl rfl (Nat.le_of_ble_eq_true rfl) dL_house_7 (fun H3 locs hqH3 hszH3 hkH3 hS => ?_)
  have hoH3 : OB θ H3 o 8 [.long (lL ((iI z2).toInt)), sv9] := hqH3
  have hcwH3 := hcw.kept (fun i hi => hkH3 _ (Ne.symm (hod i hi)))
  refine lv_goto (tgt := 16) hx hb dL_house_10 (by decide) ?_
  refine q_con hx hb dL_house_16 ?_
  exact e_i hx hb hr hlk hS dL_house_17 (by first | exact Nat.le_of_ble_eq_true rfl | ((try dsimp only); omega)) (by first | exact Nat.le_of_ble_eq_true rfl | ((try dsimp only); omega)) ⟨rfl, hcwH3, ⟨_, hoH3⟩⟩

set_option maxHeartbeats 4000000 in
set_option maxRecDepth 100000 in
theorem wn1_house (θ : TH) (l : Launch) (hl0 : l.stackTraces = false) (S0 : State) (H : Heap) (u : Nat → Nat) (dt sy sm sd : Nat → Int) (bc rf kn : Int) (hw : CWR θ S0 u H dt sy sm sd bc rf kn) (hj : SJ θ S0 H) (hn : NX S0) (o : Nat) (nv : Int) (sv9 : Value) (ho : OB θ H o 8 [.long (lL nv), sv9]) (hod : ∀ i : Nat, i < 7 → o ≠ u i) (k : Int) (h_0 : -2147483648 ≤ k ∧ k < 2147483648) (h_1 : ¬ (0 ≤ k ∧ k ≤ 3)) : CTW l yL_house cL_house 4 (some .int) [((0 : Nat), (10 : Nat), (13 : Nat), (21 : Nat))] 8 133 1 6 [.ref (u 0), .int (iI k), .ref o] S0 H (fun v9 H1 => v9 = some (.int (iI 1)) ∧ CW θ u H1 dt sy sm sd bc rf kn ∧ OB θ H1 o 8 [.long (lL nv), sv9]) (fun x : Nat => UA u H.size x ∨ x = o) := by
  refine ctw_of (by decide +kernel) (Nat.le_of_ble_eq_true rfl) ?_
  intro pg en s mi args below meth co ls fx hs hr hlk htab hl
  subst hs
  obtain ⟨hx, hb, hml, hown, hts⟩ := id fx.1
  have hS : va_S (fun x : Nat => UA u s.heap.size x ∨ x = o) s.heap s.heap [] := va_S.rf
  obtain ⟨hz, hu, hcw, hd, hsp⟩ := id hw
  have hK := sz_K fx.2 hz
  refine lv_aload_n hx hb dL_house_0 rfl (lv_at hl 2 rfl) ?_
  refine lv_aload_n hx hb dL_house_1 rfl (lv_at hl 0 rfl) ?_
  refine lv_iload_n hx hb dL_house_2 rfl (lv_at hl 1 rfl) ?_
  refine c_VT (As := [.int (iI k)]) (rest := [.ref o]) (b := u 0) (C := RX1) (E := "java/lang/IllegalArgumentException") (name := "java/lang/IllegalArgumentException") (k := 0) (a0 := 0) (a1 := 10) (hpc := 13) (ct := 21) fx hl (no1_house θ l hl0 S0 _ u _ _ _ _ _ _ _ hw k h_0 h_1) (ob_recv hK hcw.1 rfl) dL_house_3 k1058 k169 k170 k1 k171 hd_X1_house rfl ⟨by decide, by decide⟩ (Nat.le_of_ble_eq_true rfl) ⟨by (try dsimp only); omega, by (try dsimp only); omega⟩ hS (fun x h => Or.inl (Or.inr h)) htab rfl ⟨by decide, by decide⟩ (by decide) k697 (nw_at (args := args) fx.2 hz.2.2.2.2.2.2.2.2.1 (by decide +kernel)) (by show ∀ q ∈ ([] : List (Nat × Nat × Nat × Nat)), _; exact fun q h => absurd h List.not_mem_nil) (fun q2 H1 locs hszH1 hkH1 hS => ?_)
  have hcwH1 := hcw.kept (fun i hi => hkH1 _ (hcw.lt i hi))
  have hoH1 := ho.kept (hkH1 _ ho.lt)
  refine lv_astore_n (lv' := [(3, .ref q2), (0, .ref (u 0)), (1, .int (iI k)), (2, .ref o)]) hx hb dL_house_13 rfl hl (by decide) rfl (fun ls hl => ?_)
  refine q_con hx hb dL_house_14 ?_
  exact e_i hx hb hr hlk hS dL_house_15 (by first | exact Nat.le_of_ble_eq_true rfl | ((try dsimp only); omega)) (by first | exact Nat.le_of_ble_eq_true rfl | ((try dsimp only); omega)) ⟨rfl, hcwH1, hoH1⟩
