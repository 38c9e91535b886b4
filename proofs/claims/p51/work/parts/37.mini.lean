/-! the reference's constructor; what its two makers of arrays of rows owe is proved in the last part -/
def AQ (θ : TH) (H : Heap) (a n : Nat) (g : Nat → Option Nat) : Prop := H[a]? = some (vp_cell (θ.2.1 3) (n, .inr (.inr (.inr (.inr g)))))
theorem AQ.kept {θ : TH} {H H1 : Heap} {a n : Nat} {g : Nat → Option Nat} (h : AQ θ H a n g) (hq : H1[a]? = H[a]?) : AQ θ H1 a n g := hq.trans h
theorem AQ.lt {θ : TH} {H : Heap} {a n : Nat} {g : Nat → Option Nat} (h : AQ θ H a n g) : a < H.size := (Array.getElem?_eq_some_iff.mp h).1
theorem AQ.ext {θ : TH} {H : Heap} {a n : Nat} {g g' : Nat → Option Nat} (h : AQ θ H a n g) (e : ∀ j, j < n → g j = g' j) : AQ θ H a n g' := by
  unfold AQ at h ⊢
  rw [h, vp_cell_q, vp_cell_q]
  exact congrArg some (arrV_ext fun j hj => by rw [e j hj])
theorem AQ.ar {θ : TH} {H : Heap} {a n : Nat} {g : Nat → Option Nat} {r : Nat → Nat} (h : AQ θ H a n g) (e : ∀ j, j < n → g j = some (r j)) : AR θ H a n r := h.ext e
section MQ
variable {p : Program} {l : Launch} {e : Env} {R : Room} {s : State} {m : MethodId} {args : Array Value} {below : List Frame} {meth : Method} {c : Code} {H : Heap} {locs : List Loc} {cells slots : Nat} {Q : State → Prop} {cc : ByteArray} {pc : Nat} {ls : Array Slot} {rest : List Value} {θ : TH} {A : Nat → Prop} {H0 : Heap} {S0 : State}
theorem r_aastQ (hexec : p.tables.exec = Jvm.exec) (hb : c.code = cc) (hW : S0.WarmedH s.vm) (hz : SZ θ S0 s.heap) {a v n nv : Nat} {r : Nat → Option Nat} {g : Nat → Int} (ha : AQ θ H a n r) (hv : AI θ H v nv g) (haA : A a) (hS : va_S A H0 H locs) {i : Int} (hi : 0 ≤ i ∧ i < (n : Int)) (hn : n < 2147483648) (d : decode cc pc = .ok (.aastore, 1))
    (kk : ∀ (H1 : Heap) (locs1 : List Loc), AQ θ H1 a n (up r i.toNat (some v)) → H1.size = H.size → (∀ q : Nat, q ≠ a → H1[q]? = H[q]?) → va_S A H0 H1 locs1 → W p l e R s m args below meth c H1 locs1 cells slots Q (F0 m (pc + 1) ls rest)) : W p l e R s m args below meth c H locs cells slots Q (F0 m pc ls (.ref v :: .int (iI i) :: .ref a :: rest)) := by
  have hK := sz_K hW hz
  have hin := vp_in_I hi hn
  have hlt : (iI i).toNatClampNeg < n := Nat.not_le.mp fun q => hin (Or.inr q)
  have h0 : ¬ iI i < 0 := fun q => hin (Or.inl q)
  have e1 : (iI i).toNatClampNeg = i.toNat := iI_nn (by omega)
  obtain ⟨comp, c9, k8, k1, k7, k6, k4⟩ := aov_spec hz.2.2.2.2.2.2.2.1
  obtain ⟨k9, k2, he9⟩ := hW.alike.2.2 _ _ k7
  have k3 : k9.kind = .array comp (.array .int) := by rw [he9]; exact k6
  have f3 : S0.vm.findClass ("[" ++ (FieldType.array .int).toString) = some (θ.2.1 3) := (hz.1.2 3 _ rfl).2
  have f0 : S0.vm.findClass ("[" ++ FieldType.int.toString) = some (θ.2.1 0) := (hz.1.2 0 _ rfl).2
  have f1 : s.vm.findClass ("[" ++ FieldType.int.toString) = some (θ.2.1 0) := (hK.2 0 _ rfl).2
  have e3 : c9 = θ.2.1 3 := Option.some.inj (k4.symm.trans f3)
  have e0 : comp = θ.2.1 0 := Option.some.inj (k1.symm.trans f0)
  subst e3
  subst e0
  obtain ⟨kE, hkE, -⟩ := Vm.findClass_spec f1
  have hself : s.vm.assignable (θ.2.1 0) (θ.2.1 0) = true := by
    show s.vm.assignableAux (255 + 1) _ _ = true
    rw [Vm.assignableAux]
    simp only [beq_self_eq_true, Bool.true_or]
  refine W.aast hexec hb ha (fun q h => by cases h) (fun h => by cases h) k2 k3 rfl hkE ⟨h0, by show _ < (arrV _ _ _).slots.size; rw [arrV_size]; exact hlt⟩ hv (fun q h => by cases h) hkE hself rfl rfl d fun H1 e z oq => ?_
  refine kk H1 _ ?_ z oq (hS.put z oq haA)
  show H1[a]? = some (vp_cell _ _)
  rw [e]
  rw [vp_cell_q, vp_cell_q, arrV_store, e1]
  congr 1
  refine arrV_ext fun j _ => ?_
  unfold updV up
  by_cases hq : j = i.toNat
  · subst hq
    simp [va_rf]
  · simp [hq]
end MQ
/-- new int[6][] -/
abbrev AnA (θ : TH) (S0 : State) : Prop := ∀ {p : Program} {l : Launch} {e : Env} {R : Room} {s : State} {m : MethodId} {args : Array Value} {below : List Frame} {meth : Method} {c : Code} {H : Heap} {locs : List Loc} {cells slots : Nat} {Q : State → Prop} {cc : ByteArray} {pc : Nat} {ls : Array Slot} {rest : List Value} {A : Nat → Prop} {H0 : Heap} {own : String} {index : Nat}, p.tables.exec = Jvm.exec → c.code = cc → (∀ w ∈ wG, w.before args s = true) → S0.WarmedH s.vm → s.vm.findClass own = some m.cls → Cond.classLink own index "[I" ∈ wG → va_S A H0 H locs → cells + 1 ≤ R.cells → slots + 6 ≤ R.slots → decode cc pc = .ok (.anewarray index, 3) →
  (∀ (H1 : Heap), AQ θ H1 H.size 6 (fun _ => none) → H1.size = H.size + 1 → (∀ q : Nat, q < H.size → H1[q]? = H[q]?) → va_S A H0 H1 locs → W p l e R s m args below meth c H1 locs (cells + 1) (slots + 6) Q (F0 m (pc + 3) ls (.ref H.size :: rest))) → W p l e R s m args below meth c H locs cells slots Q (F0 m pc ls (.int (iI 6) :: rest))
/-- new int[3][3] -/
abbrev MnA (θ : TH) (S0 : State) : Prop := ∀ {p : Program} {l : Launch} {e : Env} {R : Room} {s : State} {m : MethodId} {args : Array Value} {below : List Frame} {meth : Method} {c : Code} {H : Heap} {locs : List Loc} {cells slots : Nat} {Q : State → Prop} {cc : ByteArray} {pc : Nat} {ls : Array Slot} {rest : List Value} {A : Nat → Prop} {H0 : Heap} {own : String} {index : Nat}, p.tables.exec = Jvm.exec → c.code = cc → (∀ w ∈ wG, w.before args s = true) → S0.WarmedH s.vm → s.vm.findClass own = some m.cls → Cond.classLink own index "[[I" ∈ wG → Cond.arrayClass .int ∈ wG → va_S A H0 H locs → cells + 4 ≤ R.cells → slots + 12 ≤ R.slots → decode cc pc = .ok (.multianewarray index 2, 4) →
  (∀ (H1 : Heap), AR θ H1 H.size 3 (fun j => H.size + 1 + j) → (∀ j : Nat, j < 3 → AI θ H1 (H.size + 1 + j) 3 (fun _ => 0)) → H1.size = H.size + 4 → (∀ q : Nat, q < H.size → H1[q]? = H[q]?) → va_S A H0 H1 locs → W p l e R s m args below meth c H1 locs (cells + 4) (slots + 12) Q (F0 m (pc + 4) ls (.ref H.size :: rest))) → W p l e R s m args below meth c H locs cells slots Q (F0 m pc ls (.int (iI 3) :: .int (iI 3) :: rest))
set_option maxHeartbeats 4000000 in
set_option maxRecDepth 100000 in
theorem mi_Model (θ : TH) (l : Launch) (S0 : State) (H : Heap) (hz : SZ θ S0 H) (hA : AnA θ S0) (hM : MnA θ S0) (a : Nat) (h_q0 : OB θ H a 9 [.int (iI 0), .int (iI 0), .int (iI 0), .int (iI 0), .null, .null]) (h_0 : θ.2.2.2 ≤ a) : CT l yX3_init cX3_init 2 none 6 140 11 30 [.ref a] S0 H (fun v9 H1 => v9 = none ∧ ∃ r : Nat → Nat, OB θ H1 a 9 [.int (iI 0), .int (iI 0), .int (iI 0), .int (iI 0), .ref H.size, .ref (H.size + 1)] ∧ AR θ H1 H.size 6 r ∧ AR θ H1 (H.size + 1) 3 (fun j => H.size + 1 + 1 + j) ∧ (∀ j : Nat, j < 6 → DR θ H1 (r j) 0 ∧ H.size + 5 ≤ r j) ∧ ∀ j : Nat, j < 3 → AI θ H1 (H.size + 1 + 1 + j) 3 (fun _ => 0)) (fun _ _ => False) (fun x : Nat => x = a ∨ H.size ≤ x) := by
  refine ct_of (by decide +kernel) (Nat.le_of_ble_eq_true rfl) ?_
  intro pg en s mi args below meth co ls fx hs hr hlk hxt hin hl
  subst hs
  obtain ⟨hx, hb, hml, hown, hts⟩ := id fx.1
  have hS : va_S (fun x : Nat => x = a ∨ s.heap.size ≤ x) s.heap s.heap [] := va_S.rf
  have hz2 := hz.2.1
  have hAB : ∀ x : Nat, (fun x : Nat => x = a ∨ s.heap.size ≤ x) x → θ.2.2.2 ≤ x := fun x hx => by (try dsimp only at hx); omega
  have hz0 := hz
  have hK := sz_K fx.2 hz
  have la := h_q0.lt
  refine lv_aload_n hx hb dX3_init_0 rfl (lv_at hl 0 rfl) ?_
  refine r_oinit hx hb hml hl hts hown k1064 k37 k38 dX3_init_1 (Nat.le_of_ble_eq_true rfl) (Nat.le_of_ble_eq_true rfl) ?_
  refine lv_aload_n hx hb dX3_init_4 rfl (lv_at hl 0 rfl) ?_
  refine q_bip hx hb dX3_init_5 (by decide) ?_
  refine hA hx hb hts fx.2 hown k1065 hS (by (try dsimp only); omega) (by (try dsimp only); omega) dX3_init_7 (fun H1 hq1 hs1 hk1 hS => ?_)
  refine r_putF (θ := θ) (C := RX3) (T := TX3) (N := 6) (ci := 9) (v := .ref s.heap.size) (ty := .array (.array .int)) hx hb hts gwX3 tyX3 tyX3_ok nmX3 hown hK (h_q0.kept (hk1 _ la)) (Or.inl rfl) hS rfl 4 (by decide) k1094 (fun _ h => h) rfl (hin rfl) rfl (by decide +kernel) rfl rfl (Nat.le_of_ble_eq_true rfl) dX3_init_10 (fun H2 locs hq2 hs2 hk2 hS => ?_)
  have ho2 : OB θ H2 a 9 [.int (iI 0), .int (iI 0), .int (iI 0), .int (iI 0), .ref s.heap.size, .null] := hq2
  have hd2 := hq1.kept (hk2 _ (by omega))
  refine lv_aload_n hx hb dX3_init_13 rfl (lv_at hl 0 rfl) ?_
  refine q_con hx hb dX3_init_14 ?_
  refine q_con hx hb dX3_init_15 ?_
  refine hM hx hb hts fx.2 hown k1067 k71 hS (by (try dsimp only); omega) (by (try dsimp only); omega) dX3_init_16 (fun H3 hw3 hr3 hs3 hk3 hS => ?_)
  refine r_putF (θ := θ) (C := RX3) (T := TX3) (N := 6) (ci := 9) (v := .ref H2.size) (ty := .array (.array .int)) hx hb hts gwX3 tyX3 tyX3_ok nmX3 hown hK (ho2.kept (hk3 _ (by omega))) (Or.inl rfl) hS rfl 5 (by decide) k1095 (fun _ h => h) rfl (hin rfl) rfl (by decide +kernel) rfl rfl (Nat.le_of_ble_eq_true rfl) dX3_init_20 (fun H4 locs hq4 hs4 hk4 hS => ?_)
  have ho4 : OB θ H4 a 9 [.int (iI 0), .int (iI 0), .int (iI 0), .int (iI 0), .ref s.heap.size, .ref H2.size] := hq4
  have hd4 : AQ θ H4 s.heap.size 6 (fun _ => none) := (hd2.kept (hk3 _ (by omega))).kept (hk4 _ (by omega))
  have hw4 := hw3.kept (hk4 _ (by omega))
  have hr4 : ∀ j : Nat, j < 3 → AI θ H4 (H2.size + 1 + j) 3 (fun _ => 0) := fun j hj => (hr3 j hj).kept (hk4 _ (by omega))
  have e2 : H2.size = s.heap.size + 1 := by omega
  have e4 : H4.size = s.heap.size + 5 := by omega
  refine q_con hx hb dX3_init_23 ?_
  refine lv_istore_n (lv' := [(1, .int (iI 0)), (0, .ref a)]) hx hb dX3_init_24 rfl hl (by decide) rfl (fun ls hl => ?_)
  refine w_loopH (nL := 2) (σ := Int) (fun x => (6 - x).toNat) (fun x H5 locs5 c9 s9 => (0 ≤ x ∧ x ≤ 6) ∧ (∃ r : Nat → Nat, AQ θ H5 s.heap.size 6 (fun j : Nat => if (j : Int) < x then some (r j) else none) ∧ ∀ j : Nat, (j : Int) < x → DR θ H5 (r j) 0 ∧ s.heap.size + 5 ≤ r j) ∧ OB θ H5 a 9 [.int (iI 0), .int (iI 0), .int (iI 0), .int (iI 0), .ref s.heap.size, .ref H2.size] ∧ AR θ H5 H2.size 3 (fun j => H2.size + 1 + j) ∧ (∀ j : Nat, j < 3 → AI θ H5 (H2.size + 1 + j) 3 (fun _ => 0)) ∧ H4.size ≤ H5.size ∧ va_S (fun x : Nat => x = a ∨ s.heap.size ≤ x) s.heap H5 locs5 ∧ c9 ≤ 5 + x.toNat ∧ s9 ≤ 18 + 2 * x.toNat) (fun x => [(1, .int (iI x)), (0, .ref a)]) ?_ (0 : Int) ⟨by omega, ⟨fun _ => 0, hd4.ext (fun j _ => (if_neg (by omega)).symm), fun j hj => by omega⟩, ho4, hw4, hr4, Nat.le_refl _, hS, by omega, by omega⟩ hl
  intro k H5 locs cells slots hJ ih ls hl
  obtain ⟨hk, ⟨r, hq, hrow⟩, ho, hw, hr9, hsz, hS, hc, hsl⟩ := hJ
  (try dsimp only at hk hq hrow hc hsl ih hl ⊢)
  have hzH := hz0.at hAB hS
  refine lv_iload_n hx hb dX3_init_25 rfl (lv_at hl 0 rfl) ?_
  refine q_bip hx hb dX3_init_26 (by decide) ?_
  refine q_cge (tgt := 47) hx hb dX3_init_28 (by decide) (by omega) (by omega) (fun c1 => ?_) (fun c1 => ?_)
  · rw [e2] at ho hw hr9
    exact e_v hx hb hr hlk hS dX3_init_47 (by (try dsimp only); omega) (by (try dsimp only); omega) ⟨rfl, r, ho, hq.ar (fun j hj => if_pos (by omega)), hw, fun j hj => hrow j (by omega), hr9⟩
  · refine lv_aload_n hx hb dX3_init_31 rfl (lv_at hl 1 rfl) ?_
    refine r_get (θ := θ) (C := RX3) (T := TX3) (N := 6) (ci := 9) hx hb hts gwX3 hown hK ho rfl 4 (by decide) k1094 (fun _ h => h) (v := .ref s.heap.size) rfl dX3_init_32 ?_
    refine lv_iload_n hx hb dX3_init_35 rfl (lv_at hl 0 rfl) ?_
    refine q_con hx hb dX3_init_36 ?_
    refine c_NR (θ := θ) (As := [.int (iI 0)]) (rest := [.int (iI k), .ref s.heap.size]) fx hl (pm_X3_dateOf θ l S0 _ hzH 0 (by omega)) dX3_init_37 k1068 k1069 k6 k1070 hd_X3_dateOf rfl ⟨by decide, by decide⟩ (Nat.le_of_ble_eq_true rfl) ⟨by (try dsimp only); omega, by (try dsimp only); omega⟩ hS (fun x hx => Or.inr (Nat.le_trans hS.1 hx)) (fun q H6 locs hq6 hd6 hs6 hk6 hS => ?_)
    have lq := hq.lt
    have l6 := hd6.lt
    refine r_aastQ hx hb fx.2 hz0 (hq.kept (hk6 _ lq)) hd6 (Or.inr (Nat.le_refl _)) hS (i := k) (by omega) (by decide) dX3_init_40 (fun H7 locs hq7 hs7 hk7 hS => ?_)
    have lo := ho.lt
    have lw := hw.lt
    refine lv_iinc (v := iI (k + 1)) (lv' := [(1, .int (iI (k + 1))), (0, .ref a)]) hx hb dX3_init_41 hl (k := 0) rfl (iI_add _ _) (by decide) rfl (fun ls hl => ?_)
    refine lv_goto (tgt := 25) hx hb dX3_init_44 (by decide) ?_
    refine ih (k + 1) _ _ _ _ _ ⟨by (try dsimp only); omega, ⟨up r k.toNat q, hq7.ext (fun j hj => ?_), fun j hj => ?_⟩, (ho.kept (hk6 _ lo)).kept (hk7 _ (by omega)), (hw.kept (hk6 _ lw)).kept (hk7 _ (by omega)), fun j hj => ((hr9 j hj).kept (hk6 _ (hr9 j hj).lt)).kept (hk7 _ (by omega)), by omega, hS, by (try dsimp only); omega, by (try dsimp only); omega⟩ (by (try dsimp only); omega) hl
    · by_cases e : j = k.toNat
      · subst e
        rw [up_s, if_pos (by omega), up_s]
      · rw [up_n _ _ e]
        by_cases h : (j : Int) < k
        · rw [if_pos h, if_pos (by omega), up_n _ _ e]
        · rw [if_neg h, if_neg (by omega)]
    · by_cases e : j = k.toNat
      · subst e
        rw [up_s]
        exact ⟨hd6.kept (hk7 _ (by omega)), by omega⟩
      · rw [up_n _ _ e]
        have h9 := hrow j (by omega)
        exact ⟨(h9.1.kept (hk6 _ h9.1.lt)).kept (hk7 _ (by omega)), h9.2⟩
