/-! lists: arrays of objects, boxes, iterators -/
def AO (θ : TH) (H : Heap) (a n : Nat) (g : Nat → Option Nat) : Prop := H[a]? = some (vp_cell (θ.2.1 2) (n, .inr (.inr (.inr (.inr g)))))
theorem AO.kept {θ : TH} {H H1 : Heap} {a n : Nat} {g : Nat → Option Nat} (h : AO θ H a n g) (hq : H1[a]? = H[a]?) : AO θ H1 a n g := hq.trans h
theorem AO.lt {θ : TH} {H : Heap} {a n : Nat} {g : Nat → Option Nat} (h : AO θ H a n g) : a < H.size := (Array.getElem?_eq_some_iff.mp h).1
theorem AO.ext {θ : TH} {H : Heap} {a n : Nat} {g g' : Nat → Option Nat} (h : AO θ H a n g) (e : ∀ j, j < n → g j = g' j) : AO θ H a n g' := by
  unfold AO at h ⊢
  rw [h, vp_cell_q, vp_cell_q]
  exact congrArg some (arrV_ext fun j hj => by rw [e j hj])
/-- the cache's box of v -/
def bx (θ : TH) (v : Int) : Nat := θ.2.2.1 (100 + (v + 128).toNat)
theorem SJ.box {θ : TH} {S0 : State} {H : Heap} (h : SJ θ S0 H) {v : Int} (hv : -128 ≤ v ∧ v ≤ 127) : BXA (AJ θ) S0 H (bx θ v) v := by
  have h1 := h.2.2.2.2.2.1 (v + 128).toNat (by omega)
  rw [show (((v + 128).toNat : Nat) : Int) - 128 = v by omega] at h1
  exact h1
/-- a list at L of k boxes, its array at d with cap places (the JDK's empty one, where cap is 0) -/
def LI (θ : TH) (H : Heap) (L d cap k : Nat) (el : Nat → Int) : Prop := ∃ g : Nat → Option Nat, OB θ H L 6 [.int (iI k), .ref d, .int (iI k)] ∧ (cap = 0 → d = θ.2.2.1 23) ∧ (0 < cap → AO θ H d cap g) ∧ k ≤ cap ∧ cap ≤ 100 ∧ ∀ j : Nat, j < k → g j = some (bx θ (el j)) ∧ -128 ≤ el j ∧ el j ≤ 127
theorem LI.lt {θ : TH} {H : Heap} {L d cap k : Nat} {el : Nat → Int} (h : LI θ H L d cap k el) : L < H.size ∧ (0 < cap → d < H.size) ∧ k ≤ cap ∧ cap ≤ 100 := by
  obtain ⟨g, h1, h2, h3, h4, h5, h6⟩ := h
  exact ⟨h1.lt, fun q => (h3 q).lt, h4, h5⟩
theorem LI.kept {θ : TH} {H H1 : Heap} {L d cap k : Nat} {el : Nat → Int} (h : LI θ H L d cap k el) (hL : H1[L]? = H[L]?) (hd : 0 < cap → H1[d]? = H[d]?) : LI θ H1 L d cap k el := by
  obtain ⟨g, h1, h2, h3, h4⟩ := h
  exact ⟨g, h1.kept hL, h2, fun q => (h3 q).kept (hd q), h4⟩
theorem CT.mono {l : Launch} {y : MethodName} {cy : ByteArray} {n : Nat} {ret : Option FieldType} {F L mc ms : Nat} {As : List Value} {S0 : State} {H : Heap} {Rr Rr' : Option Value → Heap → Prop} {RX : String → Heap → Prop} {A : Nat → Prop} (h : CT l y cy n ret F L mc ms As S0 H Rr RX A) (hR : ∀ v H1, Rr v H1 → Rr' v H1) : CT l y cy n ret F L mc ms As S0 H Rr' RX A := by
  intro p e h1 h2 h3 s m args below h4 h5 h6 h7
  obtain ⟨n, o, a, b, c, q⟩ := h p e h1 h2 h3 s m args below h4 h5 h6 h7
  exact ⟨n, o, a, b, c, q.imp (fun z => ⟨⟨z.1.1.elim fun v w => ⟨v, w.1, hR v _ w.2⟩, z.1.2⟩, z.2⟩) id⟩
section LR
variable {p : Program} {l : Launch} {e : Env} {R : Room} {s : State} {m : MethodId} {args : Array Value} {below : List Frame} {meth : Method} {c : Code} {H : Heap} {locs : List Loc} {cells slots : Nat} {Q : State → Prop} {cc : ByteArray} {pc : Nat} {ls : Array Slot} {rest : List Value} {θ : TH} {A A0 A1 : Nat → Prop} {H0 : Heap} {S0 : State} {mc ms : Nat}
theorem wcast_IO : Cond.castable "java/lang/Integer" "java/lang/Object" ∈ wN := by decide +kernel
theorem bx_any (hW : S0.WarmedH s.vm) (hz : SZ θ S0 s.heap) {y : Nat} {A2 : Nat → Prop} (h : va_O "java/lang/Integer" y A2 S0 H) : va_Any "java/lang/Object" s H y := by
  obtain ⟨cell, h1, h2, h3⟩ := o_recv hW h
  obtain ⟨c0, t0, f1, f2, f3⟩ := Cond.castable_spec (nw_at (args := #[]) hW hz.2.2.2.2.2.2.2.2.1 wcast_IO)
  obtain ⟨kC, hkC, -⟩ := Vm.findClass_spec h3
  exact ⟨cell, h1, h2, ⟨kC, hkC⟩, fun comp hc => by cases hc.symm.trans f2; cases h3.symm.trans f1; exact f3⟩
theorem r_olen (hexec : p.tables.exec = Jvm.exec) (hb : c.code = cc) (hK : va_K θ.1 vwCl (tyS θ) s) {a n : Nat} {g : Nat → Option Nat} (ha : AO θ H a n g) (d : decode cc pc = .ok (.arraylength, 1))
    (kk : W p l e R s m args below meth c H locs cells slots Q (F0 m (pc + 1) ls (.int (iI n) :: rest))) : W p l e R s m args below meth c H locs cells slots Q (F0 m pc ls (.ref a :: rest)) :=
  W.alen (n := iI n) hexec hb ha ((hK.2 2 _ rfl).1 n (fun j => va_rf (g j))) (by rw [vp_cell_q, arrV_size]; exact (Int32.ofInt_eq_ofNat (n := n)).symm) rfl rfl d kk
theorem r_oald (hexec : p.tables.exec = Jvm.exec) (hb : c.code = cc) (hK : va_K θ.1 vwCl (tyS θ) s) {a n y : Nat} {g : Nat → Option Nat} (ha : AO θ H a n g) {i : Int} (hi : 0 ≤ i ∧ i < (n : Int)) (hn : n < 2147483648) (hy : g i.toNat = some y) (d : decode cc pc = .ok (.aaload, 1))
    (kk : W p l e R s m args below meth c H locs cells slots Q (F0 m (pc + 1) ls (.ref y :: rest))) : W p l e R s m args below meth c H locs cells slots Q (F0 m pc ls (.int (iI i) :: .ref a :: rest)) := by
  have hin := vp_in_I hi hn
  have hlt : (iI i).toNatClampNeg < n := Nat.not_le.mp fun q => hin (Or.inr q)
  have e : (iI i).toNatClampNeg = i.toNat := iI_nn (by omega)
  exact W.aald (v := .ref y) (ty := .object "java/lang/Object") hexec hb ha ((hK.2 2 _ rfl).1 n (fun j => va_rf (g j))) rfl (fun q => by cases q) (by show ¬ (_ ∨ (arrV _ _ _).slots.size ≤ _); rw [arrV_size]; exact hin) (by show (arrV _ _ _).slots[_]? = _; rw [arrV_read _ _ hlt, e, hy]; rfl) rfl rfl d kk
theorem r_oast (hexec : p.tables.exec = Jvm.exec) (hb : c.code = cc) (hK : va_K θ.1 vwCl (tyS θ) s) {a n v : Nat} {g : Nat → Option Nat} (ha : AO θ H a n g) (hr : va_Any "java/lang/Object" s H v) (haA : A a) (hS : va_S A H0 H locs) {i : Int} (hi : 0 ≤ i ∧ i < (n : Int)) (hn : n < 2147483648) (d : decode cc pc = .ok (.aastore, 1))
    (kk : ∀ (H1 : Heap) (locs1 : List Loc), AO θ H1 a n (up g i.toNat (some v)) → H1.size = H.size → (∀ q : Nat, q ≠ a → H1[q]? = H[q]?) → va_S A H0 H1 locs1 → W p l e R s m args below meth c H1 locs1 cells slots Q (F0 m (pc + 1) ls rest)) : W p l e R s m args below meth c H locs cells slots Q (F0 m pc ls (.ref v :: .int (iI i) :: .ref a :: rest)) := by
  have hin := vp_in_I hi hn
  have hlt : (iI i).toNatClampNeg < n := Nat.not_le.mp fun q => hin (Or.inr q)
  have h0 : ¬ iI i < 0 := fun q => hin (Or.inl q)
  have e1 : (iI i).toNatClampNeg = i.toNat := iI_nn (by omega)
  obtain ⟨cellV, g1, g3, ⟨kC, hkC⟩, hasg⟩ := hr
  obtain ⟨kA, comp, k1, k2, k3, -⟩ := (hK.2 2 _ rfl).2
  obtain ⟨kE, hkE, -⟩ := Vm.findClass_spec k3
  refine W.aast hexec hb ha (fun q h => by cases h) (fun h => by cases h) k1 k2 rfl hkE ⟨h0, by show _ < (arrV _ _ _).slots.size; rw [arrV_size]; exact hlt⟩ g1 (fun q h => by rw [h] at g3; cases g3) hkC (hasg _ k3) rfl rfl d fun H1 e z oq => ?_
  refine kk H1 _ ?_ z oq (hS.put z oq haA)
  show H1[a]? = some (vp_cell _ _)
  rw [e]
  rw [vp_cell_q, vp_cell_q, arrV_store, e1]
  congr 1
  refine arrV_ext fun j _ => ?_
  unfold updV up
  by_cases hq : j = i.toNat
  · subst hq
    simp [va_rf]
  · simp [hq]
theorem r_onew (hexec : p.tables.exec = Jvm.exec) (hb : c.code = cc) (hts : ∀ w ∈ wG, w.before args s = true) (hW : S0.WarmedH s.vm) {own : String} {index : Nat} (hown : s.vm.findClass own = some m.cls) (wc : Cond.classLink own index "java/lang/Object" ∈ wG) (hover : va_AO "java/lang/Object" S0) (hK : va_K θ.1 vwCl (tyS θ) s) (hS : va_S A H0 H locs)
    {n : Int} (hn : 0 ≤ n ∧ n ≤ 1000) (hcells : cells + 1 ≤ R.cells) (hslots : slots + n.toNat ≤ R.slots) (d : decode cc pc = .ok (.anewarray index, 3))
    (kk : ∀ (H1 : Heap), AO θ H1 H.size n.toNat (fun _ => none) → H1.size = H.size + 1 → (∀ q : Nat, q < H.size → H1[q]? = H[q]?) → va_S A H0 H1 locs → W p l e R s m args below meth c H1 locs (cells + 1) (slots + n.toNat) Q (F0 m (pc + 3) ls (.ref H.size :: rest))) : W p l e R s m args below meth c H locs cells slots Q (F0 m pc ls (.int (iI n) :: rest)) := by
  have e : (iI n).toNatClampNeg = n.toNat := iI_nn (by omega)
  refine W.anew hexec hb hown (hts _ wc) (va_AO.use (va_AO.moved hW.alike hover)) rfl d rfl (fun q => by have := (iI_lt (b := 0) (by omega) (by decide)).mp q; omega) (by rw [e]; omega) hcells (by rw [e]; exact hslots) fun cA kA comp f1 f2 f3 f4 => ?_
  rw [e]
  generalize hH1 : H.push ({ cls := cA, slots := Array.replicate n.toNat .null, vm := .none } : Cell) = H1
  have z1 : H1.size = H.size + 1 := by rw [← hH1, Array.size_push]
  have e1 : H1[H.size]? = some (arrV cA n.toNat (fun _ => .null)) := by rw [← hH1, Array.getElem?_push_size, ← arrV_new]
  have o1 : ∀ q : Nat, q < H.size → H1[q]? = H[q]? := fun q hq => by rw [← hH1, Array.getElem?_push, if_neg (Nat.ne_of_lt hq)]
  have hc : cA = θ.2.1 2 := by
    obtain ⟨-, -, -, -, -, h4⟩ := (hK.2 2 _ rfl).2
    exact Option.some.inj (f1.symm.trans h4)
  subst hc
  refine kk H1 ?_ z1 o1 ⟨Nat.le_trans hS.1 (by omega), fun x h1 h2 => (o1 x (Nat.lt_of_lt_of_le h1 hS.1)).trans (hS.2.1 x h1 h2), hS.2.2⟩
  show H1[H.size]? = some (vp_cell _ _)
  rw [vp_cell_q]
  exact e1
theorem r_ocopy (hexec : p.tables.exec = Jvm.exec) (hb : c.code = cc) (hml : c.maxLocals = ls.size) (hts : ∀ w ∈ wG, w.before args s = true) {own : String} {index : Nat} (hown : s.vm.findClass own = some m.cls) (wl : Cond.methodLink own index arraycopyName ∈ wG) (wn : Cond.native arraycopyName ∈ wG) (wst : Cond.static arraycopyName ∈ wG) (wi : Cond.initialized "java/lang/System" ∈ wG)
    (hK : va_K θ.1 vwCl (tyS θ) s) {a0 n0 a n1 : Nat} {f g : Nat → Option Nat} (hX : AO θ H a0 n0 f) (hB : AO θ H a n1 g) (haA : A a) (hS : va_S A H0 H locs)
    {n : Int} (h1 : 0 ≤ n) (h4 : n ≤ (n0 : Int)) (h5 : n ≤ (n1 : Int)) (hbig : n0 < 1000000000 ∧ n1 < 1000000000) (hel : ∀ i : Nat, (i : Int) < n → ∀ y : Nat, f i = some y → va_Any "java/lang/Object" s H y)
    (hframes : 1 ≤ R.frames) (hlocals : (rest.map fun v => v.category).sum + (nativeFrameWords "java/lang/System" "arraycopy" 5 + 11) ≤ R.locals) (d : decode cc pc = .ok (.invokestatic index, 3))
    (kk : ∀ (H1 : Heap) (locs1 : List Loc), AO θ H1 a n1 (fun j => if (j : Int) < n then f j else g j) → H1.size = H.size → (∀ q : Nat, q ≠ a → H1[q]? = H[q]?) → va_S A H0 H1 locs1 → W p l e R s m args below meth c H1 locs1 cells slots Q (F0 m (pc + 3) ls rest)) : W p l e R s m args below meth c H locs cells slots Q (F0 m pc ls (.int (iI n) :: .int (iI 0) :: .ref a :: .int (iI 0) :: .ref a0 :: rest)) := by
  have tI : ∀ z : Int, 0 ≤ z → z ≤ 1000000000 → (iI z).toInt = z ∧ (iI z).toNatClampNeg = z.toNat ∧ ¬ iI z < 0 := fun z h1 h2 => ⟨iI_t (by omega), iI_nn (by omega), fun q => by have := (iI_lt (b := 0) (by omega) (by decide)).mp q; omega⟩
  obtain ⟨s1, s2, s3⟩ := tI 0 (by omega) (by omega)
  obtain ⟨k1, k2, k3⟩ := tI n h1 (by omega)
  intro T hT X
  have hc0 : H[a0]? = some (vp_cell (θ.2.1 2) (n0, .inr (.inr (.inr (.inr f))))) := hX
  have hc1 : H[a]? = some (vp_cell (θ.2.1 2) (n1, .inr (.inr (.inr (.inr g))))) := hB
  obtain ⟨-, k0, hk0, cm0, hkk0⟩ := (hK.2 2 _ rfl).1 n0 (fun j => va_rf (f j))
  obtain ⟨-, k9, hk1, cm1, hkk1⟩ := (hK.2 2 _ rfl).1 n1 (fun j => va_rf (g j))
  obtain ⟨vm', X', step⟩ := X.arraycopy hexec hown (hts _ wl) (hts _ wn) (hts _ wst) (hts _ wi) (src := a0) (dst := a) (cs := vp_cell (θ.2.1 2) (n0, .inr (.inr (.inr (.inr f))))) (cd := vp_cell (θ.2.1 2) (n1, .inr (.inr (.inr (.inr g))))) (srcPos := iI 0) (destPos := iI 0) (n := iI n) (by rw [hT]; exact hc0) (by rw [hT]; exact hc1)
    (fun _ h => by cases h) (fun _ h => by cases h) (fun h => by cases h) (fun h => by cases h) hk0 hk1 hkk0 hkk1 rfl s3 s3 k3
    (by rw [s1, k1]; show ¬ _ > ((arrV (θ.2.1 2) n0 (fun j => va_rf (f j))).slots.size : Int); rw [arrV_size]; omega)
    (by rw [s1, k1]; show ¬ _ > ((arrV (θ.2.1 2) n1 (fun j => va_rf (g j))).slots.size : Int); rw [arrV_size]; omega)
    (fun vm₁ hal i hi => by
      rw [k2] at hi
      have e : (vp_cell (θ.2.1 2) (n0, .inr (.inr (.inr (.inr f))))).slots.getD ((iI 0).toNatClampNeg + i) .null = va_rf (f i) := by
        show (arrV (θ.2.1 2) n0 (fun j => va_rf (f j))).slots.getD _ _ = _
        rw [s2, Array.getD_eq_getD_getElem?, arrV_read _ _ (by omega), show Int.toNat 0 + i = i by omega]
        rfl
      rw [e]
      cases hy : f i with
      | none => exact ⟨rfl, trivial⟩
      | some y =>
        obtain ⟨cellV, g1, g2, ⟨kC, hkC⟩, hasg⟩ := hel i (by omega) y hy
        obtain ⟨kA, comp, r1, r2, r3, -⟩ := (hK.2 2 _ rfl).2
        cases hk1.symm.trans r1
        cases hkk1.symm.trans r2
        obtain ⟨kE, hkE, -⟩ := Vm.findClass_spec r3
        obtain ⟨kC', hkC', -⟩ := hal.2.2 _ _ hkC
        obtain ⟨kE', hkE', -⟩ := hal.2.2 _ _ hkE
        refine ⟨rfl, cellV, (show T.heap[y]? = some cellV by rw [hT]; exact g1), (fun q h => by rw [h] at g2; cases g2), ⟨kC', hkC'⟩, ?_, ?_⟩
        · exact ⟨kE', hkE'⟩
        · show vm₁.assignable _ _ = true
          rw [hal.assignable]
          exact hasg _ r3)
    (g := F0 m pc ls (.int (iI n) :: .int (iI 0) :: .ref a :: .int (iI 0) :: .ref a0 :: rest)) rfl (by rw [hml]) (rest := rest) rfl (by rw [hb]; exact d) hframes (by show 2 * 0 + _ + _ ≤ _; omega)
  have e1 : copied (vp_cell (θ.2.1 2) (n0, .inr (.inr (.inr (.inr f))))) (vp_cell (θ.2.1 2) (n1, .inr (.inr (.inr (.inr g))))) (iI 0) (iI 0) (iI n) = vp_cell (θ.2.1 2) (n1, .inr (.inr (.inr (.inr (va_cpy f g (iI 0).toNatClampNeg (iI 0).toNatClampNeg (iI n).toNatClampNeg))))) := by
    rw [vp_cell_q, vp_cell_q, vp_cell_q]
    exact va_copied (fun z => va_rf z) (θ.2.1 2) (θ.2.1 2) f g (by rw [s2, k2]; omega)
  rw [e1] at X' step
  have hl : a < H.size := hB.lt
  have hG : va_cpy f g (iI 0).toNatClampNeg (iI 0).toNatClampNeg (iI n).toNatClampNeg = fun j : Nat => if (j : Int) < n then f j else g j := by
    rw [s2, k2]
    funext j
    by_cases hj : (j : Int) < n
    · rw [if_pos hj, pk_cpy_in (by omega) (by omega), show Int.toNat 0 + (j - Int.toNat 0) = j by omega]
    · rw [if_neg hj, pk_cpy_out (by omega)]
  rw [hG] at X' step
  generalize (fun j : Nat => if (j : Int) < n then f j else g j) = G at X' step kk
  have hheap : ((T.setVm vm').setCell a (vp_cell (θ.2.1 2) (n1, .inr (.inr (.inr (.inr G)))))).heap = H.setIfInBounds a (vp_cell (θ.2.1 2) (n1, .inr (.inr (.inr (.inr G))))) := by rw [← hT]; rfl
  have oq : ∀ q : Nat, q ≠ a → (H.setIfInBounds a (vp_cell (θ.2.1 2) (n1, .inr (.inr (.inr (.inr G))))))[q]? = H[q]? := fun q hq => by simp [Array.getElem?_setIfInBounds, Ne.symm hq]
  obtain ⟨t, a1, b1⟩ := kk _ _ (show (H.setIfInBounds a _)[a]? = some _ by simp [Array.getElem?_setIfInBounds, hl]) (by simp) oq ⟨by simp; exact hS.1, fun q g1 g2 => by
      rw [oq q (fun e => g2 (by rw [e]; exact haA))]
      exact hS.2.1 q g1 g2, fun q hq => by
      rcases List.mem_append.mp hq with h | h
      · exact hS.2.2 q h
      · obtain ⟨z, -, hz⟩ := List.mem_map.mp h
        rw [← hz]
        exact haA⟩ _ hheap X'
  exact ⟨t, step t a1, b1⟩
theorem q_shr1 (hexec : p.tables.exec = Jvm.exec) (hb : c.code = cc) {x : Int} (hx : 0 ≤ x ∧ x < 1000) (d : decode cc pc = .ok (.ishr, 1)) (k : W p l e R s m args below meth c H locs cells slots Q (F0 m (pc + 1) ls (.int (iI (x / 2)) :: rest))) : W p l e R s m args below meth c H locs cells slots Q (F0 m pc ls (.int (iI 1) :: .int (iI x) :: rest)) :=
  lv_ishr hexec hb d (by
    rw [show iI x = nI x.toNat by unfold iI nI; rw [← Int32.ofInt_eq_ofNat]; congr 1; omega, show (iI 1 &&& 31 : Int32) = 1 from rfl, pk_shrN (k := 1) (by omega) 1 (by decide), show nI (x.toNat / 2 ^ 1) = iI (x / 2) by unfold iI nI; rw [← Int32.ofInt_eq_ofNat]; congr 1; omega]
    exact k)
/-- a private field of a nest mate -/
theorem r_getN (hexec : p.tables.exec = Jvm.exec) (hb : c.code = cc) {own ref C host : String} {T : u_T} {N ci index a : Nat} {fs : List Value} (hts : ∀ w ∈ wG, w.before args s = true) (hin : ∀ w ∈ u_ws C T N, w ∈ wG) (hown : s.vm.findClass own = some m.cls) (hK : va_K θ.1 vwCl (tyS θ) s) (ho : OB θ H a ci fs) (hc : vwCl[ci]? = some (C, T, N)) (k : Nat) (hk : k < N) (hlink : (Cond.fieldLinkNest own index ref (T k).2.1 (T k).2.2.1 host).before args s = true) (hsame : ∀ x, s.fieldFound? (T k).1 (T k).2.1 (T k).2.2.1 = some x → s.fieldFound? ref (T k).2.1 (T k).2.2.1 = some x) {v : Value} (hv : fs[k]? = some v) (hdg : decode cc pc = .ok (.getfield index, 3))
    (kk : W p l e R s m args below meth c H locs cells slots Q (F0 m (pc + 3) ls (v :: rest))) : W p l e R s m args below meth c H locs cells slots Q (F0 m pc ls (.ref a :: rest)) :=
  va_getN hexec hb hts hin hown hK (P1 ho) 0 rfl hc k hk hlink hsame hv hdg kk
theorem ao_recv (hK : va_K θ.1 vwCl (tyS θ) s) {a n : Nat} {g : Nat → Option Nat} (h : AO θ H a n g) : ∃ cell : Cell, H[a]? = some cell ∧ cell.vm.isStatics = false ∧ s.vm.findClass "[Ljava/lang/Object;" = some cell.cls := ⟨_, h, rfl, va_nmO (hK.2 2 _ rfl).2 (by decide)⟩
theorem r_cache (hexec : p.tables.exec = Jvm.exec) (hb : c.code = cc) (hWm : S0.WarmedH s.vm) (hT : va_T (.object "java/lang/Integer") (θ.2.2.1 22) 256 (fun k => .ref (θ.2.2.1 (100 + k))) (AJ θ) S0 s.heap) (hA : ∀ q, A q → θ.2.2.2 ≤ q) (hS : va_S A s.heap H locs) {v : Int} (hv : -128 ≤ v ∧ v ≤ 127) (d : decode cc pc = .ok (.aaload, 1))
    (kk : W p l e R s m args below meth c H locs cells slots Q (F0 m (pc + 1) ls (.ref (bx θ v) :: rest))) : W p l e R s m args below meth c H locs cells slots Q (F0 m pc ls (.int (iI (v + 128)) :: .ref (θ.2.2.1 22) :: rest)) :=
  vb_tq hexec hb ((va_T.moved hWm.alike hT).narrow hA) hS (vp_in_I (by omega) (by decide)) (v := .ref (bx θ v)) (by rw [iI_nn (by omega)]; rfl) d kk
/-- a static call that answers an object of which something is said -/
theorem c_SE {own : String} {idx n nL F L na : Nat} {y : MethodName} {cy : ByteArray} {rt : Option FieldType} {As : List Value} {P : Nat → Heap → Prop} {lv : List (Nat × Value)} (fx : FX p m c cc nL s args own S0) (hl : lv_has ls nL lv) (hM : CT l y cy n rt F L mc ms As S0 H (fun v H1 => ∃ x : Nat, v = some (.ref x) ∧ P x H1) (fun _ _ => False) A1) (d : decode cc pc = .ok (.invokestatic idx, 3)) (w1 : Cond.methodLink own idx y ∈ wG) (w2 : Cond.static y ∈ wG) (w3 : Cond.initialized y.cls ∈ wG) (w4 : Cond.code y cy n rt ∈ wG) (hd : y.cls ≠ "java/lang/invoke/MethodHandle" ∧ y.cls ≠ "java/lang/invoke/VarHandle" ∧ (parseMethodDescriptor y.desc).map (fun d => d.parameters.length) = some na) (hn : As.length = na)
    (hR : F + 1 ≤ R.frames ∧ 8 + (n + 11) + L ≤ R.locals) (hW : (rest.map fun v => v.category).sum ≤ 8) (hcs : cells + mc ≤ R.cells ∧ slots + ms ≤ R.slots) (hS : va_S A0 H0 H locs) (hf : ∀ q, A1 q → A0 q)
    (kk : ∀ (x : Nat) (H1 : Heap) (locs1 : List Loc), P x H1 → H.size ≤ H1.size → (∀ q : Nat, q < H.size → ¬ A1 q → H1[q]? = H[q]?) → va_S A0 H0 H1 locs1 → W p l e R s m args below meth c H1 locs1 (cells + mc) (slots + ms) Q (F0 m (pc + 3) ls (.ref x :: rest))) : W p l e R s m args below meth c H locs cells slots Q (F0 m pc ls (As.reverse ++ rest)) :=
  c_S (As := As) (rest := rest) fx hl hM d w1 w2 w3 w4 hd hn hR hW hcs hS hf (fun _ _ _ _ _ h => h.elim) (fun v H1 locs1 hv hz hk hS1 => by obtain ⟨x, rfl, hp⟩ := hv; exact kk x H1 locs1 hp hz hk hS1)
/-- an object's own method, the same -/
theorem c_ME {own C : String} {idx n nL F L b na : Nat} {y : MethodName} {cy : ByteArray} {rt : Option FieldType} {As : List Value} {P : Nat → Heap → Prop} {lv : List (Nat × Value)} (fx : FX p m c cc nL s args own S0) (hl : lv_has ls nL lv) (hM : CT l y cy n rt F L mc ms (.ref b :: As) S0 H (fun v H1 => ∃ x : Nat, v = some (.ref x) ∧ P x H1) (fun _ _ => False) A1) (hrec : ∃ cellB : Cell, H[b]? = some cellB ∧ cellB.vm.isStatics = false ∧ s.vm.findClass C = some cellB.cls) (d : decode cc pc = .ok (.invokevirtual idx, 3)) (w1 : Cond.methodLink own idx y ∈ wG) (w2 : Cond.instanceMethod y ∈ wG) (w5 : Cond.selects C y y ∈ wG) (w3 : Cond.initialized y.cls ∈ wG) (w4 : Cond.code y cy n rt ∈ wG) (hd : y.cls ≠ "java/lang/invoke/MethodHandle" ∧ y.cls ≠ "java/lang/invoke/VarHandle" ∧ (parseMethodDescriptor y.desc).map (fun d => d.parameters.length) = some na) (hn : As.length = na)
    (hR : F + 1 ≤ R.frames ∧ 8 + (n + 11) + L ≤ R.locals) (hW : (rest.map fun v => v.category).sum ≤ 8) (hcs : cells + mc ≤ R.cells ∧ slots + ms ≤ R.slots) (hS : va_S A0 H0 H locs) (hf : ∀ q, A1 q → A0 q)
    (kk : ∀ (x : Nat) (H1 : Heap) (locs1 : List Loc), P x H1 → H.size ≤ H1.size → (∀ q : Nat, q < H.size → ¬ A1 q → H1[q]? = H[q]?) → va_S A0 H0 H1 locs1 → W p l e R s m args below meth c H1 locs1 (cells + mc) (slots + ms) Q (F0 m (pc + 3) ls (.ref x :: rest))) : W p l e R s m args below meth c H locs cells slots Q (F0 m pc ls (As.reverse ++ .ref b :: rest)) :=
  c_V (As := As) (rest := rest) fx hl hM hrec d w1 w2 w5 w3 w4 hd hn hR hW hcs hS hf (fun _ _ _ _ _ h => h.elim) (fun v H1 locs1 hv hz hk hS1 => by obtain ⟨x, rfl, hp⟩ := hv; exact kk x H1 locs1 hp hz hk hS1)
end LR
/-- an empty list -/
theorem li0 {θ : TH} {H : Heap} {L : Nat} (h : OB θ H L 6 [.int (iI 0), .ref (θ.2.2.1 23), .int (iI 0)]) (el : Nat → Int) : LI θ H L (θ.2.2.1 23) 0 0 el := ⟨fun _ => none, h, fun _ => rfl, fun q => by omega, by omega, by omega, fun j hj => by omega⟩
theorem LI.ext {θ : TH} {H : Heap} {L d cap k : Nat} {el el' : Nat → Int} (h : LI θ H L d cap k el) (e : ∀ j, j < k → el j = el' j) : LI θ H L d cap k el' := by
  obtain ⟨g, h1, h2, h3, h4, h5, h6⟩ := h
  exact ⟨g, h1, h2, h3, h4, h5, fun j hj => by rw [← e j hj]; exact h6 j hj⟩
