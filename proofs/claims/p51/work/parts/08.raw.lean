/-! the heap, cell by cell. θ: the classes' numbers, the array classes', the addresses of what statics hold, the first address of what this run makes -/
abbrev TH : Type := va_G × (Nat → ClassId) × (Nat → Nat) × Nat
abbrev tyS (θ : TH) : List (ClassId × FieldType) := [(θ.2.1 0, .int), (θ.2.1 1, .byte), (θ.2.1 2, .object "java/lang/Object"), (θ.2.1 3, .array .int)]
/-- the int array at a: n places with g -/
def AI (θ : TH) (H : Heap) (a n : Nat) (g : Nat → Int) : Prop := H[a]? = some (vp_cell (θ.2.1 0) (n, .inl fun j => iI (g j)))
/-- the array of references at a -/
def AR (θ : TH) (H : Heap) (a n : Nat) (r : Nat → Nat) : Prop := H[a]? = some (vp_cell (θ.2.1 3) (n, .inr (.inr (.inr (.inr fun j => some (r j))))))
/-- an object of vwCl's class ci at a, its fields -/
def OB (θ : TH) (H : Heap) (a ci : Nat) (fs : List Value) : Prop := va_at θ.1 vwCl (a, .inr (ci, fs)) H
theorem arrV_ext {c : ClassId} {n : Nat} {f g : Nat → Value} (h : ∀ j, j < n → f j = g j) : arrV c n f = arrV c n g := by
  unfold arrV
  congr 1
  apply Array.ext
  · simp
  · intro i h1 h2
    simp at h1
    simp [h i h1]
theorem AI.ext {θ : TH} {H : Heap} {a n : Nat} {g g' : Nat → Int} (h : AI θ H a n g) (e : ∀ j, j < n → g j = g' j) : AI θ H a n g' := by
  unfold AI at h ⊢
  rw [h, vp_cell_i, vp_cell_i]
  exact congrArg some (arrV_ext fun j hj => by rw [e j hj])
theorem AI.kept {θ : TH} {H H1 : Heap} {a n : Nat} {g : Nat → Int} (h : AI θ H a n g) (hq : H1[a]? = H[a]?) : AI θ H1 a n g := hq.trans h
theorem AR.kept {θ : TH} {H H1 : Heap} {a n : Nat} {g : Nat → Nat} (h : AR θ H a n g) (hq : H1[a]? = H[a]?) : AR θ H1 a n g := hq.trans h
theorem OB.kept {θ : TH} {H H1 : Heap} {a ci : Nat} {fs : List Value} (h : OB θ H a ci fs) (hq : H1[a]? = H[a]?) : OB θ H1 a ci fs := va_at.kept h hq
theorem AI.lt {θ : TH} {H : Heap} {a n : Nat} {g : Nat → Int} (h : AI θ H a n g) : a < H.size := (Array.getElem?_eq_some_iff.mp h).1
theorem AR.lt {θ : TH} {H : Heap} {a n : Nat} {g : Nat → Nat} (h : AR θ H a n g) : a < H.size := (Array.getElem?_eq_some_iff.mp h).1
theorem OB.lt {θ : TH} {H : Heap} {a ci : Nat} {fs : List Value} (h : OB θ H a ci fs) : a < H.size := va_at.lt h
def up {α : Type} (g : Nat → α) (k : Nat) (x : α) : Nat → α := fun j => if j = k then x else g j
theorem up_s {α : Type} (g : Nat → α) (k : Nat) (x : α) : up g k x k = x := if_pos rfl
theorem up_n {α : Type} (g : Nat → α) {k j : Nat} (x : α) (h : ¬ j = k) : up g k x j = g j := if_neg h
/-- the tables' say of the statics: what they hold, and that nothing of it lies at B or behind -/
def LENv (j : Nat) : Int := if j = 1 then 28 else if j = 3 ∨ j = 5 ∨ j = 8 ∨ j = 10 then 30 else 31
def MOSTv (j : Nat) : Int := if j = 0 then 20000 else if j = 1 then 240000 else 100000
/-- words of the tables that don't keep by themselves: of casts and declarations -/
def nWord : Cond → Bool
  | .castable _ _ => true
  | .declares _ => true
  | _ => false
def wN : List Cond := lw_tbl.filter nWord
def SV (θ : TH) (S0 : State) : Prop :=
  va_Nw (.arrayOver (.array .int)) S0 ∧ (∀ w ∈ wN, va_Nw w S0) ∧
  vk_R RX1 264 "no such PLACE" (θ.2.2.1 10) S0 ∧ vk_R RX1 269 "no such SPAN" (θ.2.2.1 11) S0 ∧ vk_R RX1 273 "an argument is out of its range" (θ.2.2.1 12) S0 ∧ vk_R RX1 281 "the month has not so many days" (θ.2.2.1 13) S0 ∧
  vk_R RX1 284 "it would be no DATE" (θ.2.2.1 14) S0 ∧ vk_R RX1 286 "the other DATE is ahead of the first one" (θ.2.2.1 15) S0 ∧ vk_R RX1 288 "a number of the SPAN would be out of its range" (θ.2.2.1 16) S0
def SZ (θ : TH) (S0 : State) (H : Heap) : Prop :=
  va_K θ.1 vwCl (tyS θ) S0 ∧ θ.2.2.2 ≤ H.size ∧
  (va_Z "CalendaractModel" "LENGTHS" "[I" (.ref (θ.2.2.1 0)) (fun q => θ.2.2.2 ≤ q) S0 H ∧ va_T .int (θ.2.2.1 0) 12 (fun j => .int (iI (LENv j))) (fun q => θ.2.2.2 ≤ q) S0 H ∧ θ.2.2.1 0 < θ.2.2.2) ∧
  (va_Z "CalendaractModel" "MOST" "[I" (.ref (θ.2.2.1 1)) (fun q => θ.2.2.2 ≤ q) S0 H ∧ va_T .int (θ.2.2.1 1) 3 (fun j => .int (iI (MOSTv j))) (fun q => θ.2.2.2 ≤ q) S0 H ∧ θ.2.2.1 1 < θ.2.2.2) ∧
  vx_Zq Bundle.tN "UNASSIGNED_STACK" Bundle.steD (fun q => θ.2.2.2 ≤ q) S0 H ∧ vx_Zq Bundle.tN "SUPPRESSED_SENTINEL" Bundle.listD (fun q => θ.2.2.2 ≤ q) S0 H ∧
  va_Z "java/lang/String" "COMPACT_STRINGS" "Z" (.int 1) (fun q => θ.2.2.2 ≤ q) S0 H ∧ SV θ S0
theorem SZ.kept {θ : TH} {S0 : State} {H H1 : Heap} (h : SZ θ S0 H) (hz : θ.2.2.2 ≤ H1.size) (hq : ∀ q : Nat, q < θ.2.2.2 → H1[q]? = H[q]?) : SZ θ S0 H1 := by
  obtain ⟨h1, h2, ⟨a1, a2, a3⟩, ⟨b1, b2, b3⟩, c1, c2, c3, c4⟩ := h
  have hk : ∀ a : Nat, a < H.size → ¬ θ.2.2.2 ≤ a → H1[a]? = H[a]? := fun a _ h => hq a (Nat.lt_of_not_le h)
  exact ⟨h1, hz, ⟨a1.kept hk, a2.kept hk, a3⟩, ⟨b1.kept hk, b2.kept hk, b3⟩, c1.kept hk, c2.kept hk, c3.kept hk, c4⟩
theorem SZ.at {θ : TH} {S0 : State} {H0 H : Heap} {A : Nat → Prop} {locs : List Loc} (h : SZ θ S0 H0) (hA : ∀ q, A q → θ.2.2.2 ≤ q) (hS : va_S A H0 H locs) : SZ θ S0 H :=
  h.kept (Nat.le_trans h.2.1 hS.1) (fun q hq => hS.2.1 q (Nat.lt_of_lt_of_le hq h.2.1) (fun z => absurd (hA q z) (Nat.not_le.mpr hq)))
/-- a method that reads statics and rows, and writes nothing -/
abbrev PZ (θ : TH) (l : Launch) (y : MethodName) (cy : ByteArray) (n : Nat) (ret : Option FieldType) (F L : Nat) (As : List Value) (r : Value) : Prop := ∀ (S0 : State) (H : Heap), SZ θ S0 H → CT l y cy n ret F L 0 0 As S0 H (fun v H1 => v = some r ∧ H1 = H) (fun _ _ => False) (fun _ => False)
section RW
variable {p : Program} {l : Launch} {e : Env} {R : Room} {s : State} {m : MethodId} {args : Array Value} {below : List Frame} {meth : Method} {c : Code} {H : Heap} {locs : List Loc} {cells slots : Nat} {Q : State → Prop} {cc : ByteArray} {pc : Nat} {ls : Array Slot} {rest : List Value} {θ : TH} {A : Nat → Prop} {H0 : Heap} {S0 : State}
/-- a call of a method that only reads, at a heap given -/
theorem c_H {own : String} {idx n nL F L na : Nat} {y : MethodName} {cy : ByteArray} {rt : Option FieldType} {As : List Value} {r : Value} {lv : List (Nat × Value)} (fx : FX p m c cc nL s args own S0) (hl : lv_has ls nL lv) (hM : CT l y cy n rt F L 0 0 As S0 H (fun v H1 => v = some r ∧ H1 = H) (fun _ _ => False) (fun _ => False)) (d : decode cc pc = .ok (.invokestatic idx, 3)) (w1 : Cond.methodLink own idx y ∈ wG) (w2 : Cond.static y ∈ wG) (w3 : Cond.initialized y.cls ∈ wG) (w4 : Cond.code y cy n rt ∈ wG) (hd : y.cls ≠ "java/lang/invoke/MethodHandle" ∧ y.cls ≠ "java/lang/invoke/VarHandle" ∧ (parseMethodDescriptor y.desc).map (fun d => d.parameters.length) = some na) (hn : As.length = na)
    (hR : F + 1 ≤ R.frames ∧ 8 + (n + 11) + L ≤ R.locals) (hW : (rest.map fun v => v.category).sum ≤ 8) (hcs : cells ≤ R.cells ∧ slots ≤ R.slots)
    (kk : W p l e R s m args below meth c H locs cells slots Q (F0 m (pc + 3) ls (r :: rest))) : W p l e R s m args below meth c H locs cells slots Q (F0 m pc ls (As.reverse ++ rest)) := by
  intro T hT X
  obtain ⟨f1, f2⟩ := id fx
  have fx' : FX p m c cc c.maxLocals s args own S0 := by rw [f1.2.2.1]; exact fx
  rcases vx_runS (As := As) (rest := rest) (g := F0 m pc ls (As.reverse ++ rest)) f1 hM ⟨cb_of fx' w1 w3 w4 hd hR, f1.2.2.2.2 _ w2⟩ ⟨ph_blind, fun U hU hW => ⟨rfl, hU, f2.trans hW⟩⟩ rfl hn hl.1 rfl (lv_room hW) d hcs T hT X with ⟨v, st₀, t, T', L, h0, X', hL, e1, e2, ⟨⟨v', hv, rfl, hh⟩, hF⟩, st⟩ | ⟨q, st₀, t, T', L, E, ce, h0, X', hL, e1, e2, ⟨hp, hF⟩, hce, hcv, hcl, st⟩
  · cases hv
    have hL0 : L = [] := by
      cases L with
      | nil => rfl
      | cons z t => exact (hL z List.mem_cons_self).elim
    subst hL0
    rw [List.append_nil] at X'
    obtain ⟨t2, a1, b1⟩ := kk T' (e1.trans hh) X'
    exact ⟨t2, st t2 a1, b1⟩
  · exact hp.elim
/-- the same, of an object's own method -/
theorem c_HV {own C : String} {idx n nL F L b na : Nat} {y : MethodName} {cy : ByteArray} {rt : Option FieldType} {As : List Value} {r : Value} {lv : List (Nat × Value)} (fx : FX p m c cc nL s args own S0) (hl : lv_has ls nL lv) (hM : CT l y cy n rt F L 0 0 (.ref b :: As) S0 H (fun v H1 => v = some r ∧ H1 = H) (fun _ _ => False) (fun _ => False)) (hrec : ∃ cellB : Cell, H[b]? = some cellB ∧ cellB.vm.isStatics = false ∧ s.vm.findClass C = some cellB.cls) (d : decode cc pc = .ok (.invokevirtual idx, 3)) (w1 : Cond.methodLink own idx y ∈ wG) (w2 : Cond.instanceMethod y ∈ wG) (w5 : Cond.selects C y y ∈ wG) (w3 : Cond.initialized y.cls ∈ wG) (w4 : Cond.code y cy n rt ∈ wG) (hd : y.cls ≠ "java/lang/invoke/MethodHandle" ∧ y.cls ≠ "java/lang/invoke/VarHandle" ∧ (parseMethodDescriptor y.desc).map (fun d => d.parameters.length) = some na) (hn : As.length = na)
    (hR : F + 1 ≤ R.frames ∧ 8 + (n + 11) + L ≤ R.locals) (hW : (rest.map fun v => v.category).sum ≤ 8) (hcs : cells ≤ R.cells ∧ slots ≤ R.slots)
    (kk : W p l e R s m args below meth c H locs cells slots Q (F0 m (pc + 3) ls (r :: rest))) : W p l e R s m args below meth c H locs cells slots Q (F0 m pc ls (As.reverse ++ .ref b :: rest)) := by
  intro T hT X
  obtain ⟨f1, f2⟩ := id fx
  have fx' : FX p m c cc c.maxLocals s args own S0 := by rw [f1.2.2.1]; exact fx
  rcases vx_runV (As := As) (rest := rest) (g := F0 m pc ls (As.reverse ++ .ref b :: rest)) f1 hM ⟨cb_of fx' w1 w3 w4 hd hR, f1.2.2.2.2 _ w2, f1.2.2.2.2 _ w5⟩ ⟨ph_blind, hrec, fun U hU hW => ⟨rfl, hU, f2.trans hW⟩⟩ rfl hn hl.1 rfl (lv_room hW) d hcs T hT X with ⟨v, st₀, t, T', L, h0, X', hL, e1, e2, ⟨⟨v', hv, rfl, hh⟩, hF⟩, st⟩ | ⟨q, st₀, t, T', L, E, ce, h0, X', hL, e1, e2, ⟨hp, hF⟩, hce, hcv, hcl, st⟩
  · cases hv
    have hL0 : L = [] := by
      cases L with
      | nil => rfl
      | cons z t => exact (hL z List.mem_cons_self).elim
    subst hL0
    rw [List.append_nil] at X'
    obtain ⟨t2, a1, b1⟩ := kk T' (e1.trans hh) X'
    exact ⟨t2, st t2 a1, b1⟩
  · exact hp.elim
theorem nw_at {s S0 : State} {args : Array Value} (hW : S0.WarmedH s.vm) (h : ∀ w ∈ wN, va_Nw w S0) {w : Cond} (hw : w ∈ wN) : w.before args s = true := by
  have h1 := h w hw
  have h2 := (List.mem_filter.mp hw).2
  cases w <;> first | exact (va_Nw.warmC hW h1).use rfl | exact (va_Nw.warmD hW h1).use rfl | cases h2
theorem sz_K (fx : S0.WarmedH s.vm) (hz : SZ θ S0 H) : va_K θ.1 vwCl (tyS θ) s := va_K.moved fx.alike hz.1
/-- a static row of ints: LENGTHS, MOST -/
theorem r_gets (hexec : p.tables.exec = Jvm.exec) (hb : c.code = cc) (hW : S0.WarmedH s.vm) {C n d own : String} {v : Value} {index : Nat} (hZ : va_Z C n d v (fun q => θ.2.2.2 ≤ q) S0 s.heap) (hA : ∀ q, A q → θ.2.2.2 ≤ q) (hS : va_S A s.heap H locs) (hown : s.vm.findClass own = some m.cls) (hlink : (Cond.fieldLink own index C n d).before args s = true) (hdg : decode cc pc = .ok (.getstatic index, 3))
    (kk : W p l e R s m args below meth c H locs cells slots Q (F0 m (pc + 3) ls (v :: rest))) : W p l e R s m args below meth c H locs cells slots Q (F0 m pc ls rest) :=
  va_gets hexec hb ((va_Z.moved hW.alike hZ).narrow hA) hS hown hlink (fun _ h => h) hdg kk
/-- int arrays: length, load, store, new -/
theorem r_alen (hexec : p.tables.exec = Jvm.exec) (hb : c.code = cc) (hK : va_K θ.1 vwCl (tyS θ) s) {a n : Nat} {g : Nat → Int} (ha : AI θ H a n g) (d : decode cc pc = .ok (.arraylength, 1))
    (kk : W p l e R s m args below meth c H locs cells slots Q (F0 m (pc + 1) ls (.int (iI n) :: rest))) : W p l e R s m args below meth c H locs cells slots Q (F0 m pc ls (.ref a :: rest)) :=
  W.alen (n := iI n) hexec hb ha ((hK.2 0 _ rfl).1 n (fun j => .int (iI (g j)))) (by rw [vp_cell_i, arrV_size]; exact (Int32.ofInt_eq_ofNat (n := n)).symm) rfl rfl d kk
theorem r_iald (hexec : p.tables.exec = Jvm.exec) (hb : c.code = cc) (hK : va_K θ.1 vwCl (tyS θ) s) {a n : Nat} {g : Nat → Int} (ha : AI θ H a n g) {i : Int} (hi : 0 ≤ i ∧ i < (n : Int)) (hn : n < 2147483648) (d : decode cc pc = .ok (.iaload, 1))
    (kk : W p l e R s m args below meth c H locs cells slots Q (F0 m (pc + 1) ls (.int (iI (g i.toNat)) :: rest))) : W p l e R s m args below meth c H locs cells slots Q (F0 m pc ls (.int (iI i) :: .ref a :: rest)) := by
  have hin := vp_in_I hi hn
  have hlt : (iI i).toNatClampNeg < n := Nat.not_le.mp fun q => hin (Or.inr q)
  have e : (iI i).toNatClampNeg = i.toNat := iI_nn (by omega)
  exact W.iald (v := .int (iI (g i.toNat))) hexec hb ha ((hK.2 0 _ rfl).1 n (fun j => .int (iI (g j)))) (fun q => by cases q) (by show ¬ (_ ∨ (arrV _ _ _).slots.size ≤ _); rw [arrV_size]; exact hin) (by show (arrV _ _ _).slots[_]? = _; rw [arrV_read _ _ hlt, e]) rfl rfl d kk
/-- a row of the constants -/
theorem r_ildz (hexec : p.tables.exec = Jvm.exec) (hb : c.code = cc) (hW : S0.WarmedH s.vm) {a n : Nat} {g : Nat → Int} {A9 : Nat → Prop} (ha : va_T .int a n (fun j => .int (iI (g j))) A9 S0 H) {i : Int} (hi : 0 ≤ i ∧ i < (n : Int)) (hn : n < 2147483648) (d : decode cc pc = .ok (.iaload, 1))
    (kk : W p l e R s m args below meth c H locs cells slots Q (F0 m (pc + 1) ls (.int (iI (g i.toNat)) :: rest))) : W p l e R s m args below meth c H locs cells slots Q (F0 m pc ls (.int (iI i) :: .ref a :: rest)) := by
  have hin := vp_in_I hi hn
  have hlt : (iI i).toNatClampNeg < n := Nat.not_le.mp fun q => hin (Or.inr q)
  have e : (iI i).toNatClampNeg = i.toNat := iI_nn (by omega)
  obtain ⟨cell, h1, h2, h3, h4, h5, h6, h7⟩ := va_T.moved hW.alike ha
  exact W.iald (v := .int (iI (g i.toNat))) hexec hb h1 h2 h3 (fun q => hin (q.imp id (fun z => Nat.le_trans h4 z))) (by rw [h6 _ hlt, e]) rfl rfl d kk
theorem r_iast (hexec : p.tables.exec = Jvm.exec) (hb : c.code = cc) (hK : va_K θ.1 vwCl (tyS θ) s) {a n : Nat} {g : Nat → Int} (ha : AI θ H a n g) (haA : A a) (hS : va_S A H0 H locs) {i x : Int} (hi : 0 ≤ i ∧ i < (n : Int)) (hn : n < 2147483648) (d : decode cc pc = .ok (.iastore, 1))
    (kk : ∀ (H1 : Heap) (locs1 : List Loc), AI θ H1 a n (up g i.toNat x) → H1.size = H.size → (∀ q : Nat, q ≠ a → H1[q]? = H[q]?) → va_S A H0 H1 locs1 → W p l e R s m args below meth c H1 locs1 cells slots Q (F0 m (pc + 1) ls rest)) : W p l e R s m args below meth c H locs cells slots Q (F0 m pc ls (.int (iI x) :: .int (iI i) :: .ref a :: rest)) := by
  have hin := vp_in_I hi hn
  have e : (iI i).toNatClampNeg = i.toNat := iI_nn (by omega)
  refine W.iast hexec hb ha ((hK.2 0 _ rfl).1 n (fun j => .int (iI (g j)))) (fun q => by cases q) (by show ¬ (_ ∨ (arrV _ _ _).slots.size ≤ _); rw [arrV_size]; exact hin) rfl rfl d fun H1 e1 z oq => ?_
  refine kk H1 _ ?_ z oq (hS.put z oq haA)
  show H1[a]? = some (vp_cell _ _)
  rw [e1, vp_cell_i, vp_cell_i, arrV_store, e]
  congr 1
  refine arrV_ext fun j _ => ?_
  unfold updV up
  split <;> rfl
theorem r_newI (hexec : p.tables.exec = Jvm.exec) (hb : c.code = cc) (hts : ∀ w ∈ wG, w.before args s = true) (hK : va_K θ.1 vwCl (tyS θ) s) (w : Cond.arrayClass .int ∈ wG) (hS : va_S A H0 H locs) {n : Int} (hn : 0 ≤ n ∧ n ≤ 1000) (hcells : cells + 1 ≤ R.cells) (hslots : slots + n.toNat ≤ R.slots) (d : decode cc pc = .ok (.newarray .int, 2))
    (kk : ∀ (H1 : Heap), AI θ H1 H.size n.toNat (fun _ => 0) → H1.size = H.size + 1 → (∀ q : Nat, q < H.size → H1[q]? = H[q]?) → va_S A H0 H1 locs → W p l e R s m args below meth c H1 locs (cells + 1) (slots + n.toNat) Q (F0 m (pc + 2) ls (.ref H.size :: rest))) : W p l e R s m args below meth c H locs cells slots Q (F0 m pc ls (.int (iI n) :: rest)) := by
  have e : (iI n).toNatClampNeg = n.toNat := iI_nn (by omega)
  refine va_newaK (atype := .int) (N := n.toNat) hexec hb (hts _ w) rfl d rfl (fun q => by have := (iI_lt (b := 0) (by omega) (by decide)).mp q; omega) e (by show n.toNat * 4 ≤ 536870912; omega) hcells hslots rfl fun H1 cA e1 z1 o1 hAr hNm => ?_
  have hc : cA = θ.2.1 0 := by
    have h2 : s.vm.findClass ("[" ++ (FieldType.int).toString) = some (θ.2.1 0) := (hK.2 0 _ rfl).2
    exact Option.some.inj (hNm.symm.trans h2)
  subst hc
  refine kk H1 ?_ z1 o1 ⟨Nat.le_trans hS.1 (by omega), fun x h1 h2 => (o1 x (Nat.lt_of_lt_of_le h1 hS.1)).trans (hS.2.1 x h1 h2), hS.2.2⟩
  exact e1
/-- arrays of rows -/
theorem r_aald (hexec : p.tables.exec = Jvm.exec) (hb : c.code = cc) (hK : va_K θ.1 vwCl (tyS θ) s) {a n : Nat} {r : Nat → Nat} (ha : AR θ H a n r) {i : Int} (hi : 0 ≤ i ∧ i < (n : Int)) (hn : n < 2147483648) (d : decode cc pc = .ok (.aaload, 1))
    (kk : W p l e R s m args below meth c H locs cells slots Q (F0 m (pc + 1) ls (.ref (r i.toNat) :: rest))) : W p l e R s m args below meth c H locs cells slots Q (F0 m pc ls (.int (iI i) :: .ref a :: rest)) := by
  have hin := vp_in_I hi hn
  have hlt : (iI i).toNatClampNeg < n := Nat.not_le.mp fun q => hin (Or.inr q)
  have e : (iI i).toNatClampNeg = i.toNat := iI_nn (by omega)
  exact W.aald (v := .ref (r i.toNat)) (ty := .array .int) hexec hb ha ((hK.2 3 _ rfl).1 n (fun j => va_rf (some (r j)))) rfl (fun q => by cases q) (by show ¬ (_ ∨ (arrV _ _ _).slots.size ≤ _); rw [arrV_size]; exact hin) (by show (arrV _ _ _).slots[_]? = _; rw [arrV_read _ _ hlt, e]; rfl) rfl rfl d kk
theorem P1 {D : va_G} {cl : List vw_C} {H : Heap} {x : Nat × va_E} (h : va_at D cl x H) : va_P D cl [x] H := fun k q hk => by
  match k, hk with
  | 0, hk => cases hk; exact h
  | k + 1, hk => simp at hk
theorem r_get (hexec : p.tables.exec = Jvm.exec) (hb : c.code = cc) {own ref C : String} {T : u_T} {N ci index a : Nat} {fs : List Value} (hts : ∀ w ∈ wG, w.before args s = true) (hin : ∀ w ∈ u_ws C T N, w ∈ wG) (hown : s.vm.findClass own = some m.cls) (hK : va_K θ.1 vwCl (tyS θ) s) (ho : OB θ H a ci fs) (hc : vwCl[ci]? = some (C, T, N)) (k : Nat) (hk : k < N) (hlink : Cond.fieldLink own index ref (T k).2.1 (T k).2.2.1 ∈ wG) (hsame : ∀ x, s.fieldFound? (T k).1 (T k).2.1 (T k).2.2.1 = some x → s.fieldFound? ref (T k).2.1 (T k).2.2.1 = some x) {v : Value} (hv : fs[k]? = some v) (hdg : decode cc pc = .ok (.getfield index, 3))
    (kk : W p l e R s m args below meth c H locs cells slots Q (F0 m (pc + 3) ls (v :: rest))) : W p l e R s m args below meth c H locs cells slots Q (F0 m pc ls (.ref a :: rest)) :=
  va_get hexec hb hts hin hown hK (P1 ho) 0 rfl hc k hk (hts _ hlink) hsame hv hdg kk
theorem r_put (hexec : p.tables.exec = Jvm.exec) (hb : c.code = cc) {own ref C : String} {T : u_T} {N ci index a : Nat} {fs : List Value} (hts : ∀ w ∈ wG, w.before args s = true) (hin : ∀ w ∈ u_ws C T N, w ∈ wG) (ty0 : Nat → FieldType) (hty : ∀ k, k < N → parseFieldDescriptor (T k).2.2.1 = some (ty0 k)) (hnm : ∀ a, a < N → ∀ b, b < N → a ≠ b → (T a).2.1 ≠ (T b).2.1) (hown : s.vm.findClass own = some m.cls) (hK : va_K θ.1 vwCl (tyS θ) s) (ho : OB θ H a ci fs) (haA : A a) (hS0 : va_S A H0 H locs) (hc : vwCl[ci]? = some (C, T, N)) (k : Nat) (hk : k < N) (hlink : Cond.fieldLink own index ref (T k).2.1 (T k).2.2.1 ∈ wG) (hsame : ∀ x, s.fieldFound? (T k).1 (T k).2.1 (T k).2.2.1 = some x → s.fieldFound? ref (T k).2.1 (T k).2.2.1 = some x) (hfin : (T k).2.2.2 = false) {ty : FieldType} {v : Value} (hd : parseFieldDescriptor (T k).2.2.1 = some ty) (hn : narrow ty v = v) (hfit : fits ty v = true) (hl : k < fs.length)
    (hdg : decode cc pc = .ok (.putfield index, 3)) (kk : ∀ (H1 : Heap) (locs1 : List Loc), OB θ H1 a ci (fs.set k v) → H1.size = H.size → (∀ q : Nat, q ≠ a → H1[q]? = H[q]?) → va_S A H0 H1 locs1 → W p l e R s m args below meth c H1 locs1 cells slots Q (F0 m (pc + 3) ls rest)) : W p l e R s m args below meth c H locs cells slots Q (F0 m pc ls (v :: .ref a :: rest)) := by
  have hap := va_apart (own := own) hts hin ty0 hty hnm hK hc
  obtain ⟨r, h1, cell, q1, q2, q3, q4⟩ := ho
  have hr : r = (C, T, N) := Option.some.inj (h1.symm.trans hc)
  subst hr
  obtain ⟨hS, hfc, kC, hkC, hkind⟩ := hK.1 ci _ hc
  obtain ⟨cf, kf, fi, f, hi, hsl⟩ := hS k hk
  have hlay := hts _ (hin _ (u_in_lay hk))
  unfold u_lay at hlay
  rw [if_neg (by rw [hfin]; decide)] at hlay
  have hst := (u_facts hfc hkC (u_lays hts hin hk) hi).1
  have h6 := u_store hfc hkC hkind hlay hi hd hn hfit
  refine W.putK hexec hb (f := f) ⟨hown, hts _ hlink, ⟨_, _, _, hsame _ hi⟩, hst⟩ (by rw [q2]; exact h6) q1 q3 (by rw [hsl]; exact k2_hasslot (q4 k hk)) rfl rfl hdg fun H' e1 e2 e3 => ?_
  rw [hsl] at e1 ⊢
  exact kk H' _ ⟨_, hc, t_OB.to (V := updV (vp_V fs) k v) ⟨_, e1, q2, q3, t_set q4 hap hk v⟩ (fun j _ => vp_updV_set hl v j)⟩ e2 e3 (hS0.put e2 e3 haA)
/-- where an object stands, its class by name -/
theorem ob_recv (hK : va_K θ.1 vwCl (tyS θ) s) {a ci N : Nat} {fs : List Value} {C : String} {T : u_T} (ho : OB θ H a ci fs) (hc : vwCl[ci]? = some (C, T, N)) : ∃ cellB : Cell, H[a]? = some cellB ∧ cellB.vm.isStatics = false ∧ s.vm.findClass C = some cellB.cls :=
  va_recv hK (P1 ho) (ci := ci) (q0 := 0) hc rfl
abbrev NM : List String := ["java/lang/RuntimeException", "java/lang/Exception"]
variable {Rr : Option Value → Heap → Prop} {RX : String → Heap → Prop} {mc ms : Nat}
/-- throw new E("text") -/
theorem e_thr {own cls text : String} {nL ik is ic sa : Nat} {lv : List (Nat × Value)} (fx : FX p m c cc nL s args own S0) (hz : SZ θ S0 s.heap) (hl0 : l.stackTraces = false) (hfit : Bundle.fit cls = true) (wk : Cond.classLink own ik cls ∈ wG) (wi : Cond.initialized cls ∈ wG) (hstr : vk_R own is text sa S0) (hat : ∀ w ∈ vx_atS own ic cls NM, w ∈ wG ∨ w ∈ wN) (hgood : ∀ w ∈ Cond.classLink own ik cls :: Cond.initialized cls :: vx_atS own ic cls NM, vx_ot w = true)
    (hA : ∀ q, A q → θ.2.2.2 ≤ q) (hS : va_S A s.heap H locs) (hl : lv_has ls nL lv) (d0 : decode cc pc = .ok (.new ik, 3)) (d3 : decode cc (pc + 3) = .ok (.dup, 1)) (d4 : decode cc (pc + 4) = .ok (.ldc_w is, 3)) (d7 : decode cc (pc + 7) = .ok (.invokespecial ic, 3)) (d10 : decode cc (pc + 10) = .ok (.athrow, 1)) (hxt : ∀ x ∈ c.exceptionTable.toList, False) (hlk : meth.locks = false)
    (hR : 5 < R.frames ∧ 82 ≤ R.locals) (hRc : cells + 1 ≤ R.cells ∧ slots + 6 ≤ R.slots) (hc : cells + 1 ≤ mc ∧ slots + 6 ≤ ms) (hp : ∀ H1 : Heap, H.size ≤ H1.size → (∀ q : Nat, q < H.size → H1[q]? = H[q]?) → RX cls H1) :
    W p l e R s m args below meth c H locs cells slots (vx_MQ below (QH Rr A) (XH RX A) args s mc ms A) (F0 m pc ls []) := by
  obtain ⟨⟨hx, hb, hml, hown, hts⟩, hW⟩ := id fx
  obtain ⟨-, -, -, -, z1, z2, -, -, z3, -⟩ := hz
  refine vx_throwSW (names := NM) hx hb hl0 hown hfit (by decide +kernel) (hts _ wk) (hts _ wi) (vk_R.warm hW hstr) (fun w hw => (hat w hw).elim (hts w) (fun h => nw_at hW z3 h)) hgood ((vx_Zq.moved hW.alike z1).narrow hA) ((vx_Zq.moved hW.alike z2).narrow hA) hS (hl.1.trans hml.symm) d0 d3 d4 d7 d10 (fun x hx => (hxt x hx).elim) (by show 2 + 3 < _; omega) (by show 0 + (13 * (2 + 1) + 43) ≤ _; omega) hRc.1 hRc.2 hlk ?_ hS.2.2 hc.1 hc.2
  intro t hal h1 h2
  exact ⟨hp t.heap h1 h2, Nat.le_trans hS.1 h1, fun q hq hn => (h2 q (Nat.lt_of_lt_of_le hq hS.1)).trans (hS.2.1 q hq hn)⟩
end RW
theorem at_io : ∀ w ∈ vx_atS RX1 266 "java/lang/IndexOutOfBoundsException" NM, w ∈ wG ∨ w ∈ wN := by decide +kernel
theorem gd_io : ∀ w ∈ Cond.classLink RX1 262 "java/lang/IndexOutOfBoundsException" :: Cond.initialized "java/lang/IndexOutOfBoundsException" :: vx_atS RX1 266 "java/lang/IndexOutOfBoundsException" NM, vx_ot w = true := by decide +kernel
theorem at_ia : ∀ w ∈ vx_atS RX1 275 "java/lang/IllegalArgumentException" NM, w ∈ wG ∨ w ∈ wN := by decide +kernel
theorem gd_ia : ∀ w ∈ Cond.classLink RX1 271 "java/lang/IllegalArgumentException" :: Cond.initialized "java/lang/IllegalArgumentException" :: vx_atS RX1 275 "java/lang/IllegalArgumentException" NM, vx_ot w = true := by decide +kernel
theorem at_is : ∀ w ∈ vx_atS RX1 283 "java/lang/IllegalStateException" NM, w ∈ wG ∨ w ∈ wN := by decide +kernel
theorem gd_is : ∀ w ∈ Cond.classLink RX1 279 "java/lang/IllegalStateException" :: Cond.initialized "java/lang/IllegalStateException" :: vx_atS RX1 283 "java/lang/IllegalStateException" NM, vx_ot w = true := by decide +kernel
