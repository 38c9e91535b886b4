/-! ints as whole numbers -/
def iI (z : Int) : Int32 := Int32.ofInt z
def lL (z : Int) : Int64 := Int64.ofInt z
theorem iI_add (a b : Int) : iI a + iI b = iI (a + b) := (Int32.ofInt_add a b).symm
theorem iI_sub (a b : Int) : iI a - iI b = iI (a - b) := (Int32.ofInt_sub a b).symm
theorem iI_mul (a b : Int) : iI a * iI b = iI (a * b) := (Int32.ofInt_mul a b).symm
theorem iI_neg (a : Int) : -iI a = iI (-a) := (Int32.ofInt_neg a).symm
theorem lL_add (a b : Int) : lL a + lL b = lL (a + b) := (Int64.ofInt_add a b).symm
theorem lL_sub (a b : Int) : lL a - lL b = lL (a - b) := (Int64.ofInt_sub a b).symm
theorem lL_mul (a b : Int) : lL a * lL b = lL (a * b) := (Int64.ofInt_mul a b).symm
theorem iI_t {z : Int} (h : -2147483648 ≤ z ∧ z < 2147483648) : (iI z).toInt = z := Int32.toInt_ofInt_of_le (by omega) (by omega)
theorem lL_t {z : Int} (h : -9223372036854775808 ≤ z ∧ z < 9223372036854775808) : (lL z).toInt = z := Int64.toInt_ofInt_of_le (by omega) (by omega)
theorem iI_of (x : Int32) : iI x.toInt = x := Int32.ofInt_toInt x
theorem lL_of (x : Int64) : lL x.toInt = x := Int64.ofInt_toInt x
theorem iI_ex (x : Int32) : ∃ z : Int, x = iI z ∧ -2147483648 ≤ z ∧ z < 2147483648 := ⟨x.toInt, (iI_of x).symm, by have := Int32.le_toInt x; omega, by have := Int32.toInt_lt x; omega⟩
theorem iI_lt {a b : Int} (ha : -2147483648 ≤ a ∧ a < 2147483648) (hb : -2147483648 ≤ b ∧ b < 2147483648) : iI a < iI b ↔ a < b := by rw [Int32.lt_iff_toInt_lt, iI_t ha, iI_t hb]
theorem iI_le {a b : Int} (ha : -2147483648 ≤ a ∧ a < 2147483648) (hb : -2147483648 ≤ b ∧ b < 2147483648) : iI a ≤ iI b ↔ a ≤ b := by rw [Int32.le_iff_toInt_le, iI_t ha, iI_t hb]
theorem iI_eq {a b : Int} (ha : -2147483648 ≤ a ∧ a < 2147483648) (hb : -2147483648 ≤ b ∧ b < 2147483648) : iI a = iI b ↔ a = b := by rw [← Int32.toInt_inj, iI_t ha, iI_t hb]
theorem lL_lt {a b : Int} (ha : -9223372036854775808 ≤ a ∧ a < 9223372036854775808) (hb : -9223372036854775808 ≤ b ∧ b < 9223372036854775808) : lL a < lL b ↔ a < b := by rw [Int64.lt_iff_toInt_lt, lL_t ha, lL_t hb]
theorem lL_eq {a b : Int} (ha : -9223372036854775808 ≤ a ∧ a < 9223372036854775808) (hb : -9223372036854775808 ≤ b ∧ b < 9223372036854775808) : lL a = lL b ↔ a = b := by rw [← Int64.toInt_inj, lL_t ha, lL_t hb]
theorem iI_0 : (0 : Int32) = iI 0 := rfl
theorem iI_l {z : Int} (h : -2147483648 ≤ z ∧ z < 2147483648) : (iI z).toInt64 = lL z := by
  apply Int64.toInt_inj.mp
  rw [Int32.toInt_toInt64, iI_t h, lL_t (by omega)]
theorem lL_i {z : Int} (h : -2147483648 ≤ z ∧ z < 2147483648) : (lL z).toInt32 = iI z := by
  apply Int32.toInt_inj.mp
  rw [Int64.toInt_toInt32, iI_t h, lL_t (by omega)]
  exact Int.bmod_eq_of_le (by omega) (by omega)
/-- the quotient towards 0, in words that omega knows -/
theorem tdiv_pos {a b : Int} (h : 0 ≤ a) (_hb : 0 < b) : a.tdiv b = a / b := Int.tdiv_eq_ediv_of_nonneg h
theorem tdiv_neg' {a b : Int} (h : a < 0) : a.tdiv b = -((-a) / b) := by
  have h1 : (-a).tdiv b = (-a) / b := Int.tdiv_eq_ediv_of_nonneg (by omega)
  rw [Int.neg_tdiv] at h1
  omega
theorem iI_div {a b : Int} (ha : -2147483648 ≤ a ∧ a < 2147483648) (hb : 0 < b ∧ b < 2147483648) : iI a / iI b = iI (a.tdiv b) := by
  have hk : -2147483648 ≤ a.tdiv b ∧ a.tdiv b < 2147483648 := by
    rcases Int.lt_or_le a 0 with h | h
    · rw [tdiv_neg' h]
      have h1 : 0 ≤ (-a) / b := Int.ediv_nonneg (by omega) (by omega)
      have h2 : (-a) / b ≤ -a := Int.ediv_le_self _ (by omega)
      omega
    · rw [tdiv_pos h hb.1]
      have h1 : 0 ≤ a / b := Int.ediv_nonneg (by omega) (by omega)
      have h2 : a / b ≤ a := Int.ediv_le_self _ (by omega)
      omega
  apply Int32.toInt_inj.mp
  rw [Int32.toInt_div, iI_t ha, iI_t ⟨by omega, hb.2⟩, iI_t hk]
  exact Int.bmod_eq_of_le (by omega) (by omega)
theorem iI_rem {a b : Int} (ha : -2147483648 ≤ a ∧ a < 2147483648) (hb : 0 < b ∧ b < 2147483648) : iI a - iI a / iI b * iI b = iI (a - a.tdiv b * b) := by
  rw [iI_div ha hb, iI_mul, iI_sub]
theorem lL_div {a b : Int} (ha : -9223372036854775808 ≤ a ∧ a < 9223372036854775808) (hb : 0 < b ∧ b < 9223372036854775808) : lL a / lL b = lL (a.tdiv b) := by
  have hk : -9223372036854775808 ≤ a.tdiv b ∧ a.tdiv b < 9223372036854775808 := by
    rcases Int.lt_or_le a 0 with h | h
    · rw [tdiv_neg' h]
      have h1 : 0 ≤ (-a) / b := Int.ediv_nonneg (by omega) (by omega)
      have h2 : (-a) / b ≤ -a := Int.ediv_le_self _ (by omega)
      omega
    · rw [tdiv_pos h hb.1]
      have h1 : 0 ≤ a / b := Int.ediv_nonneg (by omega) (by omega)
      have h2 : a / b ≤ a := Int.ediv_le_self _ (by omega)
      omega
  apply Int64.toInt_inj.mp
  rw [Int64.toInt_div, lL_t ha, lL_t ⟨by omega, hb.2⟩, lL_t hk]
  exact Int.bmod_eq_of_le (by omega) (by omega)
/-- the sign of x ^ y, for y over 0 -/
theorem iI_xor {a b : Int} (ha : -2147483648 ≤ a ∧ a < 2147483648) (hb : 0 < b ∧ b < 2147483648) : iI a ^^^ iI b < 0 ↔ a < 0 := by
  have h0 : ∀ x : Int32, x < 0 ↔ x.toBitVec.msb = true := fun x => by
    rw [Int32.lt_iff_toInt_lt, show (0 : Int32).toInt = 0 from by decide, BitVec.msb_eq_toInt, decide_eq_true_iff]
    exact Iff.rfl
  have h1 : ∀ z : Int, (-2147483648 ≤ z ∧ z < 2147483648) → ((iI z).toBitVec.msb = true ↔ z < 0) := fun z hz => by
    rw [← h0, Int32.lt_iff_toInt_lt, iI_t hz]
    exact Iff.rfl
  have hbm : (iI b).toBitVec.msb = false := by
    cases h : (iI b).toBitVec.msb with
    | false => rfl
    | true => have := (h1 b ⟨by omega, hb.2⟩).mp h; omega
  rw [h0, Int32.toBitVec_xor, BitVec.msb_xor, hbm, Bool.xor_false]
  exact h1 a ha
theorem lL_xor {a b : Int} (ha : -9223372036854775808 ≤ a ∧ a < 9223372036854775808) (hb : 0 < b ∧ b < 9223372036854775808) : lL a ^^^ lL b < 0 ↔ a < 0 := by
  have h0 : ∀ x : Int64, x < 0 ↔ x.toBitVec.msb = true := fun x => by
    rw [Int64.lt_iff_toInt_lt, show (0 : Int64).toInt = 0 from by decide, BitVec.msb_eq_toInt, decide_eq_true_iff]
    exact Iff.rfl
  have h1 : ∀ z : Int, (-9223372036854775808 ≤ z ∧ z < 9223372036854775808) → ((lL z).toBitVec.msb = true ↔ z < 0) := fun z hz => by
    rw [← h0, Int64.lt_iff_toInt_lt, lL_t hz]
    exact Iff.rfl
  have hbm : (lL b).toBitVec.msb = false := by
    cases h : (lL b).toBitVec.msb with
    | false => rfl
    | true => have := (h1 b ⟨by omega, hb.2⟩).mp h; omega
  rw [h0, Int64.toBitVec_xor, BitVec.msb_xor, hbm, Bool.xor_false]
  exact h1 a ha
theorem iI_nn {z : Int} (h : 0 ≤ z ∧ z < 2147483648) : (iI z).toNatClampNeg = z.toNat := by
  have h1 : (iI z).toInt = z := iI_t (by omega)
  show (iI z).toInt.toNat = z.toNat
  rw [h1]
theorem vp_in_I {z : Int} {n : Nat} (h : 0 ≤ z ∧ z < (n : Int)) (hn : n < 2147483648) : vp_in (iI z) n := by
  rw [vp_in_iff, iI_t (by omega)]
  exact h
theorem narrow_01 {r : Int} (h : r = 0 ∨ r = 1) : narrow .boolean (.int (iI r)) = .int (iI r) := by
  rcases h with rfl | rfl <;> rfl
/-! the judgements of this text: a method that returns or throws, from a heap H -/
def PH (S0 : State) (H : Heap) : State → Prop := fun U => U.heap = H ∧ S0.WarmedH U.vm
def QH (Rr : Option Value → Heap → Prop) (A : Nat → Prop) : Array Value → State → Outcome → State → Prop := fun _ st oc t => (∃ v : Option Value, oc = .returned v ∧ Rr v t.heap) ∧ va_F A st t
def XH (RX : String → Heap → Prop) (A : Nat → Prop) : String → State → State → Prop := fun E st t => RX E t.heap ∧ va_F A st t
def CT (l : Launch) (y : MethodName) (cy : ByteArray) (n : Nat) (ret : Option FieldType) (F L mc ms : Nat) (As : List Value) (S0 : State) (H : Heap) (Rr : Option Value → Heap → Prop) (RX : String → Heap → Prop) (A : Nat → Prop) : Prop :=
  vx_Met l y (.code y cy n ret :: wG) { frames := F, cells := mc, slots := ms, locals := L } (va_Pc As (PH S0 H)) (QH Rr A) (XH RX A) mc ms A
abbrev FX (p : Program) (m : MethodId) (c : Code) (cc : ByteArray) (nL : Nat) (s : State) (args : Array Value) (own : String) (S0 : State) : Prop := CallFix p m c cc nL s args wG own ∧ S0.WarmedH s.vm
theorem ph_blind {As : List Value} {S0 : State} {H : Heap} : FrameBlind (va_Pc As (PH S0 H)) := fun a U g mk h => ⟨h.1, h.2.1, h.2.2⟩
theorem wg_ws {y : MethodName} {cy : ByteArray} {n : Nat} {ret : Option FieldType} (h : Cond.code y cy n ret ∈ wG) : ∀ w ∈ (Cond.code y cy n ret :: wG), w ∈ wG := fun w hw => (List.mem_cons.mp hw).elim (fun e => e ▸ h) id
theorem wg_in {ws : List Cond} (h : ∀ w ∈ ws, w ∈ wG) : GoodIn wG ws := fun w hw => ⟨h w hw, wg_good (h w hw)⟩
theorem S_refl (s : State) : s.WarmedH s.vm := State.WarmedH.refl s
theorem vy_ofW {l : Launch} {y : MethodName} {ws ws' : List Cond} {rm : Room} {Pc : Array Value → State → Prop} {Qc : Array Value → State → Outcome → State → Prop} {XC : String → State → State → Prop} {mc ms : Nat} {free : Addr → Prop} {cc : ByteArray} {maxL : Nat} {ret : Option FieldType}
    (hy : plainFor y = true) (hw : ws = Cond.code y cc maxL ret :: ws')
    (body : ∀ p e s m args below meth c s₁, BodyLoose p l y (headSpec ws rm) cc maxL ret e s m args below meth c s₁ → c.maxLocals = maxL → (∀ x ∈ c.exceptionTable.toList, False) → Pc args s →
      W p l e (headSpec ws rm).room s m args below meth c s.heap [] 0 0 (vx_MQ below Qc XC args s mc ms free) (entryFrame m args maxL)) : vx_Met l y ws rm Pc Qc XC mc ms free := by
  refine MetFree.of_bodySF (code := cc) (maxLocals := maxL) (ret := ret) hy ?_ ?_
  · intro args s m h hn
    obtain ⟨meth, c, h1, h2, h3, h4, h5, h6, -, -⟩ := Cond.code_spec hn (atoms_spec (ws := ws) h _ (by rw [hw]; exact List.mem_cons_self))
    exact ⟨meth, c, h1, h2, h3, h4, h5, h6⟩
  · intro p e s m args below meth c s₁ B hml hP _
    have hh0 : s₁.heap = s.heap := by rw [B.state]; rfl
    have ht : ∀ x ∈ c.exceptionTable.toList, False := by
      obtain ⟨meth9, c9, h1, h2, -, -, -, -, h7, -⟩ := Cond.code_spec B.named (atoms_spec (ws := ws) B.pre _ (by rw [hw]; exact List.mem_cons_self))
      cases Option.some.inj (h1.symm.trans B.method)
      cases Option.some.inj (h2.symm.trans (Stand.of_body B).code)
      intro x hx
      rw [Array.isEmpty_iff.mp h7] at hx
      cases hx
    obtain ⟨t, a1, o, b1, b2, b3⟩ := body p e s m args below meth c s₁ B hml ht hP s₁ hh0 (Stand.of_body B)
    exact ⟨t, o, a1, b1, b2, b3⟩
/-- the start of a body -/
theorem ct_of {l : Launch} {y : MethodName} {cy : ByteArray} {n : Nat} {ret : Option FieldType} {F L mc ms : Nat} {As : List Value} {S0 : State} {H : Heap} {Rr : Option Value → Heap → Prop} {RX : String → Heap → Prop} {A : Nat → Prop}
    (hy : plainFor y = true) (hn : (lg_sl As).length ≤ n)
    (body : ∀ (p : Program) (e : Env) (s : State) (m : MethodId) (args : Array Value) (below : List Frame) (meth : Method) (c : Code) (ls : Array Slot), FX p m c cy n s args y.cls S0 → s.heap = H → meth.sig.returnType = ret → meth.locks = false → (∀ x ∈ c.exceptionTable.toList, False) → (y.name = "<init>" → meth.name = "<init>") → lv_has ls n (lv_args 0 As) →
      W p l e { frames := F, cells := mc, slots := ms, locals := L } s m args below meth c H [] 0 0 (vx_MQ below (QH Rr A) (XH RX A) args s mc ms A) (F0 m 0 ls [])) : CT l y cy n ret F L mc ms As S0 H Rr RX A := by
  refine vy_ofW (cc := cy) (maxL := n) (ret := ret) hy rfl ?_
  intro p e s m args below meth c s₁ B hml hxt hv
  obtain ⟨rfl, hH, hW⟩ := hv
  have hts : ∀ w ∈ (Cond.code y cy n ret :: wG), w.before As.toArray s = true := atoms_spec (ws := .code y cy n ret :: wG) B.pre
  have hin : y.name = "<init>" → meth.name = "<init>" := fun q => (name_of_methodNamed B.named B.method).1.trans q
  have k := body p e s m As.toArray below meth c _ ⟨⟨B.exec, B.bytes, hml, findClass_of_methodNamed B.named, fun w h => hts w (List.mem_cons_of_mem _ h)⟩, hW⟩ hH B.returns B.notSynchronized hxt hin (lv_entry As hn)
  rw [lg_entry_eq, hH]
  exact k
section BW
variable {p : Program} {l : Launch} {e : Env} {R : Room} {s : State} {m : MethodId} {args : Array Value} {below : List Frame} {meth : Method} {c : Code} {H : Heap} {locs : List Loc} {cells slots : Nat} {Q : State → Prop} {cc : ByteArray} {pc : Nat} {ls : Array Slot} {rest : List Value}
theorem q_con (hexec : p.tables.exec = Jvm.exec) (hb : c.code = cc) {n : Int} (d : decode cc pc = .ok (.iconst n, 1)) (k : W p l e R s m args below meth c H locs cells slots Q (F0 m (pc + 1) ls (.int (iI n) :: rest))) : W p l e R s m args below meth c H locs cells slots Q (F0 m pc ls rest) := lv_iconst hexec hb d rfl k
theorem q_bip (hexec : p.tables.exec = Jvm.exec) (hb : c.code = cc) {n : Int} (d : decode cc pc = .ok (.bipush n, 2)) (h : (Int8.ofInt n).toInt32 = iI n) (k : W p l e R s m args below meth c H locs cells slots Q (F0 m (pc + 2) ls (.int (iI n) :: rest))) : W p l e R s m args below meth c H locs cells slots Q (F0 m pc ls rest) := lv_bipush hexec hb d h k
theorem q_sip (hexec : p.tables.exec = Jvm.exec) (hb : c.code = cc) {n : Int} (d : decode cc pc = .ok (.sipush n, 3)) (h : (Int16.ofInt n).toInt32 = iI n) (k : W p l e R s m args below meth c H locs cells slots Q (F0 m (pc + 3) ls (.int (iI n) :: rest))) : W p l e R s m args below meth c H locs cells slots Q (F0 m pc ls rest) := lv_sipush hexec hb d h k
theorem q_ldc (hexec : p.tables.exec = Jvm.exec) (hb : c.code = cc) {own : String} {index : Nat} {v : Int32} {n : Int} (hown : s.vm.findClass own = some m.cls) (hconst : (Jvm.Cond.constant own index v).before args s = true) (hv : v = iI n) (d : decode cc pc = .ok (.ldc index, 2)) (k : W p l e R s m args below meth c H locs cells slots Q (F0 m (pc + 2) ls (.int (iI n) :: rest))) : W p l e R s m args below meth c H locs cells slots Q (F0 m pc ls rest) := by
  subst hv
  exact lv_ldc hexec hb hown hconst d k
theorem q_ldcw (hexec : p.tables.exec = Jvm.exec) (hb : c.code = cc) {own : String} {index : Nat} {v : Int32} {n : Int} (hown : s.vm.findClass own = some m.cls) (hconst : (Jvm.Cond.constant own index v).before args s = true) (hv : v = iI n) (d : decode cc pc = .ok (.ldc_w index, 3)) (k : W p l e R s m args below meth c H locs cells slots Q (F0 m (pc + 3) ls (.int (iI n) :: rest))) : W p l e R s m args below meth c H locs cells slots Q (F0 m pc ls rest) := by
  subst hv
  exact lv_ldcw hexec hb hown hconst d k
theorem q_ldc2 (hexec : p.tables.exec = Jvm.exec) (hb : c.code = cc) {own : String} {index : Nat} {v : Int64} {n : Int} (hown : s.vm.findClass own = some m.cls) (hconst : (Jvm.Cond.constantLong own index v).before args s = true) (hv : v = lL n) (d : decode cc pc = .ok (.ldc2_w index, 3)) (k : W p l e R s m args below meth c H locs cells slots Q (F0 m (pc + 3) ls (.long (lL n) :: rest))) : W p l e R s m args below meth c H locs cells slots Q (F0 m pc ls rest) := by
  subst hv
  exact lv_ldc2 hexec hb hown hconst d k
theorem q_lcon (hexec : p.tables.exec = Jvm.exec) (hb : c.code = cc) {n : Fin 2} {z : Int} (hz : Int64.ofNat (n : Nat) = lL z) (d : decode cc pc = .ok (.lconst n, 1)) (k : W p l e R s m args below meth c H locs cells slots Q (F0 m (pc + 1) ls (.long (lL z) :: rest))) : W p l e R s m args below meth c H locs cells slots Q (F0 m pc ls rest) := lv_lconst hexec hb d hz k
theorem q_add (hexec : p.tables.exec = Jvm.exec) (hb : c.code = cc) {a b : Int} (d : decode cc pc = .ok (.iadd, 1)) (k : W p l e R s m args below meth c H locs cells slots Q (F0 m (pc + 1) ls (.int (iI (a + b)) :: rest))) : W p l e R s m args below meth c H locs cells slots Q (F0 m pc ls (.int (iI b) :: .int (iI a) :: rest)) := lv_iadd hexec hb d (by rw [iI_add]; exact k)
theorem q_sub (hexec : p.tables.exec = Jvm.exec) (hb : c.code = cc) {a b : Int} (d : decode cc pc = .ok (.isub, 1)) (k : W p l e R s m args below meth c H locs cells slots Q (F0 m (pc + 1) ls (.int (iI (a - b)) :: rest))) : W p l e R s m args below meth c H locs cells slots Q (F0 m pc ls (.int (iI b) :: .int (iI a) :: rest)) := lv_isub hexec hb d (by rw [iI_sub]; exact k)
theorem q_mul (hexec : p.tables.exec = Jvm.exec) (hb : c.code = cc) {a b : Int} (d : decode cc pc = .ok (.imul, 1)) (k : W p l e R s m args below meth c H locs cells slots Q (F0 m (pc + 1) ls (.int (iI (a * b)) :: rest))) : W p l e R s m args below meth c H locs cells slots Q (F0 m pc ls (.int (iI b) :: .int (iI a) :: rest)) := lv_imul hexec hb d (by rw [iI_mul]; exact k)
theorem q_neg (hexec : p.tables.exec = Jvm.exec) (hb : c.code = cc) {a : Int} (d : decode cc pc = .ok (.ineg, 1)) (k : W p l e R s m args below meth c H locs cells slots Q (F0 m (pc + 1) ls (.int (iI (-a)) :: rest))) : W p l e R s m args below meth c H locs cells slots Q (F0 m pc ls (.int (iI a) :: rest)) := lv_ineg hexec hb d (by rw [iI_neg]; exact k)
theorem q_div (hexec : p.tables.exec = Jvm.exec) (hb : c.code = cc) {a b : Int} (d : decode cc pc = .ok (.idiv, 1)) (ha : -2147483648 ≤ a ∧ a < 2147483648) (h0 : 0 < b ∧ b < 2147483648) (k : W p l e R s m args below meth c H locs cells slots Q (F0 m (pc + 1) ls (.int (iI (a.tdiv b)) :: rest))) : W p l e R s m args below meth c H locs cells slots Q (F0 m pc ls (.int (iI b) :: .int (iI a) :: rest)) :=
  lv_idiv hexec hb d (fun q => by have := (iI_eq (b := 0) ⟨by omega, h0.2⟩ (by decide)).mp q; omega) (by rw [iI_div ha h0]; exact k)
theorem q_rem (hexec : p.tables.exec = Jvm.exec) (hb : c.code = cc) {a b : Int} (d : decode cc pc = .ok (.irem, 1)) (ha : -2147483648 ≤ a ∧ a < 2147483648) (h0 : 0 < b ∧ b < 2147483648) (k : W p l e R s m args below meth c H locs cells slots Q (F0 m (pc + 1) ls (.int (iI (a - a.tdiv b * b)) :: rest))) : W p l e R s m args below meth c H locs cells slots Q (F0 m pc ls (.int (iI b) :: .int (iI a) :: rest)) :=
  lv_irem hexec hb d (fun q => by have := (iI_eq (b := 0) ⟨by omega, h0.2⟩ (by decide)).mp q; omega) (by rw [iI_rem ha h0]; exact k)
theorem q_ladd (hexec : p.tables.exec = Jvm.exec) (hb : c.code = cc) {a b : Int} (d : decode cc pc = .ok (.ladd, 1)) (k : W p l e R s m args below meth c H locs cells slots Q (F0 m (pc + 1) ls (.long (lL (a + b)) :: rest))) : W p l e R s m args below meth c H locs cells slots Q (F0 m pc ls (.long (lL b) :: .long (lL a) :: rest)) := lv_ladd hexec hb d (by rw [lL_add]; exact k)
theorem q_lsub (hexec : p.tables.exec = Jvm.exec) (hb : c.code = cc) {a b : Int} (d : decode cc pc = .ok (.lsub, 1)) (k : W p l e R s m args below meth c H locs cells slots Q (F0 m (pc + 1) ls (.long (lL (a - b)) :: rest))) : W p l e R s m args below meth c H locs cells slots Q (F0 m pc ls (.long (lL b) :: .long (lL a) :: rest)) := lv_lsub hexec hb d (by rw [lL_sub]; exact k)
theorem q_lmul (hexec : p.tables.exec = Jvm.exec) (hb : c.code = cc) {a b : Int} (d : decode cc pc = .ok (.lmul, 1)) (k : W p l e R s m args below meth c H locs cells slots Q (F0 m (pc + 1) ls (.long (lL (a * b)) :: rest))) : W p l e R s m args below meth c H locs cells slots Q (F0 m pc ls (.long (lL b) :: .long (lL a) :: rest)) := lv_lmul hexec hb d (by rw [lL_mul]; exact k)
theorem q_ldiv (hexec : p.tables.exec = Jvm.exec) (hb : c.code = cc) {a b : Int} (d : decode cc pc = .ok (.ldiv, 1)) (ha : -9223372036854775808 ≤ a ∧ a < 9223372036854775808) (h0 : 0 < b ∧ b < 9223372036854775808) (k : W p l e R s m args below meth c H locs cells slots Q (F0 m (pc + 1) ls (.long (lL (a.tdiv b)) :: rest))) : W p l e R s m args below meth c H locs cells slots Q (F0 m pc ls (.long (lL b) :: .long (lL a) :: rest)) :=
  lv_ldiv hexec hb d (fun q => by have := (lL_eq (b := 0) ⟨by omega, h0.2⟩ (by decide)).mp q; omega) (by rw [lL_div ha h0]; exact k)
theorem q_i2l (hexec : p.tables.exec = Jvm.exec) (hb : c.code = cc) {a : Int} (d : decode cc pc = .ok (.i2l, 1)) (ha : -2147483648 ≤ a ∧ a < 2147483648) (k : W p l e R s m args below meth c H locs cells slots Q (F0 m (pc + 1) ls (.long (lL a) :: rest))) : W p l e R s m args below meth c H locs cells slots Q (F0 m pc ls (.int (iI a) :: rest)) := lv_i2l hexec hb d (iI_l ha) k
theorem q_l2i (hexec : p.tables.exec = Jvm.exec) (hb : c.code = cc) {a : Int} (d : decode cc pc = .ok (.l2i, 1)) (ha : -2147483648 ≤ a ∧ a < 2147483648) (k : W p l e R s m args below meth c H locs cells slots Q (F0 m (pc + 1) ls (.int (iI a) :: rest))) : W p l e R s m args below meth c H locs cells slots Q (F0 m pc ls (.long (lL a) :: rest)) := lv_l2i hexec hb d (lL_i ha) k
/-- a name for the number on top -/
theorem q_nm {a : Int} (k : ∀ z : Int, z = a → W p l e R s m args below meth c H locs cells slots Q (F0 m pc ls (.int (iI z) :: rest))) : W p l e R s m args below meth c H locs cells slots Q (F0 m pc ls (.int (iI a) :: rest)) := k a rfl
theorem q_nml {a : Int} (k : ∀ z : Int, z = a → W p l e R s m args below meth c H locs cells slots Q (F0 m pc ls (.long (lL z) :: rest))) : W p l e R s m args below meth c H locs cells slots Q (F0 m pc ls (.long (lL a) :: rest)) := k a rfl
/-- another word for the same number -/
theorem q_as {a : Int} (b : Int) (h : a = b) (k : W p l e R s m args below meth c H locs cells slots Q (F0 m pc ls (.int (iI b) :: rest))) : W p l e R s m args below meth c H locs cells slots Q (F0 m pc ls (.int (iI a) :: rest)) := by rw [h]; exact k
theorem q_clt (hexec : p.tables.exec = Jvm.exec) (hb : c.code = cc) {a b : Int} {off : Int} {tgt : Nat} (d : decode cc pc = .ok (.if_icmp .lt off, 3)) (ht : (pc : Int) + off = (tgt : Int)) (ha : -2147483648 ≤ a ∧ a < 2147483648) (hb2 : -2147483648 ≤ b ∧ b < 2147483648) (kt : a < b → W p l e R s m args below meth c H locs cells slots Q (F0 m tgt ls rest)) (kf : b ≤ a → W p l e R s m args below meth c H locs cells slots Q (F0 m (pc + 3) ls rest)) : W p l e R s m args below meth c H locs cells slots Q (F0 m pc ls (.int (iI b) :: .int (iI a) :: rest)) :=
  lv_icmp_lt hexec hb d ht (fun q => kt ((iI_lt ha hb2).mp q)) (fun q => kf (Int.not_lt.mp fun z => q ((iI_lt ha hb2).mpr z)))
theorem q_cge (hexec : p.tables.exec = Jvm.exec) (hb : c.code = cc) {a b : Int} {off : Int} {tgt : Nat} (d : decode cc pc = .ok (.if_icmp .ge off, 3)) (ht : (pc : Int) + off = (tgt : Int)) (ha : -2147483648 ≤ a ∧ a < 2147483648) (hb2 : -2147483648 ≤ b ∧ b < 2147483648) (kt : b ≤ a → W p l e R s m args below meth c H locs cells slots Q (F0 m tgt ls rest)) (kf : a < b → W p l e R s m args below meth c H locs cells slots Q (F0 m (pc + 3) ls rest)) : W p l e R s m args below meth c H locs cells slots Q (F0 m pc ls (.int (iI b) :: .int (iI a) :: rest)) :=
  lv_icmp_ge hexec hb d ht (fun q => kt ((iI_le hb2 ha).mp q)) (fun q => kf (Int.not_le.mp fun z => q ((iI_le hb2 ha).mpr z)))
theorem q_cgt (hexec : p.tables.exec = Jvm.exec) (hb : c.code = cc) {a b : Int} {off : Int} {tgt : Nat} (d : decode cc pc = .ok (.if_icmp .gt off, 3)) (ht : (pc : Int) + off = (tgt : Int)) (ha : -2147483648 ≤ a ∧ a < 2147483648) (hb2 : -2147483648 ≤ b ∧ b < 2147483648) (kt : b < a → W p l e R s m args below meth c H locs cells slots Q (F0 m tgt ls rest)) (kf : a ≤ b → W p l e R s m args below meth c H locs cells slots Q (F0 m (pc + 3) ls rest)) : W p l e R s m args below meth c H locs cells slots Q (F0 m pc ls (.int (iI b) :: .int (iI a) :: rest)) :=
  lv_icmp_gt hexec hb d ht (fun q => kt ((iI_lt hb2 ha).mp q)) (fun q => kf (Int.not_lt.mp fun z => q ((iI_lt hb2 ha).mpr z)))
theorem q_cle (hexec : p.tables.exec = Jvm.exec) (hb : c.code = cc) {a b : Int} {off : Int} {tgt : Nat} (d : decode cc pc = .ok (.if_icmp .le off, 3)) (ht : (pc : Int) + off = (tgt : Int)) (ha : -2147483648 ≤ a ∧ a < 2147483648) (hb2 : -2147483648 ≤ b ∧ b < 2147483648) (kt : a ≤ b → W p l e R s m args below meth c H locs cells slots Q (F0 m tgt ls rest)) (kf : b < a → W p l e R s m args below meth c H locs cells slots Q (F0 m (pc + 3) ls rest)) : W p l e R s m args below meth c H locs cells slots Q (F0 m pc ls (.int (iI b) :: .int (iI a) :: rest)) :=
  lv_icmp_le hexec hb d ht (fun q => kt ((iI_le ha hb2).mp q)) (fun q => kf (Int.not_le.mp fun z => q ((iI_le ha hb2).mpr z)))
theorem q_ceq (hexec : p.tables.exec = Jvm.exec) (hb : c.code = cc) {a b : Int} {off : Int} {tgt : Nat} (d : decode cc pc = .ok (.if_icmp .eq off, 3)) (ht : (pc : Int) + off = (tgt : Int)) (ha : -2147483648 ≤ a ∧ a < 2147483648) (hb2 : -2147483648 ≤ b ∧ b < 2147483648) (kt : a = b → W p l e R s m args below meth c H locs cells slots Q (F0 m tgt ls rest)) (kf : ¬ a = b → W p l e R s m args below meth c H locs cells slots Q (F0 m (pc + 3) ls rest)) : W p l e R s m args below meth c H locs cells slots Q (F0 m pc ls (.int (iI b) :: .int (iI a) :: rest)) :=
  lv_icmp_eq hexec hb d ht (fun q => kt ((iI_eq ha hb2).mp q)) (fun q => kf (fun z => q ((iI_eq ha hb2).mpr z)))
theorem q_cne (hexec : p.tables.exec = Jvm.exec) (hb : c.code = cc) {a b : Int} {off : Int} {tgt : Nat} (d : decode cc pc = .ok (.if_icmp .ne off, 3)) (ht : (pc : Int) + off = (tgt : Int)) (ha : -2147483648 ≤ a ∧ a < 2147483648) (hb2 : -2147483648 ≤ b ∧ b < 2147483648) (kt : ¬ a = b → W p l e R s m args below meth c H locs cells slots Q (F0 m tgt ls rest)) (kf : a = b → W p l e R s m args below meth c H locs cells slots Q (F0 m (pc + 3) ls rest)) : W p l e R s m args below meth c H locs cells slots Q (F0 m pc ls (.int (iI b) :: .int (iI a) :: rest)) :=
  lv_icmp_ne hexec hb d ht (fun q => kt (fun z => q ((iI_eq ha hb2).mpr z))) (fun q => kf ((iI_eq ha hb2).mp q))
theorem q_ilt (hexec : p.tables.exec = Jvm.exec) (hb : c.code = cc) {a : Int} {off : Int} {tgt : Nat} (d : decode cc pc = .ok (.ifCond .lt off, 3)) (ht : (pc : Int) + off = (tgt : Int)) (ha : -2147483648 ≤ a ∧ a < 2147483648) (kt : a < 0 → W p l e R s m args below meth c H locs cells slots Q (F0 m tgt ls rest)) (kf : 0 ≤ a → W p l e R s m args below meth c H locs cells slots Q (F0 m (pc + 3) ls rest)) : W p l e R s m args below meth c H locs cells slots Q (F0 m pc ls (.int (iI a) :: rest)) :=
  lv_if_lt hexec hb d ht (fun q => kt ((iI_lt ha (by decide)).mp q)) (fun q => kf (Int.not_lt.mp fun z => q ((iI_lt (b := 0) ha (by decide)).mpr z)))
theorem q_ige (hexec : p.tables.exec = Jvm.exec) (hb : c.code = cc) {a : Int} {off : Int} {tgt : Nat} (d : decode cc pc = .ok (.ifCond .ge off, 3)) (ht : (pc : Int) + off = (tgt : Int)) (ha : -2147483648 ≤ a ∧ a < 2147483648) (kt : 0 ≤ a → W p l e R s m args below meth c H locs cells slots Q (F0 m tgt ls rest)) (kf : a < 0 → W p l e R s m args below meth c H locs cells slots Q (F0 m (pc + 3) ls rest)) : W p l e R s m args below meth c H locs cells slots Q (F0 m pc ls (.int (iI a) :: rest)) :=
  lv_if_ge hexec hb d ht (fun q => kt ((iI_le (a := 0) (by decide) ha).mp q)) (fun q => kf (Int.not_le.mp fun z => q ((iI_le (a := 0) (by decide) ha).mpr z)))
theorem q_igt (hexec : p.tables.exec = Jvm.exec) (hb : c.code = cc) {a : Int} {off : Int} {tgt : Nat} (d : decode cc pc = .ok (.ifCond .gt off, 3)) (ht : (pc : Int) + off = (tgt : Int)) (ha : -2147483648 ≤ a ∧ a < 2147483648) (kt : 0 < a → W p l e R s m args below meth c H locs cells slots Q (F0 m tgt ls rest)) (kf : a ≤ 0 → W p l e R s m args below meth c H locs cells slots Q (F0 m (pc + 3) ls rest)) : W p l e R s m args below meth c H locs cells slots Q (F0 m pc ls (.int (iI a) :: rest)) :=
  lv_if_gt hexec hb d ht (fun q => kt ((iI_lt (a := 0) (by decide) ha).mp q)) (fun q => kf (Int.not_lt.mp fun z => q ((iI_lt (a := 0) (by decide) ha).mpr z)))
theorem q_ile (hexec : p.tables.exec = Jvm.exec) (hb : c.code = cc) {a : Int} {off : Int} {tgt : Nat} (d : decode cc pc = .ok (.ifCond .le off, 3)) (ht : (pc : Int) + off = (tgt : Int)) (ha : -2147483648 ≤ a ∧ a < 2147483648) (kt : a ≤ 0 → W p l e R s m args below meth c H locs cells slots Q (F0 m tgt ls rest)) (kf : 0 < a → W p l e R s m args below meth c H locs cells slots Q (F0 m (pc + 3) ls rest)) : W p l e R s m args below meth c H locs cells slots Q (F0 m pc ls (.int (iI a) :: rest)) :=
  lv_if_le hexec hb d ht (fun q => kt ((iI_le ha (by decide)).mp q)) (fun q => kf (Int.not_le.mp fun z => q ((iI_le (b := 0) ha (by decide)).mpr z)))
theorem q_ieq (hexec : p.tables.exec = Jvm.exec) (hb : c.code = cc) {a : Int} {off : Int} {tgt : Nat} (d : decode cc pc = .ok (.ifCond .eq off, 3)) (ht : (pc : Int) + off = (tgt : Int)) (ha : -2147483648 ≤ a ∧ a < 2147483648) (kt : a = 0 → W p l e R s m args below meth c H locs cells slots Q (F0 m tgt ls rest)) (kf : ¬ a = 0 → W p l e R s m args below meth c H locs cells slots Q (F0 m (pc + 3) ls rest)) : W p l e R s m args below meth c H locs cells slots Q (F0 m pc ls (.int (iI a) :: rest)) :=
  lv_if_eq hexec hb d ht (fun q => kt ((iI_eq ha (by decide)).mp q)) (fun q => kf (fun z => q ((iI_eq (b := 0) ha (by decide)).mpr z)))
theorem q_ine (hexec : p.tables.exec = Jvm.exec) (hb : c.code = cc) {a : Int} {off : Int} {tgt : Nat} (d : decode cc pc = .ok (.ifCond .ne off, 3)) (ht : (pc : Int) + off = (tgt : Int)) (ha : -2147483648 ≤ a ∧ a < 2147483648) (kt : ¬ a = 0 → W p l e R s m args below meth c H locs cells slots Q (F0 m tgt ls rest)) (kf : a = 0 → W p l e R s m args below meth c H locs cells slots Q (F0 m (pc + 3) ls rest)) : W p l e R s m args below meth c H locs cells slots Q (F0 m pc ls (.int (iI a) :: rest)) :=
  lv_if_ne hexec hb d ht (fun q => kt (fun z => q ((iI_eq (b := 0) ha (by decide)).mpr z))) (fun q => kf ((iI_eq ha (by decide)).mp q))
/-! the ends -/
variable {Rr : Option Value → Heap → Prop} {RX : String → Heap → Prop} {A : Nat → Prop} {mc ms : Nat}
theorem e_i (hexec : p.tables.exec = Jvm.exec) (hb : c.code = cc) (hr : meth.sig.returnType = some .int) (hlocks : meth.locks = false) {v : Int32} (hS : va_S A s.heap H locs) (d : decode cc pc = .ok (.ireturn, 1)) (hc : cells ≤ mc) (hs : slots ≤ ms) (hp : Rr (some (.int v)) H) : W p l e R s m args below meth c H locs cells slots (vx_MQ below (QH Rr A) (XH RX A) args s mc ms A) (F0 m pc ls [.int v]) :=
  W.widen hc hs (vx_ret (W.iret (v := v) hexec hb hr (fun t ht _ => ⟨⟨_, rfl, by rw [ht]; exact hp⟩, hS.F ht⟩) hS.2.2 d hlocks))
theorem e_z (hexec : p.tables.exec = Jvm.exec) (hb : c.code = cc) (hr : meth.sig.returnType = some .boolean) (hlocks : meth.locks = false) {v : Int} (h01 : v = 0 ∨ v = 1) (hS : va_S A s.heap H locs) (d : decode cc pc = .ok (.ireturn, 1)) (hc : cells ≤ mc) (hs : slots ≤ ms) (hp : Rr (some (.int (iI v))) H) : W p l e R s m args below meth c H locs cells slots (vx_MQ below (QH Rr A) (XH RX A) args s mc ms A) (F0 m pc ls [.int (iI v)]) :=
  W.widen hc hs (vx_ret (W.zret (v := iI v) hexec hb hr (narrow_01 h01) (fun t ht _ => ⟨⟨_, rfl, by rw [ht]; exact hp⟩, hS.F ht⟩) hS.2.2 d hlocks))
theorem e_v (hexec : p.tables.exec = Jvm.exec) (hb : c.code = cc) (hr : meth.sig.returnType = none) (hlocks : meth.locks = false) (hS : va_S A s.heap H locs) (d : decode cc pc = .ok (.return_, 1)) (hc : cells ≤ mc) (hs : slots ≤ ms) (hp : Rr none H) : W p l e R s m args below meth c H locs cells slots (vx_MQ below (QH Rr A) (XH RX A) args s mc ms A) (F0 m pc ls []) :=
  W.widen hc hs (vx_ret (W.vret hexec hb hr (fun t ht _ => ⟨⟨_, rfl, by rw [ht]; exact hp⟩, hS.F ht⟩) hS.2.2 d hlocks))
theorem e_l (hexec : p.tables.exec = Jvm.exec) (hb : c.code = cc) (hr : meth.sig.returnType = some .long) (hlocks : meth.locks = false) {v : Int64} (hS : va_S A s.heap H locs) (d : decode cc pc = .ok (.lreturn, 1)) (hc : cells ≤ mc) (hs : slots ≤ ms) (hp : Rr (some (.long v)) H) : W p l e R s m args below meth c H locs cells slots (vx_MQ below (QH Rr A) (XH RX A) args s mc ms A) (F0 m pc ls [.long v]) :=
  W.widen hc hs (vx_ret (W.lret (v := v) hexec hb hr (fun t ht _ => ⟨⟨_, rfl, by rw [ht]; exact hp⟩, hS.F ht⟩) hS.2.2 d hlocks))
theorem e_a (hexec : p.tables.exec = Jvm.exec) (hb : c.code = cc) {rt : FieldType} (hr : meth.sig.returnType = some rt) (hrt : (∃ n, rt = .object n) ∨ ∃ t, rt = .array t) (hlocks : meth.locks = false) {a : Nat} (hS : va_S A s.heap H locs) (d : decode cc pc = .ok (.areturn, 1)) (hc : cells ≤ mc) (hs : slots ≤ ms) (hp : Rr (some (.ref a)) H) : W p l e R s m args below meth c H locs cells slots (vx_MQ below (QH Rr A) (XH RX A) args s mc ms A) (F0 m pc ls [.ref a]) :=
  W.widen hc hs (vx_ret (W.aret (v := .ref a) hexec hb hr hrt (Or.inr ⟨a, rfl⟩) (fun t ht _ => ⟨⟨_, rfl, by rw [ht]; exact hp⟩, hS.F ht⟩) hS.2.2 d hlocks))
/-! the calls -/
variable {S0 : State} {A0 A1 : Nat → Prop} {H0 : Heap} {Qc : Array Value → State → Outcome → State → Prop} {st0 : List Value} {a : Array Value}
theorem c_go (hr : vx_Run p l e R s m args below meth c H locs cells slots mc ms (F0 m pc ls st0) rest (QH Rr A1 a) (XH RX A1) A1) (hS : va_S A0 H0 H locs) (hf : ∀ q, A1 q → A0 q)
    (kx : ∀ (E : String) (ce : Cell) (q9 : Addr) (H1 : Heap) (locs1 : List Loc), RX E H1 → H.size ≤ H1.size → (∀ q : Nat, q < H.size → ¬ A1 q → H1[q]? = H[q]?) → va_S A0 H0 H1 locs1 → H1[q9]? = some ce → ce.vm = .none → s.vm.findClass E = some ce.cls → vx_W p l e R s m args below meth c H1 locs1 (cells + mc) (slots + ms) Q (F0 m pc ls rest) q9)
    (kk : ∀ (v : Option Value) (H1 : Heap) (locs1 : List Loc), Rr v H1 → H.size ≤ H1.size → (∀ q : Nat, q < H.size → ¬ A1 q → H1[q]? = H[q]?) → va_S A0 H0 H1 locs1 → W p l e R s m args below meth c H1 locs1 (cells + mc) (slots + ms) Q (F0 m (pc + 3) ls (v.toList ++ rest))) : W p l e R s m args below meth c H locs cells slots Q (F0 m pc ls st0) := by
  intro T hT X
  rcases hr T hT X with ⟨v, st₀, t, T', L, h0, X', hL, e1, e2, ⟨⟨v', hv, hp⟩, hF⟩, st⟩ | ⟨q, st₀, t, T', L, E, ce, h0, X', hL, e1, e2, ⟨hp, hF⟩, hce, hcv, hcl, st⟩
  · cases hv
    obtain ⟨k1, k2, k3⟩ := vx_keep h0 e1 hS (fun q _ => hf q) hf hL hF
    obtain ⟨t2, a1, b1⟩ := kk v T'.heap (locs ++ L) (by rw [e1]; exact hp) k1 k2 k3 T' rfl X'
    exact ⟨t2, st t2 a1, b1⟩
  · obtain ⟨k1, k2, k3⟩ := vx_keep h0 e1 hS (fun q _ => hf q) hf hL hF
    obtain ⟨t2, a1, b1⟩ := kx E ce q T'.heap (locs ++ L) (by rw [e1]; exact hp) k1 k2 k3 (by rw [e1]; exact hce) hcv hcl T' rfl X'
    exact ⟨t2, st.trans a1, b1⟩
theorem cb_of {own : String} {idx n F L na : Nat} {y : MethodName} {cy : ByteArray} {rt : Option FieldType} (fx : FX p m c cc (c.maxLocals) s args own S0) (w1 : Cond.methodLink own idx y ∈ wG) (w3 : Cond.initialized y.cls ∈ wG) (w4 : Cond.code y cy n rt ∈ wG) (hd : y.cls ≠ "java/lang/invoke/MethodHandle" ∧ y.cls ≠ "java/lang/invoke/VarHandle" ∧ (parseMethodDescriptor y.desc).map (fun d => d.parameters.length) = some na) (hR : F + 1 ≤ R.frames ∧ 8 + (n + 11) + L ≤ R.locals) :
    CallB R s args own idx y cy n rt (.code y cy n rt :: wG) { frames := F, cells := mc, slots := ms, locals := L } mc ms na :=
  callB_of na fx.1.2.2.2.2 (wg_in (wg_ws w4)) rfl rfl rfl (fx.1.2.2.2.2 _ w3) (fx.1.2.2.2.2 _ w1) hd hR
/-- a static call -/
theorem c_S {own : String} {idx n nL F L na : Nat} {y : MethodName} {cy : ByteArray} {rt : Option FieldType} {As : List Value} {lv : List (Nat × Value)} (fx : FX p m c cc nL s args own S0) (hl : lv_has ls nL lv) (hM : CT l y cy n rt F L mc ms As S0 H Rr RX A1) (d : decode cc pc = .ok (.invokestatic idx, 3)) (w1 : Cond.methodLink own idx y ∈ wG) (w2 : Cond.static y ∈ wG) (w3 : Cond.initialized y.cls ∈ wG) (w4 : Cond.code y cy n rt ∈ wG) (hd : y.cls ≠ "java/lang/invoke/MethodHandle" ∧ y.cls ≠ "java/lang/invoke/VarHandle" ∧ (parseMethodDescriptor y.desc).map (fun d => d.parameters.length) = some na) (hn : As.length = na)
    (hR : F + 1 ≤ R.frames ∧ 8 + (n + 11) + L ≤ R.locals) (hW : (rest.map fun v => v.category).sum ≤ 8) (hcs : cells + mc ≤ R.cells ∧ slots + ms ≤ R.slots) (hS : va_S A0 H0 H locs) (hf : ∀ q, A1 q → A0 q)
    (kx : ∀ (E : String) (ce : Cell) (q9 : Addr) (H1 : Heap) (locs1 : List Loc), RX E H1 → H.size ≤ H1.size → (∀ q : Nat, q < H.size → ¬ A1 q → H1[q]? = H[q]?) → va_S A0 H0 H1 locs1 → H1[q9]? = some ce → ce.vm = .none → s.vm.findClass E = some ce.cls → vx_W p l e R s m args below meth c H1 locs1 (cells + mc) (slots + ms) Q (F0 m pc ls rest) q9)
    (kk : ∀ (v : Option Value) (H1 : Heap) (locs1 : List Loc), Rr v H1 → H.size ≤ H1.size → (∀ q : Nat, q < H.size → ¬ A1 q → H1[q]? = H[q]?) → va_S A0 H0 H1 locs1 → W p l e R s m args below meth c H1 locs1 (cells + mc) (slots + ms) Q (F0 m (pc + 3) ls (v.toList ++ rest))) : W p l e R s m args below meth c H locs cells slots Q (F0 m pc ls (As.reverse ++ rest)) := by
  obtain ⟨f1, f2⟩ := id fx
  have fx' : FX p m c cc c.maxLocals s args own S0 := by rw [f1.2.2.1]; exact fx
  exact c_go (vx_runS (As := As) (rest := rest) f1 hM ⟨cb_of fx' w1 w3 w4 hd hR, f1.2.2.2.2 _ w2⟩ ⟨ph_blind, fun U hU hW => ⟨rfl, hU, f2.trans hW⟩⟩ rfl hn hl.1 rfl (lv_room hW) d hcs) hS hf kx kk
/-- a call of an object's own method -/
theorem c_V {own C : String} {idx n nL F L b na : Nat} {y : MethodName} {cy : ByteArray} {rt : Option FieldType} {As : List Value} {lv : List (Nat × Value)} (fx : FX p m c cc nL s args own S0) (hl : lv_has ls nL lv) (hM : CT l y cy n rt F L mc ms (.ref b :: As) S0 H Rr RX A1) (hrec : ∃ cellB : Cell, H[b]? = some cellB ∧ cellB.vm.isStatics = false ∧ s.vm.findClass C = some cellB.cls) (d : decode cc pc = .ok (.invokevirtual idx, 3)) (w1 : Cond.methodLink own idx y ∈ wG) (w2 : Cond.instanceMethod y ∈ wG) (w5 : Cond.selects C y y ∈ wG) (w3 : Cond.initialized y.cls ∈ wG) (w4 : Cond.code y cy n rt ∈ wG) (hd : y.cls ≠ "java/lang/invoke/MethodHandle" ∧ y.cls ≠ "java/lang/invoke/VarHandle" ∧ (parseMethodDescriptor y.desc).map (fun d => d.parameters.length) = some na) (hn : As.length = na)
    (hR : F + 1 ≤ R.frames ∧ 8 + (n + 11) + L ≤ R.locals) (hW : (rest.map fun v => v.category).sum ≤ 8) (hcs : cells + mc ≤ R.cells ∧ slots + ms ≤ R.slots) (hS : va_S A0 H0 H locs) (hf : ∀ q, A1 q → A0 q)
    (kx : ∀ (E : String) (ce : Cell) (q9 : Addr) (H1 : Heap) (locs1 : List Loc), RX E H1 → H.size ≤ H1.size → (∀ q : Nat, q < H.size → ¬ A1 q → H1[q]? = H[q]?) → va_S A0 H0 H1 locs1 → H1[q9]? = some ce → ce.vm = .none → s.vm.findClass E = some ce.cls → vx_W p l e R s m args below meth c H1 locs1 (cells + mc) (slots + ms) Q (F0 m pc ls rest) q9)
    (kk : ∀ (v : Option Value) (H1 : Heap) (locs1 : List Loc), Rr v H1 → H.size ≤ H1.size → (∀ q : Nat, q < H.size → ¬ A1 q → H1[q]? = H[q]?) → va_S A0 H0 H1 locs1 → W p l e R s m args below meth c H1 locs1 (cells + mc) (slots + ms) Q (F0 m (pc + 3) ls (v.toList ++ rest))) : W p l e R s m args below meth c H locs cells slots Q (F0 m pc ls (As.reverse ++ .ref b :: rest)) := by
  obtain ⟨f1, f2⟩ := id fx
  have fx' : FX p m c cc c.maxLocals s args own S0 := by rw [f1.2.2.1]; exact fx
  exact c_go (vx_runV (As := As) (rest := rest) f1 hM ⟨cb_of fx' w1 w3 w4 hd hR, f1.2.2.2.2 _ w2, f1.2.2.2.2 _ w5⟩ ⟨ph_blind, hrec, fun U hU hW => ⟨rfl, hU, f2.trans hW⟩⟩ rfl hn hl.1 rfl (lv_room hW) d hcs) hS hf kx kk
/-- no throw comes of this one -/
theorem no_x {E : String} {ce : Cell} {q9 : Addr} {H1 : Heap} {locs1 : List Loc} {P1 P2 P3 P4 P5 P6 G : Prop} (h : False) : P1 → P2 → P3 → P4 → P5 → P6 → G := h.elim
/-- a loop that changes no heap: its states x, a number that falls -/
theorem w_loop {nL pc : Nat} {σ : Type} (μ : σ → Nat) (I : σ → Prop) (lvf : σ → List (Nat × Value))
    (step : ∀ x : σ, I x → (∀ (y : σ) (ls : Array Slot), I y → μ y < μ x → lv_has ls nL (lvf y) → W p l e R s m args below meth c H locs cells slots Q (F0 m pc ls [])) → ∀ ls : Array Slot, lv_has ls nL (lvf x) → W p l e R s m args below meth c H locs cells slots Q (F0 m pc ls []))
    (x : σ) (h : I x) {ls : Array Slot} (hl : lv_has ls nL (lvf x)) : W p l e R s m args below meth c H locs cells slots Q (F0 m pc ls []) := by
  have go : ∀ (n : Nat) (x : σ), μ x < n → I x → ∀ ls : Array Slot, lv_has ls nL (lvf x) → W p l e R s m args below meth c H locs cells slots Q (F0 m pc ls []) := by
    intro n
    induction n with
    | zero => intro x h; exact absurd h (Nat.not_lt_zero _)
    | succ n ih => intro x hn hI ls hl; exact step x hI (fun y ls' hy hlt hl' => ih y (by omega) hy ls' hl') ls hl
  exact go (μ x + 1) x (Nat.lt_succ_self _) h ls hl
end BW
/-- a method that reads and writes nothing: the heap stays, the answer is r -/
abbrev PM (l : Launch) (y : MethodName) (cy : ByteArray) (n : Nat) (ret : Option FieldType) (F L : Nat) (As : List Value) (r : Value) : Prop := ∀ (S0 : State) (H : Heap), CT l y cy n ret F L 0 0 As S0 H (fun v H1 => v = some r ∧ H1 = H) (fun _ _ => False) (fun _ => False)
