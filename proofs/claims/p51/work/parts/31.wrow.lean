/-! the law's own methods: they call the class and catch what it throws -/
theorem tab_split {L : List ExceptionTableEntry} {hh : List (Nat × Nat × Nat × Nat)} (htab : L.map (fun h => (h.startPc, h.endPc, h.handlerPc, h.catchType)) = hh) {k : Nat} {q : Nat × Nat × Nat × Nat} (hk : hh[k]? = some q) :
    ∃ x : ExceptionTableEntry, L = L.take k ++ x :: L.drop (k + 1) ∧ (x.startPc, x.endPc, x.handlerPc, x.catchType) = q ∧ ∀ z ∈ L.take k, (z.startPc, z.endPc, z.handlerPc, z.catchType) ∈ hh.take k := by
  subst htab
  rw [List.getElem?_map] at hk
  obtain ⟨x, hx, rfl⟩ := Option.map_eq_some_iff.mp hk
  obtain ⟨hlt, hx2⟩ := List.getElem?_eq_some_iff.mp hx
  refine ⟨x, ?_, rfl, fun z hz => ?_⟩
  · have h1 := List.take_append_drop k L
    rw [List.drop_eq_getElem_cons hlt, hx2] at h1
    exact h1.symm
  · rw [← List.map_take]
    exact List.mem_map.mpr ⟨z, hz, rfl⟩
/-- of the classes: what the catches pass by -/
def NX (S0 : State) : Prop := (va_Nc "java/lang/IllegalArgumentException" "java/lang/IndexOutOfBoundsException" S0 ∧ va_Nc "java/lang/IllegalStateException" "java/lang/IndexOutOfBoundsException" S0 ∧ va_Nc "java/lang/IllegalStateException" "java/lang/IllegalArgumentException" S0) ∧ va_Nw (.fieldLinkNest "CalendaractLaw" 13 "CalendaractLaw$Out" "n" "J" "CalendaractLaw") S0 ∧ va_Nw (.fieldLinkNest "CalendaractLaw" 103 "CalendaractLaw$Out" "s" "Ljava/lang/String;" "CalendaractLaw") S0
/-- a method of the law's that returns -/
def CTW (l : Launch) (y : MethodName) (cy : ByteArray) (n : Nat) (ret : Option FieldType) (hh : List (Nat × Nat × Nat × Nat)) (F L mc ms : Nat) (As : List Value) (S0 : State) (H : Heap) (Rr : Option Value → Heap → Prop) (A : Nat → Prop) : Prop :=
  vx_Met l y (.codeWith y cy n ret hh :: wG) { frames := F, cells := mc, slots := ms, locals := L } (va_Pc As (PH S0 H)) (QH Rr A) (XH (fun _ _ => False) A) mc ms A
theorem ctw_of {l : Launch} {y : MethodName} {cy : ByteArray} {n : Nat} {ret : Option FieldType} {hh : List (Nat × Nat × Nat × Nat)} {F L mc ms : Nat} {As : List Value} {S0 : State} {H : Heap} {Rr : Option Value → Heap → Prop} {A : Nat → Prop}
    (hy : plainName y.cls = true) (hn : (lg_sl As).length ≤ n)
    (body : ∀ (p : Program) (e : Env) (s : State) (m : MethodId) (args : Array Value) (below : List Frame) (meth : Method) (c : Code) (ls : Array Slot), FX p m c cy n s args y.cls S0 → s.heap = H → meth.sig.returnType = ret → meth.locks = false → c.exceptionTable.toList.map (fun h => (h.startPc, h.endPc, h.handlerPc, h.catchType)) = hh → lv_has ls n (lv_args 0 As) →
      W p l e { frames := F, cells := mc, slots := ms, locals := L } s m args below meth c H [] 0 0 (vx_MQ below (QH Rr A) (XH (fun _ _ => False) A) args s mc ms A) (F0 m 0 ls [])) : CTW l y cy n ret hh F L mc ms As S0 H Rr A := by
  refine vx_ofWH (cc := cy) (maxL := n) (ret := ret) (hh := hh) hy rfl ?_
  intro p e s m args below meth c s₁ B hml hv
  obtain ⟨rfl, hH, hW⟩ := hv
  have hts : ∀ w ∈ (Cond.codeWith y cy n ret hh :: wG), w.before As.toArray s = true := atoms_spec (ws := .codeWith y cy n ret hh :: wG) B.pre
  obtain ⟨m9, meth9, c9, h0, h1, h2, -, -, h5, -⟩ := Cond.codeWith_spec (hts _ List.mem_cons_self)
  cases B.named.symm.trans h0
  cases Option.some.inj (h1.symm.trans B.method)
  cases Option.some.inj (h2.symm.trans (Stand.of_body B).code)
  have k := body p e s m As.toArray below meth c _ ⟨⟨B.exec, B.bytes, hml, findClass_of_methodNamed B.named, fun w h => hts w (List.mem_cons_of_mem _ h)⟩, hW⟩ hH B.returns B.notSynchronized h5 (lv_entry As hn)
  rw [lg_entry_eq, hH]
  exact k
section WR
variable {p : Program} {l : Launch} {e : Env} {R : Room} {s : State} {m : MethodId} {args : Array Value} {below : List Frame} {meth : Method} {c : Code} {H : Heap} {locs : List Loc} {cells slots : Nat} {Q : State → Prop} {cc : ByteArray} {pc : Nat} {ls : Array Slot} {rest : List Value} {θ : TH} {A A0 A1 : Nat → Prop} {H0 : Heap} {S0 : State} {mc ms : Nat}
/-- an own method that throws, caught here -/
theorem c_VT {own C E name : String} {idx n nL F L b na k a0 a1 hpc ct : Nat} {hh : List (Nat × Nat × Nat × Nat)} {y : MethodName} {cy : ByteArray} {rt : Option FieldType} {As : List Value} {lv : List (Nat × Value)} (fx : FX p m c cc nL s args own S0) (hl : lv_has ls nL lv) (hM : CT l y cy n rt F L mc ms (.ref b :: As) S0 H (fun _ _ => False) (fun E1 H1 => E1 = E ∧ H.size ≤ H1.size ∧ ∀ q : Nat, q < H.size → H1[q]? = H[q]?) A1) (hrec : ∃ cellB : Cell, H[b]? = some cellB ∧ cellB.vm.isStatics = false ∧ s.vm.findClass C = some cellB.cls) (d : decode cc pc = .ok (.invokevirtual idx, 3)) (w1 : Cond.methodLink own idx y ∈ wG) (w2 : Cond.instanceMethod y ∈ wG) (w5 : Cond.selects C y y ∈ wG) (w3 : Cond.initialized y.cls ∈ wG) (w4 : Cond.code y cy n rt ∈ wG) (hd : y.cls ≠ "java/lang/invoke/MethodHandle" ∧ y.cls ≠ "java/lang/invoke/VarHandle" ∧ (parseMethodDescriptor y.desc).map (fun d => d.parameters.length) = some na) (hn : As.length = na)
    (hR : F + 1 ≤ R.frames ∧ 8 + (n + 11) + L ≤ R.locals) (hW : (rest.map fun v => v.category).sum ≤ 8) (hcs : cells + mc ≤ R.cells ∧ slots + ms ≤ R.slots) (hS : va_S A0 H0 H locs) (hf : ∀ q, A1 q → A0 q)
    (htab : c.exceptionTable.toList.map (fun h => (h.startPc, h.endPc, h.handlerPc, h.catchType)) = hh) (hk : hh[k]? = some (a0, a1, hpc, ct)) (hcov : a0 ≤ pc ∧ pc < a1) (h0 : ct ≠ 0) (wl : Cond.classLink own ct name ∈ wG) (hcast : (Cond.castable E name).before args s = true) (hpass : ∀ q ∈ hh.take k, q.2.2.2 ≠ 0 ∧ ∃ nm : String, Cond.classLink own q.2.2.2 nm ∈ wG ∧ va_Nc E nm S0)
    (kk : ∀ (q9 : Nat) (H1 : Heap) (locs1 : List Loc), H.size ≤ H1.size → (∀ q : Nat, q < H.size → H1[q]? = H[q]?) → va_S A0 H0 H1 locs1 → W p l e R s m args below meth c H1 locs1 (cells + mc) (slots + ms) Q (F0 m hpc ls [.ref q9])) : W p l e R s m args below meth c H locs cells slots Q (F0 m pc ls (As.reverse ++ .ref b :: rest)) := by
  refine c_V (As := As) (rest := rest) fx hl hM hrec d w1 w2 w5 w3 w4 hd hn hR hW hcs hS hf (fun E1 ce q9 H1 locs1 hx hz hk1 hS1 hce hcv hcl => ?_) (fun v H1 locs1 hv => hv.elim)
  obtain ⟨rfl, g1, g2⟩ := hx
  obtain ⟨x, hsp, hfx, hpre⟩ := tab_split htab hk
  simp only [Prod.mk.injEq] at hfx
  obtain ⟨e1, e2, e3, e4⟩ := hfx
  obtain ⟨⟨fx1, fx2, fx3, fx4, fx5⟩, f2⟩ := id fx
  refine vx_catch (name := name) fx4 _ x _ hsp (fun z hz9 => Or.inr ?_) (by show (decide (x.startPc ≤ pc) && decide (pc < x.endPc)) = true; rw [e1, e2]; simp [hcov.1, hcov.2]) (by rw [e4]; exact h0) (by rw [e4]; exact fx5 _ wl) hcast hce hcv hcl (by rw [e3]; exact kk q9 H1 locs1 g1 g2 hS1)
  obtain ⟨p1, nm, p2, p3⟩ := hpass _ (hpre z hz9)
  exact ⟨p1, nm, fx5 _ p2, va_Nc.moved f2.alike p3⟩
/-- an own method that answers an int of which nothing is said -/
theorem c_IP {own C : String} {idx n nL F L b na : Nat} {y : MethodName} {cy : ByteArray} {rt : Option FieldType} {As : List Value} {P : Heap → Prop} {lv : List (Nat × Value)} (fx : FX p m c cc nL s args own S0) (hl : lv_has ls nL lv) (hM : CT l y cy n rt F L mc ms (.ref b :: As) S0 H (fun v H1 => (∃ z : Int, v = some (.int (iI z))) ∧ P H1) (fun _ _ => False) A1) (hrec : ∃ cellB : Cell, H[b]? = some cellB ∧ cellB.vm.isStatics = false ∧ s.vm.findClass C = some cellB.cls) (d : decode cc pc = .ok (.invokevirtual idx, 3)) (w1 : Cond.methodLink own idx y ∈ wG) (w2 : Cond.instanceMethod y ∈ wG) (w5 : Cond.selects C y y ∈ wG) (w3 : Cond.initialized y.cls ∈ wG) (w4 : Cond.code y cy n rt ∈ wG) (hd : y.cls ≠ "java/lang/invoke/MethodHandle" ∧ y.cls ≠ "java/lang/invoke/VarHandle" ∧ (parseMethodDescriptor y.desc).map (fun d => d.parameters.length) = some na) (hn : As.length = na)
    (hR : F + 1 ≤ R.frames ∧ 8 + (n + 11) + L ≤ R.locals) (hW : (rest.map fun v => v.category).sum ≤ 8) (hcs : cells + mc ≤ R.cells ∧ slots + ms ≤ R.slots) (hS : va_S A0 H0 H locs) (hf : ∀ q, A1 q → A0 q)
    (kk : ∀ (z : Int) (H1 : Heap) (locs1 : List Loc), P H1 → H.size ≤ H1.size → (∀ q : Nat, q < H.size → ¬ A1 q → H1[q]? = H[q]?) → va_S A0 H0 H1 locs1 → W p l e R s m args below meth c H1 locs1 (cells + mc) (slots + ms) Q (F0 m (pc + 3) ls (.int (iI z) :: rest))) : W p l e R s m args below meth c H locs cells slots Q (F0 m pc ls (As.reverse ++ .ref b :: rest)) :=
  c_V (As := As) (rest := rest) fx hl hM hrec d w1 w2 w5 w3 w4 hd hn hR hW hcs hS hf (fun _ _ _ _ _ h => h.elim) (fun v H1 locs1 hv hz hk hS1 => by obtain ⟨⟨z, rfl⟩, hp⟩ := hv; exact kk z H1 locs1 hp hz hk hS1)
/-- a call of one of the law's methods -/
theorem c_SW {own : String} {idx n nL F L na : Nat} {hh : List (Nat × Nat × Nat × Nat)} {y : MethodName} {cy : ByteArray} {rt : Option FieldType} {As : List Value} {Rr : Option Value → Heap → Prop} {lv : List (Nat × Value)} (fx : FX p m c cc nL s args own S0) (hl : lv_has ls nL lv) (hM : CTW l y cy n rt hh F L mc ms As S0 H Rr A1) (d : decode cc pc = .ok (.invokestatic idx, 3)) (w1 : Cond.methodLink own idx y ∈ wG) (w2 : Cond.static y ∈ wG) (w3 : Cond.initialized y.cls ∈ wG) (w4 : Cond.codeWith y cy n rt hh ∈ wG) (hd : y.cls ≠ "java/lang/invoke/MethodHandle" ∧ y.cls ≠ "java/lang/invoke/VarHandle" ∧ (parseMethodDescriptor y.desc).map (fun d => d.parameters.length) = some na) (hn : As.length = na)
    (hR : F + 1 ≤ R.frames ∧ 8 + (n + 11) + L ≤ R.locals) (hW : (rest.map fun v => v.category).sum ≤ 8) (hcs : cells + mc ≤ R.cells ∧ slots + ms ≤ R.slots) (hS : va_S A0 H0 H locs) (hf : ∀ q, A1 q → A0 q)
    (kk : ∀ (v : Option Value) (H1 : Heap) (locs1 : List Loc), Rr v H1 → H.size ≤ H1.size → (∀ q : Nat, q < H.size → ¬ A1 q → H1[q]? = H[q]?) → va_S A0 H0 H1 locs1 → W p l e R s m args below meth c H1 locs1 (cells + mc) (slots + ms) Q (F0 m (pc + 3) ls (v.toList ++ rest))) : W p l e R s m args below meth c H locs cells slots Q (F0 m pc ls (As.reverse ++ rest)) := by
  obtain ⟨f1, f2⟩ := id fx
  have hg : ∀ w ∈ va_wsS own idx y (.codeWith y cy n rt hh :: wG), w ∈ wG := by
    show ∀ w ∈ ([.methodLink own idx y, .static y, .initialized y.cls] : List Cond) ++ (.codeWith y cy n rt hh :: wG), w ∈ wG
    exact List.forall_mem_append.mpr ⟨List.forall_mem_cons.mpr ⟨w1, List.forall_mem_cons.mpr ⟨w2, List.forall_mem_cons.mpr ⟨w3, fun _ h => absurd h List.not_mem_nil⟩⟩⟩, fun w hw => (List.mem_cons.mp hw).elim (fun q => q ▸ w4) id⟩
  exact c_go (vx_runSX (As := As) (rest := rest) f1 hM (vx_cwSW na f1.2.2.2.2 (wg_in hg) rfl rfl rfl hd hR) ⟨ph_blind, fun U hU hW => ⟨rfl, hU, f2.trans hW⟩⟩ rfl hn hl.1 rfl (lv_room hW) d hcs) hS hf (fun _ _ _ _ _ h => h.elim) kk
/-- an int, as it is, to a long -/
theorem q_i2lx (hexec : p.tables.exec = Jvm.exec) (hb : c.code = cc) {a : Int} (d : decode cc pc = .ok (.i2l, 1)) (k : W p l e R s m args below meth c H locs cells slots Q (F0 m (pc + 1) ls (.long (lL (iI a).toInt) :: rest))) : W p l e R s m args below meth c H locs cells slots Q (F0 m pc ls (.int (iI a) :: rest)) := by
  have h1 := Int32.le_toInt (iI a)
  have h2 := Int32.toInt_lt (iI a)
  have h3 := q_i2l (a := (iI a).toInt) hexec hb d ⟨by omega, by omega⟩ k
  rw [iI_of] at h3
  exact h3
/-- a private field of a nest mate is written -/
theorem r_putN (hexec : p.tables.exec = Jvm.exec) (hb : c.code = cc) {own ref C host : String} {T : u_T} {N ci index a : Nat} {fs : List Value} (hts : ∀ w ∈ wG, w.before args s = true) (hin : ∀ w ∈ u_ws C T N, w ∈ wG) (ty0 : Nat → FieldType) (hty : ∀ k, k < N → parseFieldDescriptor (T k).2.2.1 = some (ty0 k)) (hnm : ∀ a, a < N → ∀ b, b < N → a ≠ b → (T a).2.1 ≠ (T b).2.1) (hown : s.vm.findClass own = some m.cls) (hK : va_K θ.1 vwCl (tyS θ) s) (ho : OB θ H a ci fs) (haA : A a) (hS0 : va_S A H0 H locs) (hc : vwCl[ci]? = some (C, T, N)) (k : Nat) (hk : k < N) (hlink : (Cond.fieldLinkNest own index ref (T k).2.1 (T k).2.2.1 host).before args s = true) (hsame : ∀ x, s.fieldFound? (T k).1 (T k).2.1 (T k).2.2.1 = some x → s.fieldFound? ref (T k).2.1 (T k).2.2.1 = some x) (hfin : (T k).2.2.2 = false) {ty : FieldType} {v : Value} (hd : parseFieldDescriptor (T k).2.2.1 = some ty) (hn : narrow ty v = v) (hfit : fits ty v = true) (hl : k < fs.length)
    (hdg : decode cc pc = .ok (.putfield index, 3)) (kk : ∀ (H1 : Heap) (locs1 : List Loc), OB θ H1 a ci (fs.set k v) → H1.size = H.size → (∀ q : Nat, q ≠ a → H1[q]? = H[q]?) → va_S A H0 H1 locs1 → W p l e R s m args below meth c H1 locs1 cells slots Q (F0 m (pc + 3) ls rest)) : W p l e R s m args below meth c H locs cells slots Q (F0 m pc ls (v :: .ref a :: rest)) := by
  have hap := va_apart (own := own) hts hin ty0 hty hnm hK hc
  obtain ⟨r, h1, cell, q1, q2, q3, q4⟩ := ho
  have hr : r = (C, T, N) := Option.some.inj (h1.symm.trans hc)
  subst hr
  obtain ⟨hS, hfc, kC, hkC, hkind⟩ := hK.1 ci _ hc
  obtain ⟨cf, kf, fi, f, hi, hsl⟩ := hS k hk
  have hlay := hts _ (hin _ (u_in_lay hk))
  unfold u_lay at hlay
  rw [if_neg (by rw [hfin]; decide)] at hlay
  have hst := (u_facts hfc hkC (u_lays hts hin hk) hi).1
  have h6 := u_store hfc hkC hkind hlay hi hd hn hfit
  refine va_WputK hexec hb (f := f) hown hlink (hsame _ hi) hst (by rw [q2]; exact h6) q1 q3 (by rw [hsl]; exact k2_hasslot (q4 k hk)) rfl rfl hdg fun H' e1 e2 e3 => ?_
  rw [hsl] at e1 ⊢
  exact kk H' _ ⟨_, hc, t_OB.to (V := updV (vp_V fs) k v) ⟨_, e1, q2, q3, t_set q4 hap hk v⟩ (fun j _ => vp_updV_set hl v j)⟩ e2 e3 (hS0.put e2 e3 haA)
end WR
