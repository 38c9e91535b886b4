/-! the law: both worlds side by side -/
def FA (u : Nat → Nat) (o x : Nat) : Prop := (∀ i : Nat, i < 7 → x ≠ u i) ∧ x ≠ o
def LX (u w : Nat → Nat) (o : Nat) : Prop := (∀ i : Nat, i < 7 → o ≠ u i) ∧ FA u o (w 0) ∧ FA u o (w 1) ∧ FA u o (w 2)
def LW (θ : TH) (S0 : State) (u w : Nat → Nat) (o : Nat) (H : Heap) (r q : Nat → Nat) (dt : Nat → Int) (sv : Nat → Nat → Int) (th bc rf kn nv : Int) (sv9 : Value) : Prop :=
  CWR θ S0 u H dt (fun j => sv j 0) (fun j => sv j 1) (fun j => sv j 2) bc rf kn ∧ MWR θ S0 w H r q dt sv th bc rf kn ∧ OB θ H o 8 [.long (lL nv), sv9] ∧ (∀ j : Nat, j < 6 → FA u o (r j)) ∧ ∀ j : Nat, j < 3 → FA u o (q j)
def LWE (θ : TH) (S0 : State) (u w : Nat → Nat) (o : Nat) (H : Heap) : Prop := ∃ (r q : Nat → Nat) (dt : Nat → Int) (sv : Nat → Nat → Int) (th bc rf kn nv : Int) (sv9 : Value), LW θ S0 u w o H r q dt sv th bc rf kn nv sv9
theorem MW.keptF {θ : TH} {w : Nat → Nat} {H H1 : Heap} {r q : Nat → Nat} {dt : Nat → Int} {sv : Nat → Nat → Int} {th dn rf kn : Int} (h : MW θ w H r q dt sv th dn rf kn) {P : Nat → Prop} (hw : P (w 0) ∧ P (w 1) ∧ P (w 2)) (hr : ∀ j : Nat, j < 6 → P (r j)) (hq : ∀ j : Nat, j < 3 → P (q j)) (hk : ∀ x : Nat, P x → x < H.size → H1[x]? = H[x]?) : MW θ w H1 r q dt sv th dn rf kn := by
  obtain ⟨h0, h1, h2, h3, h4⟩ := h
  exact ⟨h0.kept (hk _ hw.1 h0.lt), h1.kept (hk _ hw.2.1 h1.lt), h2.kept (hk _ hw.2.2 h2.lt), fun j hj => ⟨(h3 j hj).1.kept (hk _ (hr j hj) (h3 j hj).1.lt), (h3 j hj).2⟩, fun j hj => ⟨(h4 j hj).1.kept (hk _ (hq j hj) (h4 j hj).1.lt), (h4 j hj).2⟩⟩
section LW9
variable {θ : TH} {S0 : State} {u w : Nat → Nat} {o : Nat} {H H1 H2 : Heap} {r q r1 q1 : Nat → Nat} {dt dt1 : Nat → Int} {sv sv1 : Nat → Nat → Int} {th th1 bc bc1 rf rf1 kn kn1 nv nv1 : Int} {sv9 : Value}
/-- behind the class's part: the reference's world stands -/
theorem lw_cls (hLX : LX u w o) (h : LW θ S0 u w o H r q dt sv th bc rf kn nv sv9) (hz : SZ θ S0 H1) (hk : ∀ x : Nat, x < H.size → ¬ (UA u H.size x ∨ x = o) → H1[x]? = H[x]?) : MWR θ S0 w H1 r q dt sv th bc rf kn := by
  obtain ⟨hc, ⟨z, hu, hm, hd, hs⟩, ho, hr, hq⟩ := h
  have hP : ∀ x : Nat, FA u o x → x < H.size → H1[x]? = H[x]? := fun x hx hlt => hk x hlt (fun g => g.elim (fun g => g.elim (fun ⟨i, hi, e⟩ => hx.1 i hi e) (fun g => Nat.not_le.mpr hlt g)) hx.2)
  exact ⟨hz, hu, hm.keptF hLX.2 hr hq hP, hd, hs⟩
/-- behind the reference's part: both stand -/
theorem lw_mod (hLX : LX u w o) (hz : SZ θ S0 H2) (hu : UW θ u) (hc : CW θ u H1 dt1 (fun j => sv1 j 0) (fun j => sv1 j 1) (fun j => sv1 j 2) bc1 rf1 kn1) (ho : OB θ H1 o 8 [.long (lL nv1), sv9]) (hr : ∀ j : Nat, j < 6 → FA u o (r j)) (hq : ∀ j : Nat, j < 3 → FA u o (q j)) (hm : MWR θ S0 w H2 r1 q1 dt1 sv1 th1 bc1 rf1 kn1) (nr : NW 6 H1.size r r1) (nq : NW 3 H1.size q q1) (hk : ∀ x : Nat, x < H1.size → ¬ WA w H1.size x → H2[x]? = H1[x]?) : LW θ S0 u w o H2 r1 q1 dt1 sv1 th1 bc1 rf1 kn1 nv1 sv9 := by
  obtain ⟨hou, f0, f1, f2⟩ := hLX
  have hku : ∀ i : Nat, i < 7 → H2[u i]? = H1[u i]? := fun i hi => hk _ (hc.lt i hi) (fun g => g.elim (fun g => g.elim (fun e => f0.1 i hi e.symm) (fun g => g.elim (fun e => f1.1 i hi e.symm) (fun e => f2.1 i hi e.symm))) (fun g => Nat.not_le.mpr (hc.lt i hi) g))
  have hko : H2[o]? = H1[o]? := hk _ ho.lt (fun g => g.elim (fun g => g.elim (fun e => f0.2 e.symm) (fun g => g.elim (fun e => f1.2 e.symm) (fun e => f2.2 e.symm))) (fun g => Nat.not_le.mpr ho.lt g))
  have hnew : ∀ x : Nat, H1.size ≤ x → FA u o x := fun x hx => ⟨fun i hi e => Nat.not_le.mpr (hc.lt i hi) (e ▸ hx), fun e => Nat.not_le.mpr ho.lt (e ▸ hx)⟩
  obtain ⟨z9, u9, m9, hd9, hs9⟩ := id hm
  exact ⟨⟨hz, hu, hc.kept hku, hd9, fun j hj => hs9 j hj⟩, hm, ho.kept hko, fun j hj => (nr j hj).elim (fun ⟨i, hi, e⟩ => by rw [e]; exact hr i hi) (hnew _), fun j hj => (nq j hj).elim (fun ⟨i, hi, e⟩ => by rw [e]; exact hq i hi) (hnew _)⟩
end LW9
theorem up_tri0 (sv : Nat → Nat → Int) (k : Nat) (x y z : Int) : up (fun j => sv j 0) k x = fun j => up sv k (tri x y z) j 0 := funext fun j => by
  by_cases e : j = k
  · subst e
    show up (fun j => sv j 0) j x j = up sv j (tri x y z) j 0
    rw [up_s, up_s, tri_0]
  · show up (fun j => sv j 0) k x j = up sv k (tri x y z) j 0
    rw [up_n _ _ e, up_n _ _ e]
theorem up_tri1 (sv : Nat → Nat → Int) (k : Nat) (x y z : Int) : up (fun j => sv j 1) k y = fun j => up sv k (tri x y z) j 1 := funext fun j => by
  by_cases e : j = k
  · subst e
    show up (fun j => sv j 1) j y j = up sv j (tri x y z) j 1
    rw [up_s, up_s, tri_1]
  · show up (fun j => sv j 1) k y j = up sv k (tri x y z) j 1
    rw [up_n _ _ e, up_n _ _ e]
theorem up_tri2 (sv : Nat → Nat → Int) (k : Nat) (x y z : Int) : up (fun j => sv j 2) k z = fun j => up sv k (tri x y z) j 2 := funext fun j => by
  by_cases e : j = k
  · subst e
    show up (fun j => sv j 2) j z j = up sv j (tri x y z) j 2
    rw [up_s, up_s, tri_2]
  · show up (fun j => sv j 2) k z j = up sv k (tri x y z) j 2
    rw [up_n _ _ e, up_n _ _ e]
section LAW
variable {p : Program} {l : Launch} {e : Env} {R : Room} {s : State} {m : MethodId} {args : Array Value} {below : List Frame} {meth : Method} {c : Code} {H : Heap} {locs : List Loc} {cells slots : Nat} {Q : State → Prop} {cc : ByteArray} {pc : Nat} {ls : Array Slot} {rest : List Value} {θ : TH} {A A0 A1 : Nat → Prop} {H0 : Heap} {S0 : State} {mc ms : Nat}
/-- the script is read -/
theorem r_xld (hexec : p.tables.exec = Jvm.exec) (hb : c.code = cc) {b L : Nat} {xs : Nat → Int32} (hX : va_X b L xs s H0) (hbl : b < H0.size) (hbA : ¬ A b) (hS : va_S A H0 H locs) {i z : Int} (hi : 0 ≤ i ∧ i < (L : Int)) (hL : L ≤ 2560) (hz : z = (xs i.toNat).toInt) (d : decode cc pc = .ok (.iaload, 1))
    (kk : W p l e R s m args below meth c H locs cells slots Q (F0 m (pc + 1) ls (.int (iI z) :: rest))) : W p l e R s m args below meth c H locs cells slots Q (F0 m pc ls (.int (iI i) :: .ref b :: rest)) := by
  subst hz
  rw [iI_of] at kk
  exact va_sld hexec hb hX hbl hbA hS (vp_in_I hi (by omega)) d (by rw [iI_nn (by omega)]; exact kk)
theorem q_a63 (hexec : p.tables.exec = Jvm.exec) (hb : c.code = cc) {a : Int} (d : decode cc pc = .ok (.iand, 1)) (k : ∀ z : Int, 0 ≤ z ∧ z < 64 → W p l e R s m args below meth c H locs cells slots Q (F0 m (pc + 1) ls (.int (iI z) :: rest))) : W p l e R s m args below meth c H locs cells slots Q (F0 m pc ls (.int (iI 63) :: .int (iI a) :: rest)) := by
  obtain ⟨j, hj, e⟩ := pk_andE (iI a) (m := iI 63) 6 (by decide)
  refine lv_iand hexec hb d ?_
  rw [e, show nI j = iI (j : Int) by unfold iI nI; rw [← Int32.ofInt_eq_ofNat]]
  exact k j ⟨by omega, by omega⟩
theorem q_cme (hexec : p.tables.exec = Jvm.exec) (hb : c.code = cc) {a : Int} {off : Int} {tgt : Nat} (d : decode cc pc = .ok (.if_icmp .eq off, 3)) (ht : (pc : Int) + off = (tgt : Int)) (kt : W p l e R s m args below meth c H locs cells slots Q (F0 m tgt ls rest)) : W p l e R s m args below meth c H locs cells slots Q (F0 m pc ls (.int (iI a) :: .int (iI a) :: rest)) := lv_icmp_eq hexec hb d ht (fun _ => kt) (fun z => absurd rfl z)
/-- a call of one of the law's methods, its answer known -/
theorem c_SWr {own : String} {idx n nL F L na : Nat} {hh : List (Nat × Nat × Nat × Nat)} {y : MethodName} {cy : ByteArray} {rt : Option FieldType} {As : List Value} {r : Value} {P : Heap → Prop} {lv : List (Nat × Value)} (fx : FX p m c cc nL s args own S0) (hl : lv_has ls nL lv) (hM : CTW l y cy n rt hh F L mc ms As S0 H (fun v H1 => v = some r ∧ P H1) A1) (d : decode cc pc = .ok (.invokestatic idx, 3)) (w1 : Cond.methodLink own idx y ∈ wG) (w2 : Cond.static y ∈ wG) (w3 : Cond.initialized y.cls ∈ wG) (w4 : Cond.codeWith y cy n rt hh ∈ wG) (hd : y.cls ≠ "java/lang/invoke/MethodHandle" ∧ y.cls ≠ "java/lang/invoke/VarHandle" ∧ (parseMethodDescriptor y.desc).map (fun d => d.parameters.length) = some na) (hn : As.length = na)
    (hR : F + 1 ≤ R.frames ∧ 8 + (n + 11) + L ≤ R.locals) (hW : (rest.map fun v => v.category).sum ≤ 8) (hcs : cells + mc ≤ R.cells ∧ slots + ms ≤ R.slots) (hS : va_S A0 H0 H locs) (hf : ∀ q, A1 q → A0 q)
    (kk : ∀ (H1 : Heap) (locs1 : List Loc), P H1 → H.size ≤ H1.size → (∀ q : Nat, q < H.size → ¬ A1 q → H1[q]? = H[q]?) → va_S A0 H0 H1 locs1 → W p l e R s m args below meth c H1 locs1 (cells + mc) (slots + ms) Q (F0 m (pc + 3) ls (r :: rest))) : W p l e R s m args below meth c H locs cells slots Q (F0 m pc ls (As.reverse ++ rest)) :=
  c_SW (As := As) (rest := rest) fx hl hM d w1 w2 w3 w4 hd hn hR hW hcs hS hf (fun v H1 locs1 hv hz hk hS1 => by obtain ⟨rfl, hp⟩ := hv; exact kk H1 locs1 hp hz hk hS1)
/-- an own method that answers a text of which nothing more is said -/
theorem c_XP {own C : String} {idx n nL F L b na : Nat} {y : MethodName} {cy : ByteArray} {rt : Option FieldType} {As : List Value} {P : Heap → Prop} {G : Nat → Nat → Nat → Heap → Prop} {lv : List (Nat × Value)} (fx : FX p m c cc nL s args own S0) (hl : lv_has ls nL lv) (hM : CT l y cy n rt F L mc ms (.ref b :: As) S0 H (fun v H1 => (∃ x y ln : Nat, v = some (.ref x) ∧ G x y ln H1) ∧ P H1) (fun _ _ => False) A1) (hrec : ∃ cellB : Cell, H[b]? = some cellB ∧ cellB.vm.isStatics = false ∧ s.vm.findClass C = some cellB.cls) (d : decode cc pc = .ok (.invokevirtual idx, 3)) (w1 : Cond.methodLink own idx y ∈ wG) (w2 : Cond.instanceMethod y ∈ wG) (w5 : Cond.selects C y y ∈ wG) (w3 : Cond.initialized y.cls ∈ wG) (w4 : Cond.code y cy n rt ∈ wG) (hd : y.cls ≠ "java/lang/invoke/MethodHandle" ∧ y.cls ≠ "java/lang/invoke/VarHandle" ∧ (parseMethodDescriptor y.desc).map (fun d => d.parameters.length) = some na) (hn : As.length = na)
    (hR : F + 1 ≤ R.frames ∧ 8 + (n + 11) + L ≤ R.locals) (hW : (rest.map fun v => v.category).sum ≤ 8) (hcs : cells + mc ≤ R.cells ∧ slots + ms ≤ R.slots) (hS : va_S A0 H0 H locs) (hf : ∀ q, A1 q → A0 q)
    (kk : ∀ (x : Nat) (H1 : Heap) (locs1 : List Loc), P H1 → H.size ≤ H1.size → (∀ q : Nat, q < H.size → ¬ A1 q → H1[q]? = H[q]?) → va_S A0 H0 H1 locs1 → W p l e R s m args below meth c H1 locs1 (cells + mc) (slots + ms) Q (F0 m (pc + 3) ls (.ref x :: rest))) : W p l e R s m args below meth c H locs cells slots Q (F0 m pc ls (As.reverse ++ .ref b :: rest)) :=
  c_V (As := As) (rest := rest) fx hl hM hrec d w1 w2 w5 w3 w4 hd hn hR hW hcs hS hf (fun _ _ _ _ _ h => h.elim) (fun v H1 locs1 hv hz hk hS1 => by obtain ⟨⟨x, y, ln, rfl, -⟩, hp⟩ := hv; exact kk x H1 locs1 hp hz hk hS1)
end LAW
/-- what the law goes on with behind a step -/
abbrev LK (p : Program) (l : Launch) (e : Env) (R : Room) (s : State) (m : MethodId) (args : Array Value) (below : List Frame) (meth : Method) (c : Code) (Q : State → Prop) (θ : TH) (S0 : State) (u w : Nat → Nat) (o b : Nat) (i : Int) (cells slots pc : Nat) : Prop :=
  ∀ (H1 : Heap) (locs1 : List Loc) (c1 s1 : Nat) (ls1 : Array Slot), LWE θ S0 u w o H1 → va_S (AJ θ) s.heap H1 locs1 → c1 ≤ cells + 400 → s1 ≤ slots + 7000 → lv_has ls1 7 [(4, .int (iI i)), (3, .ref o), (2, .ref (w 0)), (1, .ref (u 0)), (0, .ref b)] → W p l e R s m args below meth c H1 locs1 c1 s1 Q (F0 m pc ls1 [])
theorem x32_b {z : Int} {x : Int32} (h : z = x.toInt) : -2147483648 ≤ z ∧ z < 2147483648 := by
  have h1 := Int32.le_toInt x
  have h2 := Int32.toInt_lt x
  omega
