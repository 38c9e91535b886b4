/-! the JDK's own methods: other kinds of call, bytes, texts, lists' rows; what they ask of the tables and the statics -/
/-- bytes at a: n places, of whatever fits -/
def BY (θ : TH) (H : Heap) (a n : Nat) : Prop := ∃ f : Nat → Int32, AB θ H a n f ∧ sb_Fit f
theorem BY.kept {θ : TH} {H H1 : Heap} {a n : Nat} (h : BY θ H a n) (hq : H1[a]? = H[a]?) : BY θ H1 a n := h.elim fun f q => ⟨f, q.1.kept hq, q.2⟩
theorem BY.lt {θ : TH} {H : Heap} {a n : Nat} (h : BY θ H a n) : a < H.size := h.elim fun _ q => q.1.lt
theorem SB.split {θ : TH} {H : Heap} {a b n : Nat} {cnt : Int} (h : SB θ H a b n cnt) : ∃ ml : Int, OB θ H a 1 [.ref b, .int (iI 0), .int (iI ml), .int (iI cnt)] ∧ BY θ H b n ∧ 0 ≤ cnt ∧ cnt ≤ (n : Int) := by
  obtain ⟨ml, f, p, q, r, t⟩ := h
  exact ⟨ml.toInt, by rw [iI_of]; exact p, ⟨f, q, r⟩, t⟩
theorem mk_sb {θ : TH} {H : Heap} {a b n : Nat} {ml cnt : Int} (h : OB θ H a 1 [.ref b, .int (iI 0), .int (iI ml), .int (iI cnt)]) (hb : BY θ H b n) (hc : 0 ≤ cnt ∧ cnt ≤ (n : Int)) : SB θ H a b n cnt := hb.elim fun f q => ⟨iI ml, f, h, q.1, q.2, hc⟩
theorem SB.lt {θ : TH} {H : Heap} {a b n : Nat} {cnt : Int} (h : SB θ H a b n cnt) : a < H.size ∧ b < H.size := by
  obtain ⟨ml, f, p, q, -⟩ := h
  exact ⟨p.lt, q.lt⟩
/-- a text at a, of n letters of one byte each, its bytes at b; nobody in A writes it -/
def STA (A : Nat → Prop) (S0 : State) (H : Heap) (a b n : Nat) : Prop := va_O "java/lang/String" a A S0 H ∧ va_OF "java/lang/String" "coder" "B" (.int (iI 0)) a A S0 H ∧ va_OF "java/lang/String" "value" "[B" (.ref b) a A S0 H ∧ ∃ f : Nat → Int32, va_T .byte b n (fun j => .int (f j)) A S0 H ∧ sb_Fit f
abbrev STg (S0 : State) (H : Heap) (a b n : Nat) : Prop := STA (fun _ => False) S0 H a b n
theorem STA.keptA {A : Nat → Prop} {S0 : State} {H H1 : Heap} {a b n : Nat} (h : STA A S0 H a b n) (hq : ∀ a : Nat, a < H.size → ¬ A a → H1[a]? = H[a]?) : STA A S0 H1 a b n := by
  obtain ⟨h1, h2, h3, f, h4, h5⟩ := h
  exact ⟨h1.kept hq, h2.kept hq, h3.kept hq, f, h4.kept hq, h5⟩
theorem STA.g {A : Nat → Prop} {S0 : State} {H : Heap} {a b n : Nat} (h : STA A S0 H a b n) : STg S0 H a b n := by
  obtain ⟨h1, h2, h3, f, h4, h5⟩ := h
  exact ⟨h1.narrow (fun _ z => z.elim), h2.narrow (fun _ z => z.elim), h3.narrow (fun _ z => z.elim), f, h4.narrow (fun _ z => z.elim), h5⟩
theorem STg.kept {S0 : State} {H H1 : Heap} {a b n : Nat} (h : STg S0 H a b n) (ha : H1[a]? = H[a]?) (hb : H1[b]? = H[b]?) : STg S0 H1 a b n := by
  obtain ⟨⟨c1, p1, p2⟩, ⟨cf, k, i, f, c2, q1, q2, q3, q4⟩, ⟨cf', k', i', f', c3, r1, r2, r3, r4⟩, g, ⟨c4, t1, t2⟩, t3⟩ := h
  exact ⟨⟨c1, ha.trans p1, p2⟩, ⟨cf, k, i, f, c2, q1, q2, ha.trans q3, q4⟩, ⟨cf', k', i', f', c3, r1, r2, ha.trans r3, r4⟩, g, ⟨c4, hb.trans t1, t2⟩, t3⟩
theorem STg.lt {S0 : State} {H : Heap} {a b n : Nat} (h : STg S0 H a b n) : a < H.size ∧ b < H.size := by
  obtain ⟨⟨c1, p1, p2⟩, -, -, g, ⟨c4, t1, t2⟩, -⟩ := h
  exact ⟨(Array.getElem?_eq_some_iff.mp p1).1, (Array.getElem?_eq_some_iff.mp t1).1⟩
/-- a box of the cache at a, that holds v -/
def BXA (A : Nat → Prop) (S0 : State) (H : Heap) (a : Nat) (v : Int) : Prop := va_O "java/lang/Integer" a A S0 H ∧ va_OF "java/lang/Integer" "value" "I" (.int (iI v)) a A S0 H
theorem BXA.keptA {A : Nat → Prop} {S0 : State} {H H1 : Heap} {a : Nat} {v : Int} (h : BXA A S0 H a v) (hq : ∀ a : Nat, a < H.size → ¬ A a → H1[a]? = H[a]?) : BXA A S0 H1 a v := ⟨h.1.kept hq, h.2.kept hq⟩
abbrev AJ (θ : TH) : Nat → Prop := fun q => θ.2.2.2 ≤ q
/-- of the tables: the words that don't keep by themselves -/
def SP (θ : TH) (S0 : State) : Prop :=
  (va_Nw (.privateMethod yJ5_ensureCapacityInternal_d00df) S0 ∧ va_Nw (.privateMethod yJ5_putStringAt_47b60) S0 ∧ va_Nw (.privateMethod yJ5_inflateIfNeededFor_a7421) S0 ∧ va_Nw (.fieldLinkNest "java/util/ArrayList$Itr" 28 "java/util/ArrayList" "size" "I" "java/util/ArrayList") S0) ∧ va_AO "java/lang/Object" S0 ∧ va_Dc S0 ∧ (∃ mi : Nat, va_Mi "[Ljava/lang/Object;" mi S0) ∧
  va_Fw "java/util/ArrayList$Itr" ⟨"java/util/Iterator", "hasNext", "()Z"⟩ yJx35411_hasNext_aae02 S0 ∧ va_Fw "java/util/ArrayList$Itr" ⟨"java/util/Iterator", "next", "()Ljava/lang/Object;"⟩ yJx35411_next_0502b S0 ∧
  vk_R RX3 175 "" (θ.2.2.1 24) S0 ∧ vk_R RX3 203 " " (θ.2.2.1 25) S0 ∧ vk_R RX3 242 "-" (θ.2.2.1 26) S0 ∧ vk_R RX3 240 "0" (θ.2.2.1 27) S0
/-- of the statics and the constants: nobody writes them -/
def SJ (θ : TH) (S0 : State) (H : Heap) : Prop :=
  SP θ S0 ∧
  (va_Z "java/lang/Integer" "DigitOnes" "[B" (.ref (θ.2.2.1 20)) (AJ θ) S0 H ∧ ∃ f : Nat → Int32, va_T .byte (θ.2.2.1 20) 100 (fun j => .int (f j)) (AJ θ) S0 H) ∧
  (va_Z "java/lang/Integer" "DigitTens" "[B" (.ref (θ.2.2.1 21)) (AJ θ) S0 H ∧ ∃ f : Nat → Int32, va_T .byte (θ.2.2.1 21) 100 (fun j => .int (f j)) (AJ θ) S0 H) ∧
  va_Z "java/lang/Integer$IntegerCache" "high" "I" (.int 127) (AJ θ) S0 H ∧
  (va_Z "java/lang/Integer$IntegerCache" "cache" "[Ljava/lang/Integer;" (.ref (θ.2.2.1 22)) (AJ θ) S0 H ∧ va_T (.object "java/lang/Integer") (θ.2.2.1 22) 256 (fun k => .ref (θ.2.2.1 (100 + k))) (AJ θ) S0 H) ∧
  (∀ k : Nat, k < 256 → BXA (AJ θ) S0 H (θ.2.2.1 (100 + k)) ((k : Int) - 128)) ∧
  (va_Z "java/util/ArrayList" "DEFAULTCAPACITY_EMPTY_ELEMENTDATA" "[Ljava/lang/Object;" (.ref (θ.2.2.1 23)) (AJ θ) S0 H ∧ va_T (.object "java/lang/Object") (θ.2.2.1 23) 0 (fun _ => .null) (AJ θ) S0 H) ∧
  STA (AJ θ) S0 H (θ.2.2.1 24) (θ.2.2.1 28) 0 ∧ STA (AJ θ) S0 H (θ.2.2.1 25) (θ.2.2.1 29) 1 ∧ STA (AJ θ) S0 H (θ.2.2.1 26) (θ.2.2.1 30) 1 ∧ STA (AJ θ) S0 H (θ.2.2.1 27) (θ.2.2.1 31) 1
theorem SJ.kept {θ : TH} {S0 : State} {H H1 : Heap} (h : SJ θ S0 H) (hq : ∀ a : Nat, a < H.size → ¬ AJ θ a → H1[a]? = H[a]?) : SJ θ S0 H1 := by
  obtain ⟨h0, ⟨h1, f1, h2⟩, ⟨h3, f3, h4⟩, h5, ⟨h6, h7⟩, h8, ⟨h9, h10⟩, s1, s2, s3, s4⟩ := h
  exact ⟨h0, ⟨h1.kept hq, f1, h2.kept hq⟩, ⟨h3.kept hq, f3, h4.kept hq⟩, h5.kept hq, ⟨h6.kept hq, h7.kept hq⟩, fun k hk => (h8 k hk).keptA hq, ⟨h9.kept hq, h10.kept hq⟩, s1.keptA hq, s2.keptA hq, s3.keptA hq, s4.keptA hq⟩
theorem SJ.at {θ : TH} {S0 : State} {H0 H : Heap} {A : Nat → Prop} {locs : List Loc} (h : SJ θ S0 H0) (hA : ∀ q, A q → θ.2.2.2 ≤ q) (hS : va_S A H0 H locs) : SJ θ S0 H := h.kept (fun q h1 h2 => hS.2.1 q h1 (fun z => h2 (hA q z)))
theorem SJ.sizes {θ : TH} {S0 : State} {H H1 : Heap} (h : SJ θ S0 H) (hq : ∀ a : Nat, a < H.size → H1[a]? = H[a]?) : SJ θ S0 H1 := h.kept (fun a ha _ => hq a ha)
/-- a contract that only returns, as the kit's -/
theorem ct_met {l : Launch} {y : MethodName} {cy : ByteArray} {n : Nat} {ret : Option FieldType} {F L mc ms : Nat} {As : List Value} {S0 : State} {H : Heap} {Rr : Option Value → Heap → Prop} {A : Nat → Prop} (h : CT l y cy n ret F L mc ms As S0 H Rr (fun _ _ => False) A) :
    Met l y (.code y cy n ret :: wG) { frames := F, cells := mc, slots := ms, locals := L } (va_Pc As (PH S0 H)) (QH Rr A) mc ms A := by
  intro p e h1 h2 h3 s m args below h4 h5 h6 h7
  obtain ⟨n, o, a, b, c, q⟩ := h p e h1 h2 h3 s m args below h4 h5 h6 h7
  refine ⟨n, o, a, b, c, ?_⟩
  rcases q with q | ⟨q, -, E, ce, L, hx, -⟩
  · exact q
  · exact hx.1.elim
section JR
variable {p : Program} {l : Launch} {e : Env} {R : Room} {s : State} {m : MethodId} {args : Array Value} {below : List Frame} {meth : Method} {c : Code} {H : Heap} {locs : List Loc} {cells slots : Nat} {Q : State → Prop} {cc : ByteArray} {pc : Nat} {ls : Array Slot} {rest : List Value} {θ : TH} {A A0 A1 : Nat → Prop} {H0 : Heap} {S0 : State} {Rr : Option Value → Heap → Prop} {mc ms : Nat} {a9 : Array Value} {st0 : List Value}
theorem c_goM (hr : va_Run p l e R s m args below meth c H locs cells slots mc ms (F0 m pc ls st0) rest (QH Rr A1 a9) A1) (hS : va_S A0 H0 H locs) (hf : ∀ q, A1 q → A0 q)
    (kk : ∀ (v : Option Value) (H1 : Heap) (locs1 : List Loc), Rr v H1 → H.size ≤ H1.size → (∀ q : Nat, q < H.size → ¬ A1 q → H1[q]? = H[q]?) → va_S A0 H0 H1 locs1 → W p l e R s m args below meth c H1 locs1 (cells + mc) (slots + ms) Q (F0 m (pc + 3) ls (v.toList ++ rest))) : W p l e R s m args below meth c H locs cells slots Q (F0 m pc ls st0) := by
  intro T hT X
  obtain ⟨v, st₀, t, T', L, h0, X', hL, e1, e2, ⟨⟨v', hv, hp⟩, hF⟩, st⟩ := hr T hT X
  cases hv
  obtain ⟨k1, k2, k3⟩ := vx_keep h0 e1 hS (fun q _ => hf q) hf hL hF
  obtain ⟨t2, a1, b1⟩ := kk v T'.heap (locs ++ L) (by rw [e1]; exact hp) k1 k2 k3 T' rfl X'
  exact ⟨t2, st t2 a1, b1⟩
theorem c_goM5 (hr : va_Run5 p l e R s m args below meth c H locs cells slots mc ms (F0 m pc ls st0) rest (QH Rr A1 a9) A1) (hS : va_S A0 H0 H locs) (hf : ∀ q, A1 q → A0 q)
    (kk : ∀ (v : Option Value) (H1 : Heap) (locs1 : List Loc), Rr v H1 → H.size ≤ H1.size → (∀ q : Nat, q < H.size → ¬ A1 q → H1[q]? = H[q]?) → va_S A0 H0 H1 locs1 → W p l e R s m args below meth c H1 locs1 (cells + mc) (slots + ms) Q (F0 m (pc + 5) ls (v.toList ++ rest))) : W p l e R s m args below meth c H locs cells slots Q (F0 m pc ls st0) := by
  intro T hT X
  obtain ⟨v, st₀, t, T', L, h0, X', hL, e1, e2, ⟨⟨v', hv, hp⟩, hF⟩, st⟩ := hr T hT X
  cases hv
  obtain ⟨k1, k2, k3⟩ := vx_keep h0 e1 hS (fun q _ => hf q) hf hL hF
  obtain ⟨t2, a1, b1⟩ := kk v T'.heap (locs ++ L) (by rw [e1]; exact hp) k1 k2 k3 T' rfl X'
  exact ⟨t2, st t2 a1, b1⟩
/-- a static call -/
theorem c_Sr {own : String} {idx n nL F L na : Nat} {y : MethodName} {cy : ByteArray} {rt : Option FieldType} {As st1 : List Value} {r : Option Value} {P : Heap → Prop} {lv : List (Nat × Value)} (fx : FX p m c cc nL s args own S0) (hl : lv_has ls nL lv) (hM : CT l y cy n rt F L mc ms (As) S0 H (fun v H1 => v = r ∧ P H1) (fun _ _ => False) A1) (d : decode cc pc = .ok (.invokestatic idx, 3)) (w1 : Cond.methodLink own idx y ∈ wG) (w2 : Cond.static y ∈ wG) (w3 : Cond.initialized y.cls ∈ wG) (w4 : Cond.code y cy n rt ∈ wG) (hd : y.cls ≠ "java/lang/invoke/MethodHandle" ∧ y.cls ≠ "java/lang/invoke/VarHandle" ∧ (parseMethodDescriptor y.desc).map (fun d => d.parameters.length) = some na) (hn : As.length = na) (hst : r.toList ++ rest = st1)
    (hR : F + 1 ≤ R.frames ∧ 8 + (n + 11) + L ≤ R.locals) (hW : (rest.map fun v => v.category).sum ≤ 8) (hcs : cells + mc ≤ R.cells ∧ slots + ms ≤ R.slots) (hS : va_S A0 H0 H locs) (hf : ∀ q, A1 q → A0 q)
    (kk : ∀ (H1 : Heap) (locs1 : List Loc), P H1 → H.size ≤ H1.size → (∀ q : Nat, q < H.size → ¬ A1 q → H1[q]? = H[q]?) → va_S A0 H0 H1 locs1 → W p l e R s m args below meth c H1 locs1 (cells + mc) (slots + ms) Q (F0 m (pc + 3) ls st1)) : W p l e R s m args below meth c H locs cells slots Q (F0 m pc ls (As.reverse ++ rest)) := by
  subst hst
  exact c_S (As := As) (rest := rest) fx hl hM d w1 w2 w3 w4 hd hn hR hW hcs hS hf (fun _ _ _ _ _ h => h.elim) (fun v H1 locs1 hv hz hk hS1 => by obtain ⟨rfl, hp⟩ := hv; exact kk H1 locs1 hp hz hk hS1)
/-- an object's own method -/
theorem c_Vr {own C : String} {idx n nL F L b na : Nat} {y : MethodName} {cy : ByteArray} {rt : Option FieldType} {As st1 : List Value} {r : Option Value} {P : Heap → Prop} {lv : List (Nat × Value)} (fx : FX p m c cc nL s args own S0) (hl : lv_has ls nL lv) (hM : CT l y cy n rt F L mc ms (.ref b :: As) S0 H (fun v H1 => v = r ∧ P H1) (fun _ _ => False) A1) (hrec : ∃ cellB : Cell, H[b]? = some cellB ∧ cellB.vm.isStatics = false ∧ s.vm.findClass C = some cellB.cls) (d : decode cc pc = .ok (.invokevirtual idx, 3)) (w1 : Cond.methodLink own idx y ∈ wG) (w2 : Cond.instanceMethod y ∈ wG) (w5 : Cond.selects C y y ∈ wG) (w3 : Cond.initialized y.cls ∈ wG) (w4 : Cond.code y cy n rt ∈ wG) (hd : y.cls ≠ "java/lang/invoke/MethodHandle" ∧ y.cls ≠ "java/lang/invoke/VarHandle" ∧ (parseMethodDescriptor y.desc).map (fun d => d.parameters.length) = some na) (hn : As.length = na) (hst : r.toList ++ rest = st1)
    (hR : F + 1 ≤ R.frames ∧ 8 + (n + 11) + L ≤ R.locals) (hW : (rest.map fun v => v.category).sum ≤ 8) (hcs : cells + mc ≤ R.cells ∧ slots + ms ≤ R.slots) (hS : va_S A0 H0 H locs) (hf : ∀ q, A1 q → A0 q)
    (kk : ∀ (H1 : Heap) (locs1 : List Loc), P H1 → H.size ≤ H1.size → (∀ q : Nat, q < H.size → ¬ A1 q → H1[q]? = H[q]?) → va_S A0 H0 H1 locs1 → W p l e R s m args below meth c H1 locs1 (cells + mc) (slots + ms) Q (F0 m (pc + 3) ls st1)) : W p l e R s m args below meth c H locs cells slots Q (F0 m pc ls (As.reverse ++ .ref b :: rest)) := by
  subst hst
  exact c_V (As := As) (rest := rest) fx hl hM hrec d w1 w2 w5 w3 w4 hd hn hR hW hcs hS hf (fun _ _ _ _ _ h => h.elim) (fun v H1 locs1 hv hz hk hS1 => by obtain ⟨rfl, hp⟩ := hv; exact kk H1 locs1 hp hz hk hS1)
/-- a constructor -/
theorem c_Ir {own : String} {idx n nL F L b na : Nat} {y : MethodName} {cy : ByteArray} {As st1 : List Value} {r : Option Value} {P : Heap → Prop} {lv : List (Nat × Value)} (fx : FX p m c cc nL s args own S0) (hl : lv_has ls nL lv) (hM : CT l y cy n none F L mc ms (.ref b :: As) S0 H (fun v H1 => v = r ∧ P H1) (fun _ _ => False) A1) (d : decode cc pc = .ok (.invokespecial idx, 3)) (w1 : Cond.methodLink own idx y ∈ wG) (w2 : Cond.instanceMethod y ∈ wG) (w3 : Cond.initialized y.cls ∈ wG) (w4 : Cond.code y cy n none ∈ wG) (hy : y.name = "<init>") (hd : y.cls ≠ "java/lang/invoke/MethodHandle" ∧ y.cls ≠ "java/lang/invoke/VarHandle" ∧ (parseMethodDescriptor y.desc).map (fun d => d.parameters.length) = some na) (hn : As.length = na) (hst : r.toList ++ rest = st1)
    (hR : F + 1 ≤ R.frames ∧ 8 + (n + 11) + L ≤ R.locals) (hW : (rest.map fun v => v.category).sum ≤ 8) (hcs : cells + mc ≤ R.cells ∧ slots + ms ≤ R.slots) (hS : va_S A0 H0 H locs) (hf : ∀ q, A1 q → A0 q)
    (kk : ∀ (H1 : Heap) (locs1 : List Loc), P H1 → H.size ≤ H1.size → (∀ q : Nat, q < H.size → ¬ A1 q → H1[q]? = H[q]?) → va_S A0 H0 H1 locs1 → W p l e R s m args below meth c H1 locs1 (cells + mc) (slots + ms) Q (F0 m (pc + 3) ls st1)) : W p l e R s m args below meth c H locs cells slots Q (F0 m pc ls (As.reverse ++ .ref b :: rest)) := by
  subst hst
  obtain ⟨f1, f2⟩ := id fx
  have fx' : FX p m c cc c.maxLocals s args own S0 := by rw [f1.2.2.1]; exact fx
  exact c_goM (va_runI (As := As) (rest := rest) f1 (ct_met hM) ⟨cb_of fx' w1 w3 w4 hd hR, hy, f1.2.2.2.2 _ w2⟩ ⟨ph_blind, fun U hU hW => ⟨rfl, hU, f2.trans hW⟩⟩ rfl hn hl.1 rfl (lv_room hW) d hcs) hS hf (fun v H1 locs1 hv hz hk hS1 => by obtain ⟨rfl, hp⟩ := hv; exact kk H1 locs1 hp hz hk hS1)
/-- the superclass's own method -/
theorem c_SUr {own C : String} {idx n nL F L b ci N na : Nat} {y : MethodName} {cy : ByteArray} {rt : Option FieldType} {As st1 : List Value} {r : Option Value} {P : Heap → Prop} {fs : List Value} {T : u_T} {lv : List (Nat × Value)} (fx : FX p m c cc nL s args own S0) (hl : lv_has ls nL lv) (hM : CT l y cy n rt F L mc ms (.ref b :: As) S0 H (fun v H1 => v = r ∧ P H1) (fun _ _ => False) A1) (hK : va_K θ.1 vwCl (tyS θ) s) (ho : OB θ H b ci fs) (hc : vwCl[ci]? = some (C, T, N)) (d : decode cc pc = .ok (.invokespecial idx, 3)) (w1 : Cond.methodLink own idx y ∈ wG) (w2 : Cond.instanceMethod y ∈ wG) (w5 : Cond.sameMethod y.cls y.cls y.name y.desc ∈ wG) (w6 : Cond.superclass own y.cls ∈ wG) (w3 : Cond.initialized y.cls ∈ wG) (w4 : Cond.code y cy n rt ∈ wG) (hy : y.name ≠ "<init>") (hd : y.cls ≠ "java/lang/invoke/MethodHandle" ∧ y.cls ≠ "java/lang/invoke/VarHandle" ∧ (parseMethodDescriptor y.desc).map (fun d => d.parameters.length) = some na) (hn : As.length = na) (hst : r.toList ++ rest = st1)
    (hR : F + 1 ≤ R.frames ∧ 8 + (n + 11) + L ≤ R.locals) (hW : (rest.map fun v => v.category).sum ≤ 8) (hcs : cells + mc ≤ R.cells ∧ slots + ms ≤ R.slots) (hS : va_S A0 H0 H locs) (hf : ∀ q, A1 q → A0 q)
    (kk : ∀ (H1 : Heap) (locs1 : List Loc), P H1 → H.size ≤ H1.size → (∀ q : Nat, q < H.size → ¬ A1 q → H1[q]? = H[q]?) → va_S A0 H0 H1 locs1 → W p l e R s m args below meth c H1 locs1 (cells + mc) (slots + ms) Q (F0 m (pc + 3) ls st1)) : W p l e R s m args below meth c H locs cells slots Q (F0 m pc ls (As.reverse ++ .ref b :: rest)) := by
  subst hst
  obtain ⟨f1, f2⟩ := id fx
  have fx' : FX p m c cc c.maxLocals s args own S0 := by rw [f1.2.2.1]; exact fx
  obtain ⟨-, hfc, kC, hkC, hkind⟩ := hK.1 ci _ hc
  have hg : ∀ w ∈ va_wsSU own idx y (.code y cy n rt :: wG), w ∈ wG := by
    show ∀ w ∈ ([.methodLink own idx y, .sameMethod y.cls y.cls y.name y.desc, .superclass own y.cls, .instanceMethod y, .initialized y.cls] : List Cond) ++ (.code y cy n rt :: wG), w ∈ wG
    exact List.forall_mem_append.mpr ⟨List.forall_mem_cons.mpr ⟨w1, List.forall_mem_cons.mpr ⟨w5, List.forall_mem_cons.mpr ⟨w6, List.forall_mem_cons.mpr ⟨w2, List.forall_mem_cons.mpr ⟨w3, fun _ h => absurd h List.not_mem_nil⟩⟩⟩⟩⟩, wg_ws w4⟩
  exact c_goM (va_runSU (As := As) (rest := rest) (C := C) ⟨hfc, kC, hkC, hkind⟩ f1 (ct_met hM) (va_cwSU na f1.2.2.2.2 (wg_in hg) rfl rfl rfl ⟨hy, hd.2.2⟩ hR) ⟨ph_blind, ob_recv hK ho hc, fun U hU hW => ⟨rfl, hU, f2.trans hW⟩⟩ rfl hn hl.1 rfl (lv_room hW) d hcs) hS hf (fun v H1 locs1 hv hz hk hS1 => by obtain ⟨rfl, hp⟩ := hv; exact kk H1 locs1 hp hz hk hS1)
/-- an overriding method, by the superclass's name -/
theorem c_Ur {own C owner : String} {idx n nL F L b m0 na : Nat} {x y : MethodName} {cy b0 : ByteArray} {r0 : Option FieldType} {rt : Option FieldType} {As st1 : List Value} {r : Option Value} {P : Heap → Prop} {lv : List (Nat × Value)} (fx : FX p m c cc nL s args own S0) (hl : lv_has ls nL lv) (hM : CT l y cy n rt F L mc ms (.ref b :: As) S0 H (fun v H1 => v = r ∧ P H1) (fun _ _ => False) A1) (hrec : ∃ cellB : Cell, H[b]? = some cellB ∧ cellB.vm.isStatics = false ∧ s.vm.findClass C = some cellB.cls) (d : decode cc pc = .ok (.invokevirtual idx, 3)) (w1 : Cond.methodLink own idx x ∈ wG) (w2 : Cond.instanceMethod y ∈ wG) (w5 : Cond.selects C x y ∈ wG) (w6 : Cond.sameMethod x.cls owner x.name x.desc ∈ wG) (w7 : Cond.instanceMethod ⟨owner, x.name, x.desc⟩ ∈ wG) (w8 : Cond.code ⟨owner, x.name, x.desc⟩ b0 m0 r0 ∈ wG) (w3 : Cond.initialized y.cls ∈ wG) (w4 : Cond.code y cy n rt ∈ wG) (hd : owner ≠ "java/lang/invoke/MethodHandle" ∧ owner ≠ "java/lang/invoke/VarHandle" ∧ (parseMethodDescriptor x.desc).map (fun d => d.parameters.length) = some na) (hn : As.length = na) (hst : r.toList ++ rest = st1)
    (hR : F + 1 ≤ R.frames ∧ 8 + (n + 11) + L ≤ R.locals) (hW : (rest.map fun v => v.category).sum ≤ 8) (hcs : cells + mc ≤ R.cells ∧ slots + ms ≤ R.slots) (hS : va_S A0 H0 H locs) (hf : ∀ q, A1 q → A0 q)
    (kk : ∀ (H1 : Heap) (locs1 : List Loc), P H1 → H.size ≤ H1.size → (∀ q : Nat, q < H.size → ¬ A1 q → H1[q]? = H[q]?) → va_S A0 H0 H1 locs1 → W p l e R s m args below meth c H1 locs1 (cells + mc) (slots + ms) Q (F0 m (pc + 3) ls st1)) : W p l e R s m args below meth c H locs cells slots Q (F0 m pc ls (As.reverse ++ .ref b :: rest)) := by
  subst hst
  obtain ⟨f1, f2⟩ := id fx
  have fx' : FX p m c cc c.maxLocals s args own S0 := by rw [f1.2.2.1]; exact fx
  have hg : ∀ w ∈ va_wsO own idx C owner x y (.code y cy n rt :: wG), w ∈ wG := by
    show ∀ w ∈ ([.methodLink own idx x, .sameMethod x.cls owner x.name x.desc, .instanceMethod ⟨owner, x.name, x.desc⟩, .selects C x y, .instanceMethod y, .initialized y.cls] : List Cond) ++ (.code y cy n rt :: wG), w ∈ wG
    exact List.forall_mem_append.mpr ⟨List.forall_mem_cons.mpr ⟨w1, List.forall_mem_cons.mpr ⟨w6, List.forall_mem_cons.mpr ⟨w7, List.forall_mem_cons.mpr ⟨w5, List.forall_mem_cons.mpr ⟨w2, List.forall_mem_cons.mpr ⟨w3, fun _ h => absurd h List.not_mem_nil⟩⟩⟩⟩⟩⟩, wg_ws w4⟩
  exact c_goM (va_runU (As := As) (rest := rest) (C := C) f1 (ct_met hM) (va_cwO na f1.2.2.2.2 (wg_in hg) rfl rfl rfl w8 hd hR) ⟨ph_blind, hrec, fun U hU hW => ⟨rfl, hU, f2.trans hW⟩⟩ rfl hn hl.1 rfl (lv_room hW) d hcs) hS hf (fun v H1 locs1 hv hz hk hS1 => by obtain ⟨rfl, hp⟩ := hv; exact kk H1 locs1 hp hz hk hS1)
/-- an interface's method, the receiver's class known -/
theorem c_Fr {own C : String} {idx n nL F L b ci N count na : Nat} {x y : MethodName} {fs : List Value} {T : u_T} {cy : ByteArray} {rt : Option FieldType} {As st1 : List Value} {r : Option Value} {P : Heap → Prop} {lv : List (Nat × Value)} (fx : FX p m c cc nL s args own S0) (hl : lv_has ls nL lv) (hM : CT l y cy n rt F L mc ms (.ref b :: As) S0 H (fun v H1 => v = r ∧ P H1) (fun _ _ => False) A1) (hK : va_K θ.1 vwCl (tyS θ) s) (ho : OB θ H b ci fs) (hc : vwCl[ci]? = some (C, T, N)) (hF : va_Fw C x y S0) (d : decode cc pc = .ok (.invokeinterface idx count, 5)) (w1 : Cond.methodLink own idx x ∈ wG) (w2 : Cond.instanceMethod y ∈ wG) (w5 : Cond.selects C x y ∈ wG) (w3 : Cond.initialized y.cls ∈ wG) (w4 : Cond.code y cy n rt ∈ wG) (hd : x.cls ≠ "java/lang/invoke/MethodHandle" ∧ x.cls ≠ "java/lang/invoke/VarHandle" ∧ (parseMethodDescriptor x.desc).map (fun d => d.parameters.length) = some na) (hn : As.length = na) (hst : r.toList ++ rest = st1)
    (hR : F + 1 ≤ R.frames ∧ 8 + (n + 11) + L ≤ R.locals) (hW : (rest.map fun v => v.category).sum ≤ 8) (hcs : cells + mc ≤ R.cells ∧ slots + ms ≤ R.slots) (hS : va_S A0 H0 H locs) (hf : ∀ q, A1 q → A0 q)
    (kk : ∀ (H1 : Heap) (locs1 : List Loc), P H1 → H.size ≤ H1.size → (∀ q : Nat, q < H.size → ¬ A1 q → H1[q]? = H[q]?) → va_S A0 H0 H1 locs1 → W p l e R s m args below meth c H1 locs1 (cells + mc) (slots + ms) Q (F0 m (pc + 5) ls st1)) : W p l e R s m args below meth c H locs cells slots Q (F0 m pc ls (As.reverse ++ .ref b :: rest)) := by
  subst hst
  obtain ⟨f1, f2⟩ := id fx
  have fx' : FX p m c cc c.maxLocals s args own S0 := by rw [f1.2.2.1]; exact fx
  obtain ⟨-, hfc, kC, hkC, hkind⟩ := hK.1 ci _ hc
  have hg : ∀ w ∈ va_wsF own idx C x y (.code y cy n rt :: wG), w ∈ wG := by
    show ∀ w ∈ ([.methodLink own idx x, .selects C x y, .instanceMethod y, .initialized y.cls] : List Cond) ++ (.code y cy n rt :: wG), w ∈ wG
    exact List.forall_mem_append.mpr ⟨List.forall_mem_cons.mpr ⟨w1, List.forall_mem_cons.mpr ⟨w5, List.forall_mem_cons.mpr ⟨w2, List.forall_mem_cons.mpr ⟨w3, fun _ h => absurd h List.not_mem_nil⟩⟩⟩⟩, wg_ws w4⟩
  exact c_goM5 (va_runF (As := As) (rest := rest) (C := C) ⟨hfc, kC, hkC, hkind⟩ f1 (ct_met hM) (va_cwF na f1.2.2.2.2 (wg_in hg) rfl rfl rfl (va_Fw.moved ⟨hd.1, hd.2.1⟩ f2.alike hF) hd hR) ⟨ph_blind, ob_recv hK ho hc, fun U hU hW => ⟨rfl, hU, f2.trans hW⟩⟩ rfl hn hl.1 rfl (lv_room hW) d hcs) hS hf (fun v H1 locs1 hv hz hk hS1 => by obtain ⟨rfl, hp⟩ := hv; exact kk H1 locs1 hp hz hk hS1)
/-- a private method of a superclass -/
theorem c_VPr {own : String} {idx n nL F L b na : Nat} {y : MethodName} {cy : ByteArray} {rt : Option FieldType} {As st1 : List Value} {r : Option Value} {P : Heap → Prop} {lv : List (Nat × Value)} (fx : FX p m c cc nL s args own S0) (hl : lv_has ls nL lv) (hM : CT l y cy n rt F L mc ms (.ref b :: As) S0 H (fun v H1 => v = r ∧ P H1) (fun _ _ => False) A1) (hrec : ∃ cellB : Cell, H[b]? = some cellB ∧ cellB.vm.isStatics = false) (hpr : va_Nw (.privateMethod y) S0) (d : decode cc pc = .ok (.invokevirtual idx, 3)) (w1 : Cond.methodLink own idx y ∈ wG) (w2 : Cond.instanceMethod y ∈ wG) (w5 : Cond.sameMethod y.cls y.cls y.name y.desc ∈ wG) (w3 : Cond.initialized y.cls ∈ wG) (w4 : Cond.code y cy n rt ∈ wG) (hd : y.cls ≠ "java/lang/invoke/MethodHandle" ∧ y.cls ≠ "java/lang/invoke/VarHandle" ∧ (parseMethodDescriptor y.desc).map (fun d => d.parameters.length) = some na) (hn : As.length = na) (hst : r.toList ++ rest = st1)
    (hR : F + 1 ≤ R.frames ∧ 8 + (n + 11) + L ≤ R.locals) (hW : (rest.map fun v => v.category).sum ≤ 8) (hcs : cells + mc ≤ R.cells ∧ slots + ms ≤ R.slots) (hS : va_S A0 H0 H locs) (hf : ∀ q, A1 q → A0 q)
    (kk : ∀ (H1 : Heap) (locs1 : List Loc), P H1 → H.size ≤ H1.size → (∀ q : Nat, q < H.size → ¬ A1 q → H1[q]? = H[q]?) → va_S A0 H0 H1 locs1 → W p l e R s m args below meth c H1 locs1 (cells + mc) (slots + ms) Q (F0 m (pc + 3) ls st1)) : W p l e R s m args below meth c H locs cells slots Q (F0 m pc ls (As.reverse ++ .ref b :: rest)) := by
  subst hst
  obtain ⟨f1, f2⟩ := id fx
  have fx' : FX p m c cc c.maxLocals s args own S0 := by rw [f1.2.2.1]; exact fx
  have hB : Back l R p e below s args y 3 8 (PreOf R mc ms (va_Pc (.ref b :: As) (PH S0 H))) (PostOf (QH (fun v H1 => v = r ∧ P H1) A1) mc ms A1) := callBack (cb_of fx' w1 w3 w4 hd hR) (ct_met hM) ph_blind
  obtain ⟨hx, hb, hml, hown, hts⟩ := id f1
  have hp1 : (Cond.privateMethod y).before args s = true := Cond.privateMethod_warm f2 hpr
  obtain ⟨cellB, hcB, hoB⟩ := hrec
  refine c_goM (Rr := fun v H1 => v = r ∧ P H1) (A1 := A1) (mc := mc) (ms := ms) (st0 := As.reverse ++ .ref b :: rest) (rest := rest) (a9 := (Value.ref b :: As).toArray) ?_ hS hf (fun v H1 locs1 hv hz hk hS1 => by obtain ⟨rfl, hp⟩ := hv; exact kk H1 locs1 hp hz hk hS1)
  intro T hT X
  obtain ⟨mk, methM, hnamed, hmethM, hstM, habM⟩ := Cond.instanceMethod_spec (hts _ w2)
  obtain ⟨methM', cM, hmethM', -, -, -, -, -, -, hsigM⟩ := Cond.code_spec hnamed (hts _ w4)
  cases hmethM.symm.trans hmethM'
  obtain ⟨cn, ck, r1, hcn, hck, hni, -, -⟩ := Cond.sameMethod_found (hts _ w5)
  have hcn1 : cn = mk.cls := Option.some.inj (hcn.symm.trans (findClass_of_methodNamed hnamed))
  subst hcn1
  have hselP : selectMethod e.platform s.vm cellB.cls mk = .method mk := selectMethod_private hmethM (Cond.privateMethod_at hp1 mk methM hnamed hmethM)
  have hlen : As.length = methM.sig.parameters.length := by
    have h2 := hd.2.2
    rw [hsigM] at h2
    exact hn.trans (Option.some.inj h2).symm
  obtain ⟨vm₁, X₁, hstep₁⟩ := X.invokevirtual hx hown (hts _ w1) hnamed hmethM hstM hck hni ⟨hd.1, hd.2.1⟩ (a := b) (cell := cellB) (by rw [hT]; exact hcB)
    (fun z h => by rw [h] at hoB; cases hoB) hselP hmethM habM hck hni (g := F0 m pc ls (As.reverse ++ .ref b :: rest)) rfl (argsL := As) (rest := rest) hlen rfl (by rw [hb]; exact d)
  obtain ⟨v, ⟨U', l2, c2, s2⟩, X', ⟨g', mk', t, L, e1, e2, hq, h1, hL, h2, h3⟩, hsteps⟩ := hB m meth c ⟨T.setVm vm₁, locs, cells, slots⟩ { F0 m pc ls (As.reverse ++ .ref b :: rest) with stack := rest } (.invokevirtual idx) mk (Value.ref b :: As).toArray X₁ rfl (hl.1.trans hml.symm) (by rw [hb]; exact d) (lv_room hW) (X₁.named hnamed) ⟨hcs.1, hcs.2, rfl, hT, f2.trans X₁.warmed⟩
  dsimp only [Pt.U, Pt.locs, Pt.cells, Pt.slots] at X' e1 e2 h1 h2 h3 hsteps
  subst h1; subst h2; subst h3
  exact ⟨v, (T.setVm vm₁).calling g' mk' (Value.ref b :: As).toArray, t, U', L, hT, X', hL, e1, e2, hq, fun target h => hstep₁ _ fun acts => by rw [doInvoke_state]; exact hsteps.trans h⟩
theorem r_getOF (hexec : p.tables.exec = Jvm.exec) (hb : c.code = cc) (hWm : S0.WarmedH s.vm) {o n d own ref : String} {index q : Nat} {v : Value} (hE : va_OF o n d v q A S0 H) (hown : s.vm.findClass own = some m.cls) (hlink : (Cond.fieldLink own index ref n d).before args s = true) (hsame : ∀ x, s.fieldFound? o n d = some x → s.fieldFound? ref n d = some x) (hdg : decode cc pc = .ok (.getfield index, 3))
    (kk : W p l e R s m args below meth c H locs cells slots Q (F0 m (pc + 3) ls (v :: rest))) : W p l e R s m args below meth c H locs cells slots Q (F0 m pc ls (.ref q :: rest)) := by
  obtain ⟨cf, k, fi, f, cell, h1, h2, h3, h4, h5, h6⟩ := va_OF.moved hWm.alike hE
  exact W.getf hexec hb hown hlink (hsame _ h1) h2 h3 h4 (v := v) h5 rfl rfl hdg kk
theorem o_recv (hWm : S0.WarmedH s.vm) {C : String} {a : Nat} (h : va_O C a A S0 H) : ∃ cellB : Cell, H[a]? = some cellB ∧ cellB.vm.isStatics = false ∧ s.vm.findClass C = some cellB.cls := by
  obtain ⟨cell, h1, h2, h3, -⟩ := va_O.moved hWm.alike h
  exact ⟨cell, h1, h2, h3⟩
theorem ob_st {a ci : Nat} {fs : List Value} (h : OB θ H a ci fs) : ∃ cellB : Cell, H[a]? = some cellB ∧ cellB.vm.isStatics = false := by
  obtain ⟨r, h1, cell, q1, q2, q3, q4⟩ := h
  exact ⟨cell, q1, by rw [q3]; rfl⟩
/-- bytes -/
theorem BY.T (hK : va_K θ.1 vwCl (tyS θ) s) {b n : Nat} (h : BY θ H b n) : ∃ f : Nat → Int32, va_T .byte b n (fun j => .int (f j)) (fun _ => False) s H ∧ sb_Fit f := by
  obtain ⟨f, h1, h2⟩ := h
  exact ⟨f, ⟨_, h1, (hK.2 1 _ rfl).1 n (fun j => .int (f j)), (fun q => by cases q), by show n ≤ (arrV _ _ _).slots.size; rw [arrV_size]; exact Nat.le_refl _, by show (arrV _ _ _).slots.size.toInt32 = _; rw [arrV_size], fun j hj => by show (arrV _ _ _).slots[j]? = _; rw [arrV_read _ _ hj], id⟩, h2⟩
theorem STg.T (hWm : S0.WarmedH s.vm) {a b n : Nat} (h : STg S0 H a b n) : ∃ f : Nat → Int32, va_T .byte b n (fun j => .int (f j)) (fun _ => False) s H ∧ sb_Fit f := by
  obtain ⟨-, -, -, f, h4, h5⟩ := h
  exact ⟨f, va_T.moved hWm.alike h4, h5⟩
theorem r_talen (hexec : p.tables.exec = Jvm.exec) (hb : c.code = cc) {ty : FieldType} {b n : Nat} {f : Nat → Value} (hT : va_T ty b n f A s H) (d : decode cc pc = .ok (.arraylength, 1))
    (kk : W p l e R s m args below meth c H locs cells slots Q (F0 m (pc + 1) ls (.int (iI n) :: rest))) : W p l e R s m args below meth c H locs cells slots Q (F0 m pc ls (.ref b :: rest)) := by
  obtain ⟨cell, h1, h2, h3, h4, h5, h6, h7⟩ := hT
  exact W.alen (n := iI n) hexec hb h1 h2 (h5.trans Int32.ofInt_eq_ofNat.symm) rfl rfl d kk
theorem r_bast (hexec : p.tables.exec = Jvm.exec) (hb : c.code = cc) (hK : va_K θ.1 vwCl (tyS θ) s) {a n : Nat} (hB : BY θ H a n) (haA : A a) (hS : va_S A H0 H locs) {i : Int} {x : Int32} (hi : 0 ≤ i ∧ i < (n : Int)) (hn : n < 2147483648) (d : decode cc pc = .ok (.bastore, 1))
    (kk : ∀ (H1 : Heap) (locs1 : List Loc), BY θ H1 a n → H1.size = H.size → (∀ q : Nat, q ≠ a → H1[q]? = H[q]?) → va_S A H0 H1 locs1 → W p l e R s m args below meth c H1 locs1 cells slots Q (F0 m (pc + 1) ls rest)) : W p l e R s m args below meth c H locs cells slots Q (F0 m pc ls (.int x :: .int (iI i) :: .ref a :: rest)) := by
  have hin := vp_in_I hi hn
  obtain ⟨f, hf, hfit⟩ := hB
  refine W.bast hexec hb hf ((hK.2 1 _ rfl).1 n (fun j => .int (f j))) (fun q => by cases q) (by show ¬ (_ ∨ (arrV _ _ _).slots.size ≤ _); rw [arrV_size]; exact hin) rfl rfl d fun H1 e z oq => ?_
  refine kk H1 _ ⟨upd f (iI i).toNatClampNeg (vp_nar .byte x), ?_, sb_fitU hfit (by rw [vp_nar_byte]; exact pk_fb x)⟩ z oq (hS.put z oq haA)
  show H1[a]? = some (vp_cell _ _)
  rw [e]
  rw [vp_cell_i, vp_cell_i, arrV_store]
  congr 2
  funext q
  by_cases hq : q = (iI i).toNatClampNeg
  · subst hq
    simp [updV, upd, vp_nar]
    try rfl
  · simp [updV, upd, hq]
/-- a byte of a table, whatever it is -/
theorem r_tbald (hexec : p.tables.exec = Jvm.exec) (hb : c.code = cc) {t N : Nat} {f : Nat → Int32} (hWm : S0.WarmedH s.vm) (hT : va_T .byte t N (fun j => .int (f j)) (AJ θ) S0 s.heap) (hA : ∀ q, A q → θ.2.2.2 ≤ q) (hS : va_S A s.heap H locs) {i : Int} (hi : 0 ≤ i ∧ i < (N : Int)) (hN : N < 2147483648) (d : decode cc pc = .ok (.baload, 1))
    (kk : ∀ x : Int32, W p l e R s m args below meth c H locs cells slots Q (F0 m (pc + 1) ls (.int x :: rest))) : W p l e R s m args below meth c H locs cells slots Q (F0 m pc ls (.int (iI i) :: .ref t :: rest)) :=
  va_tb hexec hb ((va_T.moved hWm.alike hT).narrow hA) hS (vp_in_I hi hN) (v := .int (f (iI i).toNatClampNeg)) rfl d (kk _)
theorem r_newB (hexec : p.tables.exec = Jvm.exec) (hb : c.code = cc) (hts : ∀ w ∈ wG, w.before args s = true) (hK : va_K θ.1 vwCl (tyS θ) s) (w : Cond.arrayClass .byte ∈ wG) (hS : va_S A H0 H locs) {n : Int} (hn : 0 ≤ n ∧ n ≤ 1000) (hcells : cells + 1 ≤ R.cells) (hslots : slots + n.toNat ≤ R.slots) (d : decode cc pc = .ok (.newarray .byte, 2))
    (kk : ∀ (H1 : Heap), BY θ H1 H.size n.toNat → H1.size = H.size + 1 → (∀ q : Nat, q < H.size → H1[q]? = H[q]?) → va_S A H0 H1 locs → W p l e R s m args below meth c H1 locs (cells + 1) (slots + n.toNat) Q (F0 m (pc + 2) ls (.ref H.size :: rest))) : W p l e R s m args below meth c H locs cells slots Q (F0 m pc ls (.int (iI n) :: rest)) := by
  have e : (iI n).toNatClampNeg = n.toNat := iI_nn (by omega)
  refine va_newaK (atype := .byte) (N := n.toNat) hexec hb (hts _ w) rfl d rfl (fun q => by have := (iI_lt (b := 0) (by omega) (by decide)).mp q; omega) e (by show n.toNat * 1 ≤ 536870912; omega) hcells hslots rfl fun H1 cA e1 z1 o1 hAr hNm => ?_
  have hc : cA = θ.2.1 1 := by
    have h2 : s.vm.findClass ("[" ++ (FieldType.byte).toString) = some (θ.2.1 1) := (hK.2 1 _ rfl).2
    exact Option.some.inj (hNm.symm.trans h2)
  subst hc
  refine kk H1 ⟨fun _ => 0, ?_, sb_fit0⟩ z1 o1 ⟨Nat.le_trans hS.1 (by omega), fun x h1 h2 => (o1 x (Nat.lt_of_lt_of_le h1 hS.1)).trans (hS.2.1 x h1 h2), hS.2.2⟩
  exact e1
theorem r_copyB (hexec : p.tables.exec = Jvm.exec) (hb : c.code = cc) (hml : c.maxLocals = ls.size) (hts : ∀ w ∈ wG, w.before args s = true) {own : String} {index : Nat} (hown : s.vm.findClass own = some m.cls) (wl : Cond.methodLink own index arraycopyName ∈ wG) (wn : Cond.native arraycopyName ∈ wG) (wst : Cond.static arraycopyName ∈ wG) (wi : Cond.initialized "java/lang/System" ∈ wG)
    (hK : va_K θ.1 vwCl (tyS θ) s) {b0 n0 a n1 : Nat} (hX : ∃ f : Nat → Int32, va_T .byte b0 n0 (fun j => .int (f j)) (fun _ => False) s H ∧ sb_Fit f) (hB : BY θ H a n1) (haA : A a) (hS : va_S A H0 H locs)
    {sp dp n : Int} (h1 : 0 ≤ sp ∧ 0 ≤ dp ∧ 0 ≤ n) (h4 : sp + n ≤ (n0 : Int)) (h5 : dp + n ≤ (n1 : Int)) (hbig : n0 < 1000000000 ∧ n1 < 1000000000)
    (hframes : 1 ≤ R.frames) (hlocals : (rest.map fun v => v.category).sum + (nativeFrameWords "java/lang/System" "arraycopy" 5 + 11) ≤ R.locals) (d : decode cc pc = .ok (.invokestatic index, 3))
    (kk : ∀ (H1 : Heap) (locs1 : List Loc), BY θ H1 a n1 → H1.size = H.size → (∀ q : Nat, q ≠ a → H1[q]? = H[q]?) → va_S A H0 H1 locs1 → W p l e R s m args below meth c H1 locs1 cells slots Q (F0 m (pc + 3) ls rest)) : W p l e R s m args below meth c H locs cells slots Q (F0 m pc ls (.int (iI n) :: .int (iI dp) :: .ref a :: .int (iI sp) :: .ref b0 :: rest)) := by
  have tI : ∀ z : Int, 0 ≤ z → z ≤ 1000000000 → (iI z).toInt = z ∧ (iI z).toNatClampNeg = z.toNat ∧ ¬ iI z < 0 := fun z h1 h2 => ⟨iI_t (by omega), iI_nn (by omega), fun q => by have := (iI_lt (b := 0) (by omega) (by decide)).mp q; omega⟩
  obtain ⟨s1, s2, s3⟩ := tI sp h1.1 (by omega)
  obtain ⟨d1, d2, d3⟩ := tI dp h1.2.1 (by omega)
  obtain ⟨k1, k2, k3⟩ := tI n h1.2.2 (by omega)
  intro T hT X
  obtain ⟨f, ⟨scr, hs1, hs2, hs3, hs4, -, hs5, hs7⟩, hfit⟩ := hX
  obtain ⟨g, hc1, hgf⟩ := hB
  obtain ⟨hs6, k0, hk0, cm0, hkk0⟩ := hs2
  obtain ⟨-, k9, hk1, cm1, hkk1⟩ := (hK.2 1 _ rfl).1 n1 (fun j => .int (g j))
  obtain ⟨vm', X', step⟩ := X.arraycopy hexec hown (hts _ wl) (hts _ wn) (hts _ wst) (hts _ wi) (src := b0) (dst := a) (cs := scr) (cd := vp_cell (θ.2.1 1) (n1, .inl g)) (srcPos := iI sp) (destPos := iI dp) (n := iI n) (by rw [hT]; exact hs1) (by rw [hT]; exact hc1)
    hs6 (fun _ h => by cases h) hs3 (fun h => by cases h) hk0 hk1 hkk0 hkk1 (by simp [refKind]) s3 d3 k3
    (by rw [s1, k1]; omega)
    (by rw [d1, k1]; show ¬ _ > ((arrV (θ.2.1 1) n1 (fun j => .int (g j))).slots.size : Int); rw [arrV_size]; omega)
    (fun vm₁ _ i hi => by
      rw [k2] at hi
      have e : scr.slots.getD ((iI sp).toNatClampNeg + i) .null = .int (f ((iI sp).toNatClampNeg + i)) := by
        rw [Array.getD_eq_getD_getElem?, hs5 _ (by rw [s2]; omega)]
        rfl
      refine ⟨?_, ?_⟩
      · rw [e]
        exact hfit _
      · rw [e]
        exact trivial)
    (g := F0 m pc ls (.int (iI n) :: .int (iI dp) :: .ref a :: .int (iI sp) :: .ref b0 :: rest)) rfl (by rw [hml]) (rest := rest) rfl (by rw [hb]; exact d) hframes (by show 2 * 0 + _ + _ ≤ _; omega)
  have e1 : copied scr (vp_cell (θ.2.1 1) (n1, .inl g)) (iI sp) (iI dp) (iI n) = vp_cell (θ.2.1 1) (n1, .inl (va_cpy f g (iI sp).toNatClampNeg (iI dp).toNatClampNeg (iI n).toNatClampNeg)) := va_copiedX (fun z => .int z) scr (θ.2.1 1) f g hs5 (by rw [s2, k2]; omega)
  rw [e1] at X' step
  have hl : a < H.size := hc1.lt
  generalize hG : va_cpy f g (iI sp).toNatClampNeg (iI dp).toNatClampNeg (iI n).toNatClampNeg = G at X' step
  have hGf : sb_Fit G := by rw [← hG]; exact sb_fitC hfit hgf
  have hheap : ((T.setVm vm').setCell a (vp_cell (θ.2.1 1) (n1, .inl G))).heap = H.setIfInBounds a (vp_cell (θ.2.1 1) (n1, .inl G)) := by rw [← hT]; rfl
  have oq : ∀ q : Nat, q ≠ a → (H.setIfInBounds a (vp_cell (θ.2.1 1) (n1, .inl G)))[q]? = H[q]? := fun q hq => by simp [Array.getElem?_setIfInBounds, Ne.symm hq]
  obtain ⟨t, a1, b1⟩ := kk _ _ ⟨G, (show (H.setIfInBounds a _)[a]? = some _ by simp [Array.getElem?_setIfInBounds, hl]), hGf⟩ (by simp) oq ⟨by simp; exact hS.1, fun q g1 g2 => by
      rw [oq q (fun e => g2 (by rw [e]; exact haA))]
      exact hS.2.1 q g1 g2, fun q hq => by
      rcases List.mem_append.mp hq with h | h
      · exact hS.2.2 q h
      · obtain ⟨z, -, hz⟩ := List.mem_map.mp h
        rw [← hz]
        exact haA⟩ _ hheap X'
  exact ⟨t, step t a1, b1⟩
/-- a new object, its fields at their first values -/
theorem r_new {c0 : Code} (hexec : p.tables.exec = Jvm.exec) (hb : c0.code = cc) {own C : String} {T : u_T} {N ci index : Nat} (hts : ∀ w ∈ wG, w.before args s = true) (hin : ∀ w ∈ u_ws C T N, w ∈ wG) (ty : Nat → FieldType) (hty : ∀ k, k < N → parseFieldDescriptor (T k).2.2.1 = some (ty k)) (hown : s.vm.findClass own = some m.cls) (wc : Cond.classLink own index C ∈ wG) (wi : Cond.instantiable C N ∈ wG) (wz : Cond.initialized C ∈ wG)
    (hK : va_K θ.1 vwCl (tyS θ) s) (hS : va_S A H0 H locs) (hc : vwCl[ci]? = some (C, T, N)) {fs : List Value} (hfs : ∀ j, j < N → defaultValue (ty j) = vp_V fs j) (hcells : cells + 1 ≤ R.cells) (hslots : slots + N ≤ R.slots) (d : decode cc pc = .ok (.new index, 3))
    (kk : ∀ (H1 : Heap), OB θ H1 H.size ci fs → H1.size = H.size + 1 → (∀ q : Nat, q < H.size → H1[q]? = H[q]?) → va_S A H0 H1 locs → W p l e R s m args below meth c0 H1 locs (cells + 1) (slots + N) Q (F0 m (pc + 3) ls (.ref H.size :: rest))) : W p l e R s m args below meth c0 H locs cells slots Q (F0 m pc ls rest) := by
  have hKn := hK.1 ci _ hc
  refine W.newcK hexec hb hown (hts _ wc) (hts _ wi) (hts _ wz) rfl d hcells hslots hKn.2.1 rfl fun H1 kC hkC e1 z1 o1 => ?_
  exact kk H1 ⟨_, hc, (u_born ty hts hin hKn hkC e1 hty).to hfs⟩ z1 o1 ⟨Nat.le_trans hS.1 (by omega), fun x h1 h2 => (o1 x (Nat.lt_of_lt_of_le h1 hS.1)).trans (hS.2.1 x h1 h2), hS.2.2⟩
/-- a final field, in its constructor -/
theorem r_putF (hexec : p.tables.exec = Jvm.exec) (hb : c.code = cc) {own ref C : String} {T : u_T} {N ci index a : Nat} {fs : List Value} (hts : ∀ w ∈ wG, w.before args s = true) (hin : ∀ w ∈ u_ws C T N, w ∈ wG) (ty0 : Nat → FieldType) (hty : ∀ k, k < N → parseFieldDescriptor (T k).2.2.1 = some (ty0 k)) (hnm : ∀ a, a < N → ∀ b, b < N → a ≠ b → (T a).2.1 ≠ (T b).2.1) (hown : s.vm.findClass own = some m.cls) (hK : va_K θ.1 vwCl (tyS θ) s) (ho : OB θ H a ci fs) (haA : A a) (hS0 : va_S A H0 H locs) (hc : vwCl[ci]? = some (C, T, N)) (k : Nat) (hk : k < N) (hlink : Cond.fieldLink own index ref (T k).2.1 (T k).2.2.1 ∈ wG) (hsame : ∀ x, s.fieldFound? (T k).1 (T k).2.1 (T k).2.2.1 = some x → s.fieldFound? ref (T k).2.1 (T k).2.2.1 = some x) (hfin : (T k).2.2.2 = true) (hin2 : meth.name = "<init>") (hdecl : (T k).1 = own) {ty : FieldType} {v : Value} (hd : parseFieldDescriptor (T k).2.2.1 = some ty) (hn : narrow ty v = v) (hfit : fits ty v = true) (hl : k < fs.length)
    (hdg : decode cc pc = .ok (.putfield index, 3)) (kk : ∀ (H1 : Heap) (locs1 : List Loc), OB θ H1 a ci (fs.set k v) → H1.size = H.size → (∀ q : Nat, q ≠ a → H1[q]? = H[q]?) → va_S A H0 H1 locs1 → W p l e R s m args below meth c H1 locs1 cells slots Q (F0 m (pc + 3) ls rest)) : W p l e R s m args below meth c H locs cells slots Q (F0 m pc ls (v :: .ref a :: rest)) := by
  have hap := va_apart (own := own) hts hin ty0 hty hnm hK hc
  obtain ⟨r, h1, cell, q1, q2, q3, q4⟩ := ho
  have hr : r = (C, T, N) := Option.some.inj (h1.symm.trans hc)
  subst hr
  obtain ⟨hS, hfc, kC, hkC, hkind⟩ := hK.1 ci _ hc
  obtain ⟨cf, kf, fi, f, hi, hsl⟩ := hS k hk
  have hlay := hts _ (hin _ (u_in_lay hk))
  unfold u_lay at hlay
  rw [if_pos hfin] at hlay
  have hst := (u_facts hfc hkC (u_lays hts hin hk) hi).1
  have hcf : m.cls = cf := by
    obtain ⟨_, _, c', _, _, _, -, -, hf', -, -, -, hown2, -⟩ := Cond.laysFinal_spec hlay
    have e1 : c' = cf := by have := hi.symm.trans hf'; simp at this; exact this.1.symm
    rw [hdecl] at hown2
    rw [← e1]; exact Option.some.inj (hown.symm.trans hown2)
  have h6 := u_fits hfc hkC hkind (Or.inr hlay) hi hd hn hfit
  refine W.putFinK hexec hb hown (hts _ hlink) (hsame _ hi) hst hcf hin2 (by rw [q2]; exact h6) q1 q3 (by rw [hsl]; exact k2_hasslot (q4 k hk)) rfl rfl hdg fun H' e1 e2 e3 => ?_
  rw [hsl] at e1 ⊢
  exact kk H' _ ⟨_, hc, t_OB.to (V := updV (vp_V fs) k v) ⟨_, e1, q2, q3, t_set q4 hap hk v⟩ (fun j _ => vp_updV_set hl v j)⟩ e2 e3 (hS0.put e2 e3 haA)
/-- a made text is a text -/
theorem mk_st (hWm : S0.WarmedH s.vm) (hz : SZ θ S0 H) (hts : ∀ w ∈ wG, w.before args s = true) {a b n : Nat} {x y : Value} (ho : OB θ H a 0 [.ref b, .int (iI 0), x, y]) (hB : BY θ H b n) : STg S0 H a b n := by
  obtain ⟨r, h1, cell, q1, q2, q3, q4⟩ := ho
  have hr : r = (RJ0, TJ0, 4) := Option.some.inj (h1.symm.trans rfl)
  subst hr
  obtain ⟨hSl, hfc, kC, hkC, hkind⟩ := hz.1.1 0 _ rfl
  have hK := sz_K hWm hz
  obtain ⟨-, hfc1, kC1, hkC1, -⟩ := hK.1 0 _ rfl
  have hof : ∀ k : Nat, k < 4 → ∀ v : Value, vp_V [.ref b, .int (iI 0), x, y] k = v → va_OF (TJ0 k).1 (TJ0 k).2.1 (TJ0 k).2.2.1 v a (fun _ => False) S0 H := by
    intro k hk v hv
    obtain ⟨cf, kf, fi, f, hi, hsl⟩ := hSl k hk
    obtain ⟨k', hi', -⟩ := State.fieldFound?_setVm hWm.alike hi
    have hst := (u_facts hfc1 hkC1 (u_lays hts gwJ0 hk) hi').1
    exact ⟨cf, kf, fi, f, cell, hi, hst, q1, by rw [q3]; exact (fun h => by cases h), by rw [hsl, q4 k hk, hv], id⟩
  obtain ⟨f, hf, hfit⟩ := BY.T hz.1 hB
  exact ⟨⟨cell, q1, by rw [q3]; rfl, by rw [q2]; exact hfc, id⟩, hof 1 (by decide) _ rfl, hof 0 (by decide) _ rfl, f, hf, hfit⟩
theorem e_b (hexec : p.tables.exec = Jvm.exec) (hb : c.code = cc) {ty : FieldType} {Rr : Option Value → Heap → Prop} {RX : String → Heap → Prop} (hr : meth.sig.returnType = some ty) (hlocks : meth.locks = false) {v : Int32} (hnr : narrow ty (.int v) = .int v) (hS : va_S A s.heap H locs) (d : decode cc pc = .ok (.ireturn, 1)) (hc : cells ≤ mc) (hs : slots ≤ ms) (hp : Rr (some (.int v)) H) : W p l e R s m args below meth c H locs cells slots (vx_MQ below (QH Rr A) (XH RX A) args s mc ms A) (F0 m pc ls [.int v]) :=
  W.widen hc hs (vx_ret (W.zret (v := v) hexec hb hr hnr (fun t ht _ => ⟨⟨_, rfl, by rw [ht]; exact hp⟩, hS.F ht⟩) hS.2.2 d hlocks))
theorem r_oinit (hexec : p.tables.exec = Jvm.exec) (hb : c.code = cc) {nL : Nat} {lv : List (Nat × Value)} (hml : c.maxLocals = nL) (hl : lv_has ls nL lv) (hts : ∀ w ∈ wG, w.before args s = true) {own : String} (hown : s.vm.findClass own = some m.cls) {idx a : Nat} (w1 : Cond.methodLink own idx Lib.objectInit ∈ wG) (w2 : Cond.instanceMethod Lib.objectInit ∈ wG) (w3 : Cond.code Lib.objectInit ⟨#[0xb1]⟩ 1 none ∈ wG) (d : decode cc pc = .ok (.invokespecial idx, 3)) (hframes : 1 ≤ R.frames) (hlocals : (rest.map fun v => v.category).sum + 12 ≤ R.locals)
    (kk : W p l e R s m args below meth c H locs cells slots Q (F0 m (pc + 3) ls rest)) : W p l e R s m args below meth c H locs cells slots Q (F0 m pc ls (.ref a :: rest)) :=
  W.objInit hexec hb hown (hts _ w1) (hts _ w2) (hts _ w3) rfl (by rw [hml]; exact hl.1) (rest := rest) rfl d hframes (by show 2 * 0 + _ + _ ≤ _; omega) kk
theorem q_shr0 (hexec : p.tables.exec = Jvm.exec) (hb : c.code = cc) {x : Int} (d : decode cc pc = .ok (.ishr, 1)) (k : W p l e R s m args below meth c H locs cells slots Q (F0 m (pc + 1) ls (.int (iI x) :: rest))) : W p l e R s m args below meth c H locs cells slots Q (F0 m pc ls (.int (iI 0) :: .int (iI x) :: rest)) := lv_ishr hexec hb d (by rw [show iI 0 = (0 : Int32) from rfl, sb_shr0]; exact k)
theorem q_shl0 (hexec : p.tables.exec = Jvm.exec) (hb : c.code = cc) {x : Int} (d : decode cc pc = .ok (.ishl, 1)) (k : W p l e R s m args below meth c H locs cells slots Q (F0 m (pc + 1) ls (.int (iI x) :: rest))) : W p l e R s m args below meth c H locs cells slots Q (F0 m pc ls (.int (iI 0) :: .int (iI x) :: rest)) := lv_ishl hexec hb d (by rw [show iI 0 = (0 : Int32) from rfl, sb_shl0]; exact k)
theorem q_ai (b : Int) {x : Int32} (h : x = iI b) (k : W p l e R s m args below meth c H locs cells slots Q (F0 m pc ls (.int (iI b) :: rest))) : W p l e R s m args below meth c H locs cells slots Q (F0 m pc ls (.int x :: rest)) := by rw [h]; exact k
end JR
