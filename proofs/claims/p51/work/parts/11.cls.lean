/-! the class's world: u 0 the object, u 1 its dates, u 2 .. u 4 its spans' years, months and days, u 5 its builder, u 6 the builder's bytes -/
/-- the bytes at a: n places -/
def AB (θ : TH) (H : Heap) (a n : Nat) (f : Nat → Int32) : Prop := H[a]? = some (vp_cell (θ.2.1 1) (n, .inl f))
theorem AB.kept {θ : TH} {H H1 : Heap} {a n : Nat} {f : Nat → Int32} (h : AB θ H a n f) (hq : H1[a]? = H[a]?) : AB θ H1 a n f := hq.trans h
theorem AB.lt {θ : TH} {H : Heap} {a n : Nat} {f : Nat → Int32} (h : AB θ H a n f) : a < H.size := (Array.getElem?_eq_some_iff.mp h).1
/-- a builder: count letters of one byte each -/
def SB (θ : TH) (H : Heap) (a b n : Nat) (cnt : Int) : Prop := ∃ (ml : Int32) (f : Nat → Int32), OB θ H a 1 [.ref b, .int 0, .int ml, .int (iI cnt)] ∧ AB θ H b n f ∧ sb_Fit f ∧ 0 ≤ cnt ∧ cnt ≤ (n : Int)
theorem SB.kept {θ : TH} {H H1 : Heap} {a b n : Nat} {cnt : Int} (h : SB θ H a b n cnt) (h1 : H1[a]? = H[a]?) (h2 : H1[b]? = H[b]?) : SB θ H1 a b n cnt := by
  obtain ⟨ml, f, p, q, r⟩ := h
  exact ⟨ml, f, p.kept h1, q.kept h2, r⟩
def CW (θ : TH) (u : Nat → Nat) (H : Heap) (dt sy sm sd : Nat → Int) (bc rf kn : Int) : Prop :=
  OB θ H (u 0) 7 [.ref (u 1), .ref (u 2), .ref (u 3), .ref (u 4), .ref (u 5), .int (iI bc), .int (iI rf), .int (iI kn)] ∧ AI θ H (u 1) 6 dt ∧ AI θ H (u 2) 3 sy ∧ AI θ H (u 3) 3 sm ∧ AI θ H (u 4) 3 sd ∧ (∃ cnt : Int, SB θ H (u 5) (u 6) 16 cnt)
/-- the seven are apart, and made by this run -/
def UW (θ : TH) (u : Nat → Nat) : Prop := (∀ i j : Nat, i < 7 → j < 7 → u i = u j → i = j) ∧ ∀ i : Nat, i < 7 → θ.2.2.2 ≤ u i
theorem CW.kept {θ : TH} {u : Nat → Nat} {H H1 : Heap} {dt sy sm sd : Nat → Int} {bc rf kn : Int} (h : CW θ u H dt sy sm sd bc rf kn) (hq : ∀ i : Nat, i < 7 → H1[u i]? = H[u i]?) : CW θ u H1 dt sy sm sd bc rf kn := by
  obtain ⟨h0, h1, h2, h3, h4, cnt, h5⟩ := h
  exact ⟨h0.kept (hq 0 (by decide)), h1.kept (hq 1 (by decide)), h2.kept (hq 2 (by decide)), h3.kept (hq 3 (by decide)), h4.kept (hq 4 (by decide)), cnt, h5.kept (hq 5 (by decide)) (hq 6 (by decide))⟩
theorem CW.lt {θ : TH} {u : Nat → Nat} {H : Heap} {dt sy sm sd : Nat → Int} {bc rf kn : Int} (h : CW θ u H dt sy sm sd bc rf kn) : ∀ i : Nat, i < 7 → u i < H.size := by
  obtain ⟨h0, h1, h2, h3, h4, cnt, ml, f, h5, h6, -⟩ := h
  intro i hi
  rcases (show i = 0 ∨ i = 1 ∨ i = 2 ∨ i = 3 ∨ i = 4 ∨ i = 5 ∨ i = 6 by omega) with rfl | rfl | rfl | rfl | rfl | rfl | rfl
  · exact h0.lt
  · exact h1.lt
  · exact h2.lt
  · exact h3.lt
  · exact h4.lt
  · exact h5.lt
  · exact h6.lt
/-- which cells the class's methods change: its own, and new ones -/
def UA (u : Nat → Nat) (sz : Nat) : Nat → Prop := fun q => (∃ i : Nat, i < 7 ∧ q = u i) ∨ sz ≤ q
abbrev rng (d : Int) : Prop := -4371587 ≤ d ∧ d ≤ 2932896
/-- what a method owes that only throws -/
abbrev TX (l : Launch) (y : MethodName) (cy : ByteArray) (n : Nat) (ret : Option FieldType) (F L : Nat) (As : List Value) (S0 : State) (H : Heap) (cls : String) : Prop := CT l y cy n ret F L 1 6 As S0 H (fun _ _ => False) (fun E H1 => E = cls ∧ H.size ≤ H1.size ∧ ∀ q : Nat, q < H.size → H1[q]? = H[q]?) (fun q => H.size ≤ q)
theorem hsbk {θ : TH} {u : Nat → Nat} {H H1 : Heap} (h : ∃ cnt : Int, SB θ H (u 5) (u 6) 16 cnt) (h1 : H1[u 5]? = H[u 5]?) (h2 : H1[u 6]? = H[u 6]?) : ∃ cnt : Int, SB θ H1 (u 5) (u 6) 16 cnt := h.elim fun c q => ⟨c, q.kept h1 h2⟩
theorem ua_b {θ : TH} {u : Nat → Nat} {sz : Nat} (hu : UW θ u) (hs : θ.2.2.2 ≤ sz) : ∀ q : Nat, UA u sz q → θ.2.2.2 ≤ q := fun q h => h.elim (fun ⟨i, hi, e⟩ => e ▸ hu.2 i hi) (fun h => Nat.le_trans hs h)
section CLS
variable {p : Program} {l : Launch} {e : Env} {R : Room} {s : State} {m : MethodId} {args : Array Value} {below : List Frame} {meth : Method} {c : Code} {H : Heap} {locs : List Loc} {cells slots : Nat} {Q : State → Prop} {cc : ByteArray} {pc : Nat} {ls : Array Slot} {rest : List Value} {θ : TH} {A A0 : Nat → Prop} {H0 : Heap} {S0 : State} {Rr : Option Value → Heap → Prop} {RX : String → Heap → Prop} {mc ms : Nat}
/-- a static call of a void method that only looks -/
theorem c_N {own : String} {idx n nL F L na : Nat} {y : MethodName} {cy : ByteArray} {As : List Value} {lv : List (Nat × Value)} (fx : FX p m c cc nL s args own S0) (hl : lv_has ls nL lv) (hM : CT l y cy n none F L 0 0 As S0 H (fun v H1 => v = none ∧ H1 = H) (fun _ _ => False) (fun _ => False)) (d : decode cc pc = .ok (.invokestatic idx, 3)) (w1 : Cond.methodLink own idx y ∈ wG) (w2 : Cond.static y ∈ wG) (w3 : Cond.initialized y.cls ∈ wG) (w4 : Cond.code y cy n none ∈ wG) (hd : y.cls ≠ "java/lang/invoke/MethodHandle" ∧ y.cls ≠ "java/lang/invoke/VarHandle" ∧ (parseMethodDescriptor y.desc).map (fun d => d.parameters.length) = some na) (hn : As.length = na)
    (hR : F + 1 ≤ R.frames ∧ 8 + (n + 11) + L ≤ R.locals) (hW : (rest.map fun v => v.category).sum ≤ 8) (hcs : cells ≤ R.cells ∧ slots ≤ R.slots)
    (kk : W p l e R s m args below meth c H locs cells slots Q (F0 m (pc + 3) ls rest)) : W p l e R s m args below meth c H locs cells slots Q (F0 m pc ls (As.reverse ++ rest)) := by
  intro T hT X
  obtain ⟨f1, f2⟩ := id fx
  have fx' : FX p m c cc c.maxLocals s args own S0 := by rw [f1.2.2.1]; exact fx
  rcases vx_runS (As := As) (rest := rest) (g := F0 m pc ls (As.reverse ++ rest)) f1 hM ⟨cb_of fx' w1 w3 w4 hd hR, f1.2.2.2.2 _ w2⟩ ⟨ph_blind, fun U hU hW => ⟨rfl, hU, f2.trans hW⟩⟩ rfl hn hl.1 rfl (lv_room hW) d hcs T hT X with ⟨v, st₀, t, T', L, h0, X', hL, e1, e2, ⟨⟨v', hv, rfl, hh⟩, hF⟩, st⟩ | ⟨q, st₀, t, T', L, E, ce, h0, X', hL, e1, e2, ⟨hp, hF⟩, hce, hcv, hcl, st⟩
  · cases hv
    have hL0 : L = [] := by
      cases L with
      | nil => rfl
      | cons z t => exact (hL z List.mem_cons_self).elim
    subst hL0
    rw [List.append_nil] at X'
    obtain ⟨t2, a1, b1⟩ := kk T' (e1.trans hh) X'
    exact ⟨t2, st t2 a1, b1⟩
  · exact hp.elim
/-- a static call that throws, and nothing here catches it -/
theorem e_cT {own cls : String} {idx n nL F L na : Nat} {y : MethodName} {cy : ByteArray} {rt : Option FieldType} {As : List Value} {lv : List (Nat × Value)} (fx : FX p m c cc nL s args own S0) (hl : lv_has ls nL lv) (hM : TX l y cy n rt F L As S0 H cls) (d : decode cc pc = .ok (.invokestatic idx, 3)) (w1 : Cond.methodLink own idx y ∈ wG) (w2 : Cond.static y ∈ wG) (w3 : Cond.initialized y.cls ∈ wG) (w4 : Cond.code y cy n rt ∈ wG) (hd : y.cls ≠ "java/lang/invoke/MethodHandle" ∧ y.cls ≠ "java/lang/invoke/VarHandle" ∧ (parseMethodDescriptor y.desc).map (fun d => d.parameters.length) = some na) (hn : As.length = na)
    (hR : F + 1 ≤ R.frames ∧ 8 + (n + 11) + L ≤ R.locals) (hW : (rest.map fun v => v.category).sum ≤ 8) (hcs : cells + 1 ≤ R.cells ∧ slots + 6 ≤ R.slots) (hc : cells + 1 ≤ mc ∧ slots + 6 ≤ ms) (hS : va_S A s.heap H locs) (hf : ∀ q, s.heap.size ≤ q → A q) (hxt : ∀ x ∈ c.exceptionTable.toList, False) (hlk : meth.locks = false)
    (hp : ∀ H1 : Heap, H.size ≤ H1.size → (∀ q : Nat, q < H.size → H1[q]? = H[q]?) → RX cls H1) : W p l e R s m args below meth c H locs cells slots (vx_MQ below (QH Rr A) (XH RX A) args s mc ms A) (F0 m pc ls (As.reverse ++ rest)) := by
  refine c_S (As := As) (rest := rest) fx hl hM d w1 w2 w3 w4 hd hn hR hW hcs hS (fun q h => hf q (Nat.le_trans hS.1 h)) (fun E ce q9 H1 locs1 hrx hz hk hS1 hce hcv hcl => ?_) (fun v H1 locs1 hv => hv.elim)
  obtain ⟨rfl, hz1, hk1⟩ := hrx
  exact vx_out (fun x hx => (hxt x hx).elim) hlk hce hcv hcl (fun t ht hal => ⟨by rw [ht]; exact hp H1 hz1 hk1, hS1.F ht⟩) hS1.2.2 hc.1 hc.2
/-- a table's row k, and behind the table -/
theorem q_tabI (hexec : p.tables.exec = Jvm.exec) (hb : c.code = cc) {dflt lo hi : Int} {offs : Array Int} {len : Nat} {z : Int} {off : Int} {tgt : Nat} (k : Nat) (hdg : decode cc pc = .ok (.tableswitch dflt lo hi offs, len)) (hz : -2147483648 ≤ z ∧ z < 2147483648) (hk : z = lo + k) (h2 : z ≤ hi) (ho : offs[k]? = some off) (ht : (pc : Int) + off = (tgt : Int)) (kk : W p l e R s m args below meth c H locs cells slots Q (F0 m tgt ls rest)) : W p l e R s m args below meth c H locs cells slots Q (F0 m pc ls (.int (iI z) :: rest)) :=
  lv_tableIn hexec hb hdg (by rw [iI_t hz]; omega) (by rw [iI_t hz]; omega) (by rw [iI_t hz, show (z - lo).toNat = k by omega]; exact ho) ht kk
theorem q_tabO (hexec : p.tables.exec = Jvm.exec) (hb : c.code = cc) {dflt lo hi : Int} {offs : Array Int} {len : Nat} {z : Int} {tgt : Nat} (hdg : decode cc pc = .ok (.tableswitch dflt lo hi offs, len)) (hz : -2147483648 ≤ z ∧ z < 2147483648) (h : z < lo ∨ hi < z) (ht : (pc : Int) + dflt = (tgt : Int)) (kk : W p l e R s m args below meth c H locs cells slots Q (F0 m tgt ls rest)) : W p l e R s m args below meth c H locs cells slots Q (F0 m pc ls (.int (iI z) :: rest)) :=
  lv_tableOut hexec hb hdg (by rw [iI_t hz]; exact h) ht kk
/-- a reader of the class whose answer is left open -/
theorem c_HA {own C : String} {idx n nL F L b na : Nat} {y : MethodName} {cy : ByteArray} {rt : Option FieldType} {As : List Value} {f : Int → Value} {lv : List (Nat × Value)} (fx : FX p m c cc nL s args own S0) (hl : lv_has ls nL lv) (hM : CT l y cy n rt F L 0 0 (.ref b :: As) S0 H (fun v H1 => (∃ z : Int, v = some (f z)) ∧ H1 = H) (fun _ _ => False) (fun _ => False)) (hrec : ∃ cellB : Cell, H[b]? = some cellB ∧ cellB.vm.isStatics = false ∧ s.vm.findClass C = some cellB.cls) (d : decode cc pc = .ok (.invokevirtual idx, 3)) (w1 : Cond.methodLink own idx y ∈ wG) (w2 : Cond.instanceMethod y ∈ wG) (w5 : Cond.selects C y y ∈ wG) (w3 : Cond.initialized y.cls ∈ wG) (w4 : Cond.code y cy n rt ∈ wG) (hd : y.cls ≠ "java/lang/invoke/MethodHandle" ∧ y.cls ≠ "java/lang/invoke/VarHandle" ∧ (parseMethodDescriptor y.desc).map (fun d => d.parameters.length) = some na) (hn : As.length = na)
    (hR : F + 1 ≤ R.frames ∧ 8 + (n + 11) + L ≤ R.locals) (hW : (rest.map fun v => v.category).sum ≤ 8) (hcs : cells ≤ R.cells ∧ slots ≤ R.slots)
    (kk : ∀ z : Int, W p l e R s m args below meth c H locs cells slots Q (F0 m (pc + 3) ls (f z :: rest))) : W p l e R s m args below meth c H locs cells slots Q (F0 m pc ls (As.reverse ++ .ref b :: rest)) := by
  intro T hT X
  obtain ⟨f1, f2⟩ := id fx
  have fx' : FX p m c cc c.maxLocals s args own S0 := by rw [f1.2.2.1]; exact fx
  rcases vx_runV (As := As) (rest := rest) (g := F0 m pc ls (As.reverse ++ .ref b :: rest)) f1 hM ⟨cb_of fx' w1 w3 w4 hd hR, f1.2.2.2.2 _ w2, f1.2.2.2.2 _ w5⟩ ⟨ph_blind, hrec, fun U hU hW => ⟨rfl, hU, f2.trans hW⟩⟩ rfl hn hl.1 rfl (lv_room hW) d hcs T hT X with ⟨v, st₀, t, T', L, h0, X', hL, e1, e2, ⟨⟨v', hv, ⟨z, rfl⟩, hh⟩, hF⟩, st⟩ | ⟨q, st₀, t, T', L, E, ce, h0, X', hL, e1, e2, ⟨hp, hF⟩, hce, hcv, hcl, st⟩
  · cases hv
    have hL0 : L = [] := by
      cases L with
      | nil => rfl
      | cons z t => exact (hL z List.mem_cons_self).elim
    subst hL0
    rw [List.append_nil] at X'
    obtain ⟨t2, a1, b1⟩ := kk z T' (e1.trans hh) X'
    exact ⟨t2, st t2 a1, b1⟩
  · exact hp.elim
/-- the same, yes or no -/
theorem c_HB {own C : String} {idx n nL F L b na : Nat} {y : MethodName} {cy : ByteArray} {rt : Option FieldType} {As : List Value} {lv : List (Nat × Value)} (fx : FX p m c cc nL s args own S0) (hl : lv_has ls nL lv) (hM : CT l y cy n rt F L 0 0 (.ref b :: As) S0 H (fun v H1 => (∃ z : Int, (z = 0 ∨ z = 1) ∧ v = some (.int (iI z))) ∧ H1 = H) (fun _ _ => False) (fun _ => False)) (hrec : ∃ cellB : Cell, H[b]? = some cellB ∧ cellB.vm.isStatics = false ∧ s.vm.findClass C = some cellB.cls) (d : decode cc pc = .ok (.invokevirtual idx, 3)) (w1 : Cond.methodLink own idx y ∈ wG) (w2 : Cond.instanceMethod y ∈ wG) (w5 : Cond.selects C y y ∈ wG) (w3 : Cond.initialized y.cls ∈ wG) (w4 : Cond.code y cy n rt ∈ wG) (hd : y.cls ≠ "java/lang/invoke/MethodHandle" ∧ y.cls ≠ "java/lang/invoke/VarHandle" ∧ (parseMethodDescriptor y.desc).map (fun d => d.parameters.length) = some na) (hn : As.length = na)
    (hR : F + 1 ≤ R.frames ∧ 8 + (n + 11) + L ≤ R.locals) (hW : (rest.map fun v => v.category).sum ≤ 8) (hcs : cells ≤ R.cells ∧ slots ≤ R.slots)
    (kk : ∀ z : Int, (z = 0 ∨ z = 1) → W p l e R s m args below meth c H locs cells slots Q (F0 m (pc + 3) ls (.int (iI z) :: rest))) : W p l e R s m args below meth c H locs cells slots Q (F0 m pc ls (As.reverse ++ .ref b :: rest)) := by
  intro T hT X
  obtain ⟨f1, f2⟩ := id fx
  have fx' : FX p m c cc c.maxLocals s args own S0 := by rw [f1.2.2.1]; exact fx
  rcases vx_runV (As := As) (rest := rest) (g := F0 m pc ls (As.reverse ++ .ref b :: rest)) f1 hM ⟨cb_of fx' w1 w3 w4 hd hR, f1.2.2.2.2 _ w2, f1.2.2.2.2 _ w5⟩ ⟨ph_blind, hrec, fun U hU hW => ⟨rfl, hU, f2.trans hW⟩⟩ rfl hn hl.1 rfl (lv_room hW) d hcs T hT X with ⟨v, st₀, t, T', L, h0, X', hL, e1, e2, ⟨⟨v', hv, ⟨z, hz01, rfl⟩, hh⟩, hF⟩, st⟩ | ⟨q, st₀, t, T', L, E, ce, h0, X', hL, e1, e2, ⟨hp, hF⟩, hce, hcv, hcl, st⟩
  · cases hv
    have hL0 : L = [] := by
      cases L with
      | nil => rfl
      | cons z t => exact (hL z List.mem_cons_self).elim
    subst hL0
    rw [List.append_nil] at X'
    obtain ⟨t2, a1, b1⟩ := kk z hz01 T' (e1.trans hh) X'
    exact ⟨t2, st t2 a1, b1⟩
  · exact hp.elim
/-- a writer of the class that answers -/
theorem c_W {u : Nat → Nat} {P : Heap → Prop} {own C : String} {idx n nL F L b na mc ms : Nat} {y : MethodName} {cy : ByteArray} {rt : Option FieldType} {As : List Value} {r : Value} {lv : List (Nat × Value)} (fx : FX p m c cc nL s args own S0) (hl : lv_has ls nL lv) (hM : CT l y cy n rt F L mc ms (.ref b :: As) S0 H (fun v H1 => v = some r ∧ P H1) (fun _ _ => False) (UA u H.size)) (hrec : ∃ cellB : Cell, H[b]? = some cellB ∧ cellB.vm.isStatics = false ∧ s.vm.findClass C = some cellB.cls) (d : decode cc pc = .ok (.invokevirtual idx, 3)) (w1 : Cond.methodLink own idx y ∈ wG) (w2 : Cond.instanceMethod y ∈ wG) (w5 : Cond.selects C y y ∈ wG) (w3 : Cond.initialized y.cls ∈ wG) (w4 : Cond.code y cy n rt ∈ wG) (hd : y.cls ≠ "java/lang/invoke/MethodHandle" ∧ y.cls ≠ "java/lang/invoke/VarHandle" ∧ (parseMethodDescriptor y.desc).map (fun d => d.parameters.length) = some na) (hn : As.length = na)
    (hR : F + 1 ≤ R.frames ∧ 8 + (n + 11) + L ≤ R.locals) (hW : (rest.map fun v => v.category).sum ≤ 8) (hcs : cells + mc ≤ R.cells ∧ slots + ms ≤ R.slots) (hS : va_S A0 H0 H locs) (hf : ∀ q, UA u H.size q → A0 q)
    (kk : ∀ (H1 : Heap) (locs1 : List Loc), P H1 → H.size ≤ H1.size → (∀ q : Nat, q < H.size → ¬ UA u H.size q → H1[q]? = H[q]?) → va_S A0 H0 H1 locs1 → W p l e R s m args below meth c H1 locs1 (cells + mc) (slots + ms) Q (F0 m (pc + 3) ls (r :: rest))) : W p l e R s m args below meth c H locs cells slots Q (F0 m pc ls (As.reverse ++ .ref b :: rest)) :=
  c_V (As := As) (rest := rest) fx hl hM hrec d w1 w2 w5 w3 w4 hd hn hR hW hcs hS hf (fun _ _ _ _ _ h => h.elim) (fun v H1 locs1 hv hz hk hS1 => by obtain ⟨rfl, hp⟩ := hv; exact kk H1 locs1 hp hz hk hS1)
theorem c_Wv {u : Nat → Nat} {P : Heap → Prop} {own C : String} {idx n nL F L b na mc ms : Nat} {y : MethodName} {cy : ByteArray} {rt : Option FieldType} {As : List Value} {lv : List (Nat × Value)} (fx : FX p m c cc nL s args own S0) (hl : lv_has ls nL lv) (hM : CT l y cy n rt F L mc ms (.ref b :: As) S0 H (fun v H1 => v = none ∧ P H1) (fun _ _ => False) (UA u H.size)) (hrec : ∃ cellB : Cell, H[b]? = some cellB ∧ cellB.vm.isStatics = false ∧ s.vm.findClass C = some cellB.cls) (d : decode cc pc = .ok (.invokevirtual idx, 3)) (w1 : Cond.methodLink own idx y ∈ wG) (w2 : Cond.instanceMethod y ∈ wG) (w5 : Cond.selects C y y ∈ wG) (w3 : Cond.initialized y.cls ∈ wG) (w4 : Cond.code y cy n rt ∈ wG) (hd : y.cls ≠ "java/lang/invoke/MethodHandle" ∧ y.cls ≠ "java/lang/invoke/VarHandle" ∧ (parseMethodDescriptor y.desc).map (fun d => d.parameters.length) = some na) (hn : As.length = na)
    (hR : F + 1 ≤ R.frames ∧ 8 + (n + 11) + L ≤ R.locals) (hW : (rest.map fun v => v.category).sum ≤ 8) (hcs : cells + mc ≤ R.cells ∧ slots + ms ≤ R.slots) (hS : va_S A0 H0 H locs) (hf : ∀ q, UA u H.size q → A0 q)
    (kk : ∀ (H1 : Heap) (locs1 : List Loc), P H1 → H.size ≤ H1.size → (∀ q : Nat, q < H.size → ¬ UA u H.size q → H1[q]? = H[q]?) → va_S A0 H0 H1 locs1 → W p l e R s m args below meth c H1 locs1 (cells + mc) (slots + ms) Q (F0 m (pc + 3) ls rest)) : W p l e R s m args below meth c H locs cells slots Q (F0 m pc ls (As.reverse ++ .ref b :: rest)) :=
  c_V (As := As) (rest := rest) fx hl hM hrec d w1 w2 w5 w3 w4 hd hn hR hW hcs hS hf (fun _ _ _ _ _ h => h.elim) (fun v H1 locs1 hv hz hk hS1 => by obtain ⟨rfl, hp⟩ := hv; exact kk H1 locs1 hp hz hk hS1)
/-- acts, one behind the other -/
def itA (d n k : Int) : Nat → Int
  | 0 => d
  | j + 1 => shI (itA d n k j) n + k
theorem itA_s (d n k j : Int) (h : 0 ≤ j) : itA d n k (j + 1).toNat = shI (itA d n k j.toNat) n + k := by
  rw [show (j + 1).toNat = j.toNat + 1 by omega]
  rfl
end CLS
abbrev spr (sy sm sd : Nat → Int) (j : Nat) : Prop := -20000 ≤ sy j ∧ sy j ≤ 20000 ∧ -240000 ≤ sm j ∧ sm j ≤ 240000 ∧ -100000 ≤ sd j ∧ sd j ≤ 100000
/-- the class's world, sound, in a heap whose statics are as the tables say -/
def CWR (θ : TH) (S0 : State) (u : Nat → Nat) (H : Heap) (dt sy sm sd : Nat → Int) (bc rf kn : Int) : Prop :=
  SZ θ S0 H ∧ UW θ u ∧ CW θ u H dt sy sm sd bc rf kn ∧ (∀ j : Nat, j < 6 → rng (dt j)) ∧ ∀ j : Nat, j < 3 → spr sy sm sd j
