/-! the reference's world: w 0 the object, w 1 its dates' rows, w 2 its spans' rows -/
def MW (θ : TH) (w : Nat → Nat) (H : Heap) (r q : Nat → Nat) (dt : Nat → Int) (sv : Nat → Nat → Int) (th dn rf kn : Int) : Prop :=
  OB θ H (w 0) 9 [.int (iI th), .int (iI dn), .int (iI rf), .int (iI kn), .ref (w 1), .ref (w 2)] ∧ AR θ H (w 1) 6 r ∧ AR θ H (w 2) 3 q ∧ (∀ j : Nat, j < 6 → DR θ H (r j) (dt j) ∧ r j ≠ w 0 ∧ r j ≠ w 1 ∧ r j ≠ w 2) ∧ (∀ j : Nat, j < 3 → AI θ H (q j) 3 (sv j) ∧ q j ≠ w 0 ∧ q j ≠ w 1 ∧ q j ≠ w 2)
def VW (θ : TH) (w : Nat → Nat) : Prop := (w 0 ≠ w 1 ∧ w 0 ≠ w 2 ∧ w 1 ≠ w 2) ∧ θ.2.2.2 ≤ w 0 ∧ θ.2.2.2 ≤ w 1 ∧ θ.2.2.2 ≤ w 2
abbrev svr (sv : Nat → Nat → Int) (j : Nat) : Prop := -20000 ≤ sv j 0 ∧ sv j 0 ≤ 20000 ∧ -240000 ≤ sv j 1 ∧ sv j 1 ≤ 240000 ∧ -100000 ≤ sv j 2 ∧ sv j 2 ≤ 100000
def MWR (θ : TH) (S0 : State) (w : Nat → Nat) (H : Heap) (r q : Nat → Nat) (dt : Nat → Int) (sv : Nat → Nat → Int) (th dn rf kn : Int) : Prop :=
  SZ θ S0 H ∧ VW θ w ∧ MW θ w H r q dt sv th dn rf kn ∧ (∀ j : Nat, j < 6 → rng (dt j)) ∧ ∀ j : Nat, j < 3 → svr sv j
theorem MW.kept {θ : TH} {w : Nat → Nat} {H H1 : Heap} {r q : Nat → Nat} {dt : Nat → Int} {sv : Nat → Nat → Int} {th dn rf kn : Int} (h : MW θ w H r q dt sv th dn rf kn) (hk : ∀ x : Nat, x < H.size → H1[x]? = H[x]?) : MW θ w H1 r q dt sv th dn rf kn := by
  obtain ⟨h0, h1, h2, h3, h4⟩ := h
  exact ⟨h0.kept (hk _ h0.lt), h1.kept (hk _ h1.lt), h2.kept (hk _ h2.lt), fun j hj => ⟨(h3 j hj).1.kept (hk _ (h3 j hj).1.lt), (h3 j hj).2⟩, fun j hj => ⟨(h4 j hj).1.kept (hk _ (h4 j hj).1.lt), (h4 j hj).2⟩⟩
/-- the rows g: rows of f, or new ones -/
def NW (n sz : Nat) (f g : Nat → Nat) : Prop := ∀ j : Nat, j < n → (∃ i : Nat, i < n ∧ g j = f i) ∨ sz ≤ g j
theorem nw_rf {n sz : Nat} {f : Nat → Nat} : NW n sz f f := fun j hj => Or.inl ⟨j, hj, rfl⟩
theorem nw_up {n sz k a : Nat} {f : Nat → Nat} (h : sz ≤ a) : NW n sz f (up f k a) := fun j hj => by
  by_cases e : j = k
  · subst e
    rw [up_s]
    exact Or.inr h
  · rw [up_n _ _ e]
    exact Or.inl ⟨j, hj, rfl⟩
theorem nw_up2 {n sz k i : Nat} {f : Nat → Nat} (h : i < n) : NW n sz f (up f k (f i)) := fun j hj => by
  by_cases e : j = k
  · subst e
    rw [up_s]
    exact Or.inl ⟨i, h, rfl⟩
  · rw [up_n _ _ e]
    exact Or.inl ⟨j, hj, rfl⟩
def WA (w : Nat → Nat) (sz : Nat) : Nat → Prop := fun x => (x = w 0 ∨ x = w 1 ∨ x = w 2) ∨ sz ≤ x
theorem wa_b {θ : TH} {w : Nat → Nat} {sz : Nat} (hu : VW θ w) (hs : θ.2.2.2 ≤ sz) : ∀ q : Nat, WA w sz q → θ.2.2.2 ≤ q := fun q h => h.elim (fun h => h.elim (fun e => e ▸ hu.2.1) (fun h => h.elim (fun e => e ▸ hu.2.2.1) (fun e => e ▸ hu.2.2.2))) (fun h => Nat.le_trans hs h)
theorem MW.lt {θ : TH} {w : Nat → Nat} {H : Heap} {r q : Nat → Nat} {dt : Nat → Int} {sv : Nat → Nat → Int} {th dn rf kn : Int} (h : MW θ w H r q dt sv th dn rf kn) : w 0 < H.size ∧ w 1 < H.size ∧ w 2 < H.size := ⟨h.1.lt, h.2.1.lt, h.2.2.1.lt⟩
/-- the object's numbers are written -/
theorem MW.obj {θ : TH} {w : Nat → Nat} {H H1 : Heap} {r q : Nat → Nat} {dt : Nat → Int} {sv : Nat → Nat → Int} {th dn rf kn th' dn' rf' kn' : Int} (hu : VW θ w) (h : MW θ w H r q dt sv th dn rf kn) (ho : OB θ H1 (w 0) 9 [.int (iI th'), .int (iI dn'), .int (iI rf'), .int (iI kn'), .ref (w 1), .ref (w 2)]) (hk : ∀ x : Nat, x ≠ w 0 → H1[x]? = H[x]?) : MW θ w H1 r q dt sv th' dn' rf' kn' := by
  obtain ⟨h0, h1, h2, h3, h4⟩ := h
  exact ⟨ho, h1.kept (hk _ (Ne.symm hu.1.1)), h2.kept (hk _ (Ne.symm hu.1.2.1)), fun j hj => ⟨(h3 j hj).1.kept (hk _ (h3 j hj).2.1), (h3 j hj).2⟩, fun j hj => ⟨(h4 j hj).1.kept (hk _ (h4 j hj).2.1), (h4 j hj).2⟩⟩
/-- a date's row is put -/
theorem MW.date {θ : TH} {w : Nat → Nat} {H H1 : Heap} {r q : Nat → Nat} {dt : Nat → Int} {sv : Nat → Nat → Int} {th dn rf kn : Int} {a p : Nat} {d : Int} (hu : VW θ w) (h : MW θ w H r q dt sv th dn rf kn) (ha : AR θ H1 (w 1) 6 (up r p a)) (hd : DR θ H a d) (hn : a ≠ w 0 ∧ a ≠ w 1 ∧ a ≠ w 2) (hk : ∀ x : Nat, x ≠ w 1 → H1[x]? = H[x]?) : MW θ w H1 (up r p a) q (up dt p d) sv th dn rf kn := by
  obtain ⟨h0, h1, h2, h3, h4⟩ := h
  refine ⟨h0.kept (hk _ hu.1.1), ha, h2.kept (hk _ (Ne.symm hu.1.2.2)), fun j hj => ?_, fun j hj => ⟨(h4 j hj).1.kept (hk _ (h4 j hj).2.2.1), (h4 j hj).2⟩⟩
  by_cases e : j = p
  · subst e
    rw [up_s, up_s]
    exact ⟨hd.kept (hk _ hn.2.1), hn⟩
  · rw [up_n _ _ e, up_n _ _ e]
    exact ⟨(h3 j hj).1.kept (hk _ (h3 j hj).2.2.1), (h3 j hj).2⟩
/-- a span's row is put -/
theorem MW.span {θ : TH} {w : Nat → Nat} {H H1 : Heap} {r q : Nat → Nat} {dt : Nat → Int} {sv : Nat → Nat → Int} {th dn rf kn : Int} {a p : Nat} {g : Nat → Int} (hu : VW θ w) (h : MW θ w H r q dt sv th dn rf kn) (ha : AR θ H1 (w 2) 3 (up q p a)) (hd : AI θ H a 3 g) (hn : a ≠ w 0 ∧ a ≠ w 1 ∧ a ≠ w 2) (hk : ∀ x : Nat, x ≠ w 2 → H1[x]? = H[x]?) : MW θ w H1 r (up q p a) dt (up sv p g) th dn rf kn := by
  obtain ⟨h0, h1, h2, h3, h4⟩ := h
  refine ⟨h0.kept (hk _ hu.1.2.1), h1.kept (hk _ hu.1.2.2), ha, fun j hj => ⟨(h3 j hj).1.kept (hk _ (h3 j hj).2.2.2), (h3 j hj).2⟩, fun j hj => ?_⟩
  by_cases e : j = p
  · subst e
    rw [up_s, up_s]
    exact ⟨hd.kept (hk _ hn.2.2), hn⟩
  · rw [up_n _ _ e, up_n _ _ e]
    exact ⟨(h4 j hj).1.kept (hk _ (h4 j hj).2.2.2), (h4 j hj).2⟩
theorem fails_ex (a b c : Int) (ha : a = 0 ∨ a = 1) (hb : b = 0 ∨ b = 1) (hc : c = 0 ∨ c = 1) : ∃ t f : Int, ((a = 1 ∧ t = 1) ∨ (a = 0 ∧ b = 1 ∧ t = 2) ∨ (a = 0 ∧ b = 0 ∧ c = 1 ∧ t = 3) ∨ (a = 0 ∧ b = 0 ∧ c = 0 ∧ t = 0)) ∧ ((t = 0 ∧ f = 0) ∨ (0 < t ∧ f = 1)) := by
  rcases ha with ha | ha
  · rcases hb with hb | hb
    · rcases hc with hc | hc
      · exact ⟨0, 0, by omega, by omega⟩
      · exact ⟨3, 1, by omega, by omega⟩
    · exact ⟨2, 1, by omega, by omega⟩
  · exact ⟨1, 1, by omega, by omega⟩
/-- rows of int rows: their class, out of the tables' word -/
theorem aov_spec {S : State} (h : va_Nw (.arrayOver (.array .int)) S) : ∃ (comp c : ClassId) (k : Class), S.vm.findClass (FieldType.array .int).toString = some comp ∧ S.vm.classes[c]? = some k ∧ k.kind = .array comp (.array .int) ∧ S.vm.findClass ("[" ++ (FieldType.array .int).toString) = some c := by
  unfold va_Nw Cond.before at h
  simp only [Cond.holds, Cond.value, beq_iff_eq] at h
  cases hc : S.vm.findClass (FieldType.array .int).toString with
  | none =>
    rw [hc] at h
    simp at h
  | some comp =>
    rw [hc] at h
    simp only [Option.bind_some, Option.bind_eq_some_iff, Option.map_eq_some_iff] at h
    obtain ⟨c, hi, k, hk, hb⟩ := h
    have hp := (Array.findIdx?_eq_some_iff_getElem.mp hi).2.1
    rw [(Array.getElem?_eq_some_iff.mp hk).2] at hp
    cases hkind : k.kind with
    | array component ty =>
      rw [hkind] at hb hp
      simp at hb hp
      exact ⟨comp, c, k, rfl, hk, by rw [hkind, hp, hb.1], hb.2⟩
    | _ =>
      rw [hkind] at hb
      simp at hb
section MOD
variable {p : Program} {l : Launch} {e : Env} {R : Room} {s : State} {m : MethodId} {args : Array Value} {below : List Frame} {meth : Method} {c : Code} {H : Heap} {locs : List Loc} {cells slots : Nat} {Q : State → Prop} {cc : ByteArray} {pc : Nat} {ls : Array Slot} {rest : List Value} {θ : TH} {A A0 : Nat → Prop} {H0 : Heap} {S0 : State}
/-- a row of ints is put into an array of rows -/
theorem r_aast (hexec : p.tables.exec = Jvm.exec) (hb : c.code = cc) (hW : S0.WarmedH s.vm) (hz : SZ θ S0 s.heap) {a v n nv : Nat} {r : Nat → Nat} {g : Nat → Int} (ha : AR θ H a n r) (hv : AI θ H v nv g) (haA : A a) (hS : va_S A H0 H locs) {i : Int} (hi : 0 ≤ i ∧ i < (n : Int)) (hn : n < 2147483648) (d : decode cc pc = .ok (.aastore, 1))
    (kk : ∀ (H1 : Heap) (locs1 : List Loc), AR θ H1 a n (up r i.toNat v) → H1.size = H.size → (∀ q : Nat, q ≠ a → H1[q]? = H[q]?) → va_S A H0 H1 locs1 → W p l e R s m args below meth c H1 locs1 cells slots Q (F0 m (pc + 1) ls rest)) : W p l e R s m args below meth c H locs cells slots Q (F0 m pc ls (.ref v :: .int (iI i) :: .ref a :: rest)) := by
  have hK := sz_K hW hz
  have hin := vp_in_I hi hn
  have hlt : (iI i).toNatClampNeg < n := Nat.not_le.mp fun q => hin (Or.inr q)
  have h0 : ¬ iI i < 0 := fun q => hin (Or.inl q)
  have e1 : (iI i).toNatClampNeg = i.toNat := iI_nn (by omega)
  obtain ⟨comp, c9, k8, k1, k7, k6, k4⟩ := aov_spec hz.2.2.2.2.2.2.2.1
  obtain ⟨k9, k2, he9⟩ := hW.alike.2.2 _ _ k7
  have k3 : k9.kind = .array comp (.array .int) := by rw [he9]; exact k6
  have f3 : S0.vm.findClass ("[" ++ (FieldType.array .int).toString) = some (θ.2.1 3) := (hz.1.2 3 _ rfl).2
  have f0 : S0.vm.findClass ("[" ++ FieldType.int.toString) = some (θ.2.1 0) := (hz.1.2 0 _ rfl).2
  have f1 : s.vm.findClass ("[" ++ FieldType.int.toString) = some (θ.2.1 0) := (hK.2 0 _ rfl).2
  have e3 : c9 = θ.2.1 3 := Option.some.inj (k4.symm.trans f3)
  have e0 : comp = θ.2.1 0 := Option.some.inj (k1.symm.trans f0)
  subst e3
  subst e0
  obtain ⟨kE, hkE, -⟩ := Vm.findClass_spec f1
  have hself : s.vm.assignable (θ.2.1 0) (θ.2.1 0) = true := by
    show s.vm.assignableAux (255 + 1) _ _ = true
    rw [Vm.assignableAux]
    simp only [beq_self_eq_true, Bool.true_or]
  refine W.aast hexec hb ha (fun q h => by cases h) (fun h => by cases h) k2 k3 rfl hkE ⟨h0, by show _ < (arrV _ _ _).slots.size; rw [arrV_size]; exact hlt⟩ hv (fun q h => by cases h) hkE hself rfl rfl d fun H1 e z oq => ?_
  refine kk H1 _ ?_ z oq (hS.put z oq haA)
  show H1[a]? = some (vp_cell _ _)
  rw [e]
  rw [vp_cell_q, vp_cell_q, arrV_store, e1]
  congr 1
  refine arrV_ext fun j _ => ?_
  unfold updV up
  by_cases hq : j = i.toNat
  · subst hq
    simp [va_rf]
  · simp [hq]
/-- a method of the reference that answers v and leaves P -/
theorem c_M {w : Nat → Nat} {P : Heap → Prop} {A1 : Nat → Prop} {own C : String} {idx n nL F L b na mc ms : Nat} {y : MethodName} {cy : ByteArray} {rt : Option FieldType} {As : List Value} {r : Value} {lv : List (Nat × Value)} (fx : FX p m c cc nL s args own S0) (hl : lv_has ls nL lv) (hM : CT l y cy n rt F L mc ms (.ref b :: As) S0 H (fun v H1 => v = some r ∧ P H1) (fun _ _ => False) A1) (hrec : ∃ cellB : Cell, H[b]? = some cellB ∧ cellB.vm.isStatics = false ∧ s.vm.findClass C = some cellB.cls) (d : decode cc pc = .ok (.invokevirtual idx, 3)) (w1 : Cond.methodLink own idx y ∈ wG) (w2 : Cond.instanceMethod y ∈ wG) (w5 : Cond.selects C y y ∈ wG) (w3 : Cond.initialized y.cls ∈ wG) (w4 : Cond.code y cy n rt ∈ wG) (hd : y.cls ≠ "java/lang/invoke/MethodHandle" ∧ y.cls ≠ "java/lang/invoke/VarHandle" ∧ (parseMethodDescriptor y.desc).map (fun d => d.parameters.length) = some na) (hn : As.length = na)
    (hR : F + 1 ≤ R.frames ∧ 8 + (n + 11) + L ≤ R.locals) (hW : (rest.map fun v => v.category).sum ≤ 8) (hcs : cells + mc ≤ R.cells ∧ slots + ms ≤ R.slots) (hS : va_S A0 H0 H locs) (hf : ∀ q, A1 q → A0 q)
    (kk : ∀ (H1 : Heap) (locs1 : List Loc), P H1 → H.size ≤ H1.size → (∀ q : Nat, q < H.size → ¬ A1 q → H1[q]? = H[q]?) → va_S A0 H0 H1 locs1 → W p l e R s m args below meth c H1 locs1 (cells + mc) (slots + ms) Q (F0 m (pc + 3) ls (r :: rest))) : W p l e R s m args below meth c H locs cells slots Q (F0 m pc ls (As.reverse ++ .ref b :: rest)) :=
  c_V (As := As) (rest := rest) fx hl hM hrec d w1 w2 w5 w3 w4 hd hn hR hW hcs hS hf (fun _ _ _ _ _ h => h.elim) (fun v H1 locs1 hv hz hk hS1 => by obtain ⟨rfl, hp⟩ := hv; exact kk H1 locs1 hp hz hk hS1)
end MOD
