def tri (x y z : Int) : Nat → Int := fun j => if j = 0 then x else if j = 1 then y else z
theorem tri_0 (x y z : Int) : tri x y z 0 = x := rfl
theorem tri_1 (x y z : Int) : tri x y z 1 = y := rfl
theorem tri_2 (x y z : Int) : tri x y z 2 = z := rfl
theorem mk_row3 {θ : TH} {H : Heap} {a : Nat} {g : Nat → Int} {x y z : Int} (h : AI θ H a 3 g) (h0 : g 0 = x) (h1 : g 1 = y) (h2 : g 2 = z) : AI θ H a 3 (tri x y z) :=
  h.ext fun j hj => by
    match j, hj with
    | 0, _ => exact h0
    | 1, _ => exact h1
    | 2, _ => exact h2
    | n + 3, h => exact absurd h (by omega)
theorem svr_up {sv : Nat → Nat → Int} {p : Nat} {x y z : Int} (h : ∀ j : Nat, j < 3 → svr sv j) (hb : -20000 ≤ x ∧ x ≤ 20000 ∧ -240000 ≤ y ∧ y ≤ 240000 ∧ -100000 ≤ z ∧ z ≤ 100000) : ∀ j : Nat, j < 3 → svr (up sv p (tri x y z)) j := by
  intro j hj
  unfold svr
  by_cases e : j = p
  · subst e
    simp only [up_s, tri_0, tri_1, tri_2]
    exact hb
  · simp only [up_n _ _ e]
    exact h j hj
theorem fw_ex (P Q : Prop) : ∃ t f : Int, ((¬ P ∧ t = 1) ∨ (P ∧ ¬ Q ∧ t = 2) ∨ (P ∧ Q ∧ t = 0)) ∧ ((t = 0 ∧ f = 0) ∨ (0 < t ∧ f = 1)) := by
  by_cases h : P
  · by_cases k : Q
    · exact ⟨0, 0, Or.inr (Or.inr ⟨h, k, rfl⟩), by omega⟩
    · exact ⟨2, 1, Or.inr (Or.inl ⟨h, k, rfl⟩), by omega⟩
  · exact ⟨1, 1, Or.inl ⟨h, rfl⟩, by omega⟩
theorem an_28 (d n : Int) (h : fI (mI d + 12 * n + 1) - fI (mI d + 12 * n) < dI d) : fI (mI d + 12 * n + 1) - fI (mI d + 12 * n) = 28 := by
  have h1 := dI_b d
  have e : (mI d + 12 * n) % 12 = mI d % 12 := by omega
  obtain ⟨a1, a2, a3, a4⟩ := len_t (mI d + 12 * n)
  obtain ⟨b1, b2, b3, b4⟩ := len_t (mI d)
  rw [e] at a1 a2 a3 a4
  by_cases q1 : mI d % 12 = 1
  · by_cases q2 : lpI ((mI d + 12 * n) / 12)
    · have a5 := a3 q1 q2
      have := len_b (mI d)
      by_cases q3 : lpI (mI d / 12)
      · have := b3 q1 q3; omega
      · have := b4 q1 q3; omega
    · exact a4 q1 q2
  · by_cases q2 : mI d % 12 = 3 ∨ mI d % 12 = 5 ∨ mI d % 12 = 8 ∨ mI d % 12 = 10
    · have := a2 q2
      have := b2 q2
      omega
    · have q3 : mI d % 12 = 0 ∨ mI d % 12 = 2 ∨ mI d % 12 = 4 ∨ mI d % 12 = 6 ∨ mI d % 12 = 7 ∨ mI d % 12 = 9 ∨ mI d % 12 = 11 := by omega
      have := a1 q3
      have := b1 q3
      omega
/-- the anniversary, read off the month -/
theorem an_v (d n q : Int) (hq : q = 0 ∨ q = 1) : anI d n q = (if dI d ≤ fI (mI d + 12 * n + 1) - fI (mI d + 12 * n) then fI (mI d + 12 * n) + dI d - 1 else if q = 1 then fI (mI d + 12 * n + 1) else fI (mI d + 12 * n) + 27) := by
  have h1 := shI_s d (12 * n)
  have h2 := dI_b d
  have h3 := an_28 d n
  have h4 := dI_b (shI d (12 * n))
  rw [h1.1] at h4
  have h5 := h1.2.1
  unfold anI
  by_cases e : dI d ≤ fI (mI d + 12 * n + 1) - fI (mI d + 12 * n)
  · rw [if_pos e] at h5 ⊢
    rw [if_neg (by omega)]
    omega
  · rw [if_neg e] at h5 ⊢
    have h6 := h3 (by omega)
    rcases hq with hq | hq
    · rw [if_neg (by omega), if_neg (by omega)]
      omega
    · rw [if_pos ⟨hq, by omega⟩, if_pos hq]
      omega
theorem an_m (d n q : Int) : fI (mI d + 12 * n) ≤ anI d n q ∧ anI d n q ≤ fI (mI d + 12 * n + 1) := by
  have h1 := shI_s d (12 * n)
  have h2 := anI_b d n q
  omega
theorem an_mono (d q : Int) {a b : Int} (h : a < b) : anI d a q < anI d b q := by
  have h1 := an_m d a q
  have h2 := an_m d b q
  have h3 := fI_mono (a := mI d + 12 * a + 1) (b := mI d + 12 * b) (by omega)
  omega
theorem an_0 (d q : Int) : anI d 0 q = d := by
  have h : shI d (12 * 0) = d := by
    unfold shI
    rw [show mI d + 12 * 0 = mI d by omega]
    exact inI_self d
  unfold anI
  rw [h, if_neg (by omega)]
theorem un_s {d o : Int} (q : Int) (h : d ≤ o) : 0 ≤ unI d o q ∧ anI d (unI d o q) q ≤ o ∧ o < anI d (unI d o q + 1) q := by
  have hm := mI_mono h
  have ho := mI_s o
  have up1 : ∀ y : Int, mI o / 12 - mI d / 12 < y → o < anI d y q := fun y hy => by
    have h1 := an_m d y q
    have h2 := fI_mono (a := mI o + 1) (b := mI d + 12 * y) (by omega)
    omega
  have dn1 : ∀ y : Int, y < mI o / 12 - mI d / 12 → anI d y q ≤ o := fun y hy => by
    have h1 := an_m d y q
    have h2 := fI_mono (a := mI d + 12 * y + 1) (b := mI o) (by omega)
    omega
  unfold unI
  by_cases e : 0 < mI o / 12 - mI d / 12 ∧ o < anI d (mI o / 12 - mI d / 12) q
  · rw [if_pos e]
    refine ⟨by omega, dn1 _ (by omega), ?_⟩
    rw [show mI o / 12 - mI d / 12 - 1 + 1 = mI o / 12 - mI d / 12 by omega]
    exact e.2
  · rw [if_neg e]
    refine ⟨by omega, ?_, up1 _ (by omega)⟩
    by_cases z : 0 < mI o / 12 - mI d / 12
    · have : ¬ o < anI d (mI o / 12 - mI d / 12) q := fun k => e ⟨z, k⟩
      omega
    · rw [show mI o / 12 - mI d / 12 = 0 by omega, an_0]
      exact h
theorem un_u {d o n q : Int} (h : d ≤ o) (h1 : anI d n q ≤ o) (h2 : o < anI d (n + 1) q) : n = unI d o q := by
  have hu := un_s q h
  rcases Int.lt_trichotomy n (unI d o q) with z | z | z
  · have : n + 1 = unI d o q ∨ n + 1 < unI d o q := by omega
    rcases this with e | e
    · rw [e] at h2; omega
    · have := an_mono d q e; omega
  · exact z
  · have : unI d o q + 1 = n ∨ unI d o q + 1 < n := by omega
    rcases this with e | e
    · rw [e] at hu; omega
    · have := an_mono d q e; omega
section MPX
variable {p : Program} {l : Launch} {e : Env} {R : Room} {s : State} {m : MethodId} {args : Array Value} {below : List Frame} {meth : Method} {c : Code} {H : Heap} {locs : List Loc} {cells slots : Nat} {Q : State → Prop} {cc : ByteArray} {pc : Nat} {ls : Array Slot} {rest : List Value} {θ : TH} {A A0 : Nat → Prop} {H0 : Heap} {S0 : State}
theorem q_ior (hexec : p.tables.exec = Jvm.exec) (hb : c.code = cc) {a b : Int} (d : decode cc pc = .ok (.ior, 1)) (ha : a = 0 ∨ a = 1) (hb2 : b = 0 ∨ b = 1) (k : ∀ z : Int, (z = 0 ∨ z = 1) → ((z = 1 ∧ (a = 1 ∨ b = 1)) ∨ (z = 0 ∧ a = 0 ∧ b = 0)) → W p l e R s m args below meth c H locs cells slots Q (F0 m (pc + 1) ls (.int (iI z) :: rest))) : W p l e R s m args below meth c H locs cells slots Q (F0 m pc ls (.int (iI b) :: .int (iI a) :: rest)) := by
  refine lv_ior hexec hb d ?_
  rcases ha with rfl | rfl <;> rcases hb2 with rfl | rfl
  · exact k 0 (by omega) (by omega)
  · exact k 1 (by omega) (by omega)
  · exact k 1 (by omega) (by omega)
  · exact k 1 (by omega) (by omega)
theorem q_iand (hexec : p.tables.exec = Jvm.exec) (hb : c.code = cc) {a b : Int} (d : decode cc pc = .ok (.iand, 1)) (ha : a = 0 ∨ a = 1) (hb2 : b = 0 ∨ b = 1) (k : ∀ z : Int, (z = 0 ∨ z = 1) → ((z = 1 ∧ a = 1 ∧ b = 1) ∨ (z = 0 ∧ (a = 0 ∨ b = 0))) → W p l e R s m args below meth c H locs cells slots Q (F0 m (pc + 1) ls (.int (iI z) :: rest))) : W p l e R s m args below meth c H locs cells slots Q (F0 m pc ls (.int (iI b) :: .int (iI a) :: rest)) := by
  refine lv_iand hexec hb d ?_
  rcases ha with rfl | rfl <;> rcases hb2 with rfl | rfl
  · exact k 0 (by omega) (by omega)
  · exact k 0 (by omega) (by omega)
  · exact k 0 (by omega) (by omega)
  · exact k 1 (by omega) (by omega)
/-- a loop over heaps -/
theorem w_loopH {nL pc : Nat} {σ : Type} (μ : σ → Nat) (I : σ → Heap → List Loc → Nat → Nat → Prop) (lvf : σ → List (Nat × Value))
    (step : ∀ (x : σ) (H : Heap) (locs : List Loc) (cells slots : Nat), I x H locs cells slots → (∀ (y : σ) (H1 : Heap) (locs1 : List Loc) (c1 s1 : Nat) (ls : Array Slot), I y H1 locs1 c1 s1 → μ y < μ x → lv_has ls nL (lvf y) → W p l e R s m args below meth c H1 locs1 c1 s1 Q (F0 m pc ls [])) → ∀ ls : Array Slot, lv_has ls nL (lvf x) → W p l e R s m args below meth c H locs cells slots Q (F0 m pc ls []))
    (x : σ) (h : I x H locs cells slots) {ls : Array Slot} (hl : lv_has ls nL (lvf x)) : W p l e R s m args below meth c H locs cells slots Q (F0 m pc ls []) := by
  have go : ∀ (n : Nat) (x : σ) (H : Heap) (locs : List Loc) (cells slots : Nat), μ x < n → I x H locs cells slots → ∀ ls : Array Slot, lv_has ls nL (lvf x) → W p l e R s m args below meth c H locs cells slots Q (F0 m pc ls []) := by
    intro n
    induction n with
    | zero => intro x _ _ _ _ h; exact absurd h (Nat.not_lt_zero _)
    | succ n ih => intro x H locs cells slots hn hI ls hl; exact step x H locs cells slots hI (fun y H1 locs1 c1 s1 ls' hy hlt hl' => ih y H1 locs1 c1 s1 (by omega) hy ls' hl') ls hl
  exact go (μ x + 1) x H locs cells slots (Nat.lt_succ_self _) h ls hl
/-- a method of the reference that answers a new row -/
theorem c_MR {own C : String} {idx n nL F L b na mc ms : Nat} {y : MethodName} {cy : ByteArray} {As : List Value} {d : Int} {lv : List (Nat × Value)} (fx : FX p m c cc nL s args own S0) (hl : lv_has ls nL lv) (hM : CT l y cy n (some (.array .int)) F L mc ms (.ref b :: As) S0 H (fun v H1 => ∃ q : Nat, v = some (.ref q) ∧ H.size ≤ q ∧ DR θ H1 q d) (fun _ _ => False) (fun x => H.size ≤ x)) (hrec : ∃ cellB : Cell, H[b]? = some cellB ∧ cellB.vm.isStatics = false ∧ s.vm.findClass C = some cellB.cls) (dg : decode cc pc = .ok (.invokevirtual idx, 3)) (w1 : Cond.methodLink own idx y ∈ wG) (w2 : Cond.instanceMethod y ∈ wG) (w5 : Cond.selects C y y ∈ wG) (w3 : Cond.initialized y.cls ∈ wG) (w4 : Cond.code y cy n (some (.array .int)) ∈ wG) (hd : y.cls ≠ "java/lang/invoke/MethodHandle" ∧ y.cls ≠ "java/lang/invoke/VarHandle" ∧ (parseMethodDescriptor y.desc).map (fun d => d.parameters.length) = some na) (hn : As.length = na)
    (hR : F + 1 ≤ R.frames ∧ 8 + (n + 11) + L ≤ R.locals) (hW : (rest.map fun v => v.category).sum ≤ 8) (hcs : cells + mc ≤ R.cells ∧ slots + ms ≤ R.slots) (hS : va_S A0 H0 H locs) (hf : ∀ q, H.size ≤ q → A0 q)
    (kk : ∀ (q : Nat) (H1 : Heap) (locs1 : List Loc), H.size ≤ q → DR θ H1 q d → H.size ≤ H1.size → (∀ x : Nat, x < H.size → H1[x]? = H[x]?) → va_S A0 H0 H1 locs1 → W p l e R s m args below meth c H1 locs1 (cells + mc) (slots + ms) Q (F0 m (pc + 3) ls (.ref q :: rest))) : W p l e R s m args below meth c H locs cells slots Q (F0 m pc ls (As.reverse ++ .ref b :: rest)) :=
  c_V (As := As) (rest := rest) fx hl hM hrec dg w1 w2 w5 w3 w4 hd hn hR hW hcs hS hf (fun _ _ _ _ _ h => h.elim) (fun v H1 locs1 hv hz hk hS1 => by obtain ⟨q, rfl, hq, hrow⟩ := hv; exact kk q H1 locs1 hq hrow hz (fun x hx => hk x hx (Nat.not_le.mpr hx)) hS1)
end MPX
