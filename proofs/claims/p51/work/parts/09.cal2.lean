theorem dn_neg (a b : Int) (hb : 0 < b) : a < 0 → -((b - 1 - a) / b) = a / b ∧ (b - 1 - a).tdiv b = (b - 1 - a) / b := by
  intro h
  have h3 : b * (a / b) + a % b = a := Int.mul_ediv_add_emod a b
  have h4 : 0 ≤ a % b := Int.emod_nonneg _ (by omega)
  have h5 : a % b < b := Int.emod_lt_of_pos _ hb
  refine ⟨?_, Int.tdiv_eq_ediv_of_nonneg (by omega)⟩
  have h6 : (b - 1 - a) / b = -(a / b) := by
    refine ((Int.ediv_emod_unique hb (r := b - 1 - a % b)).mpr ⟨?_, by omega, by omega⟩).1
    rw [Int.mul_neg]
    omega
  omega
theorem LEN_v (w : Int) (h : 0 ≤ w ∧ w < 12) : (w = 1 → LENv w.toNat = 28) ∧ ((w = 3 ∨ w = 5 ∨ w = 8 ∨ w = 10) → LENv w.toNat = 30) ∧ ((w = 0 ∨ w = 2 ∨ w = 4 ∨ w = 6 ∨ w = 7 ∨ w = 9 ∨ w = 11) → LENv w.toNat = 31) := by
  have e : ∀ k : Nat, w = k → LENv w.toNat = LENv k := fun k hk => by rw [hk, Int.toNat_natCast]
  refine ⟨fun q => (e 1 q).trans rfl, fun q => ?_, fun q => ?_⟩
  · rcases q with q | q | q | q
    · exact (e 3 q).trans rfl
    · exact (e 5 q).trans rfl
    · exact (e 8 q).trans rfl
    · exact (e 10 q).trans rfl
  · rcases q with q | q | q | q | q | q | q
    · exact (e 0 q).trans rfl
    · exact (e 2 q).trans rfl
    · exact (e 4 q).trans rfl
    · exact (e 6 q).trans rfl
    · exact (e 7 q).trans rfl
    · exact (e 9 q).trans rfl
    · exact (e 11 q).trans rfl
theorem yr_len (y : Int) : (lpI y → fI (12 * y + 12) - fI (12 * y) = 366) ∧ (¬ lpI y → fI (12 * y + 12) - fI (12 * y) = 365) := by
  have e1 := fI_m y 10 (by decide)
  have e2 := fI_m (y - 1) 10 (by decide)
  rw [show 12 * y + 10 + 2 = 12 * y + 12 by omega] at e1
  rw [show 12 * (y - 1) + 10 + 2 = 12 * y by omega] at e2
  rw [e1, e2]
  unfold lpI
  constructor <;> intro h <;> omega
theorem yr_b (y : Int) : 365 ≤ fI (12 * y + 12) - fI (12 * y) ∧ fI (12 * y + 12) - fI (12 * y) ≤ 366 := by
  have h := yr_len y
  by_cases q : lpI y
  · have := h.1 q
    omega
  · have := h.2 q
    omega
theorem fI_k1 (k : Int) : fI (12 * (k + 1)) = fI (12 * k + 12) := by rw [show 12 * (k + 1) = 12 * k + 12 by omega]
theorem fI_400 (c : Int) : fI (12 * (400 * c)) = 146097 * c - 719528 := by
  have e2 := fI_m (400 * c - 1) 10 (by decide)
  rw [show 12 * (400 * c - 1) + 10 + 2 = 12 * (400 * c) by omega] at e2
  rw [e2]
  omega
def rwI (m k : Int) : Nat → Int := fun j => if j = 0 then m else k
/-- the row of a date -/
abbrev DR (θ : TH) (H : Heap) (a : Nat) (d : Int) : Prop := AI θ H a 2 (rwI (mI d) (dI d))
theorem mk_row {θ : TH} {H : Heap} {q : Nat} {x y d : Int} (h : AI θ H q 2 (up (up (fun _ => 0) (Int.toNat 0) x) (Int.toNat 1) y)) (hx : x = mI d) (hy : y = dI d) : DR θ H q d := by
  refine h.ext fun j hj => ?_
  rcases (show j = 0 ∨ j = 1 by omega) with rfl | rfl
  · exact hx
  · exact hy
theorem dI_of {d m : Int} (h : fI m ≤ d ∧ d < fI (m + 1)) : mI d = m ∧ dI d = d - fI m + 1 := by
  have e := mI_u h
  unfold dI
  rw [e]
  exact ⟨rfl, rfl⟩
/-- a method that makes the row of a date -/
abbrev NR (θ : TH) (l : Launch) (y : MethodName) (cy : ByteArray) (n F L : Nat) (As : List Value) (S0 : State) (H : Heap) (d : Int) : Prop := CT l y cy n (some (.array .int)) F L 1 2 As S0 H (fun v H1 => ∃ q : Nat, v = some (.ref q) ∧ H.size ≤ q ∧ DR θ H1 q d) (fun _ _ => False) (fun q => H.size ≤ q)
section NRW
variable {p : Program} {l : Launch} {e : Env} {R : Room} {s : State} {m : MethodId} {args : Array Value} {below : List Frame} {meth : Method} {c : Code} {H : Heap} {locs : List Loc} {cells slots : Nat} {Q : State → Prop} {cc : ByteArray} {pc : Nat} {ls : Array Slot} {rest : List Value} {θ : TH} {A0 : Nat → Prop} {H0 : Heap} {S0 : State}
theorem c_NR {own : String} {idx n nL F L na : Nat} {y : MethodName} {cy : ByteArray} {As : List Value} {d : Int} {lv : List (Nat × Value)} (fx : FX p m c cc nL s args own S0) (hl : lv_has ls nL lv) (hM : NR θ l y cy n F L As S0 H d) (dg : decode cc pc = .ok (.invokestatic idx, 3)) (w1 : Cond.methodLink own idx y ∈ wG) (w2 : Cond.static y ∈ wG) (w3 : Cond.initialized y.cls ∈ wG) (w4 : Cond.code y cy n (some (.array .int)) ∈ wG) (hd : y.cls ≠ "java/lang/invoke/MethodHandle" ∧ y.cls ≠ "java/lang/invoke/VarHandle" ∧ (parseMethodDescriptor y.desc).map (fun d => d.parameters.length) = some na) (hn : As.length = na)
    (hR : F + 1 ≤ R.frames ∧ 8 + (n + 11) + L ≤ R.locals) (hW : (rest.map fun v => v.category).sum ≤ 8) (hcs : cells + 1 ≤ R.cells ∧ slots + 2 ≤ R.slots) (hS : va_S A0 H0 H locs) (hf : ∀ q, H.size ≤ q → A0 q)
    (kk : ∀ (q : Nat) (H1 : Heap) (locs1 : List Loc), H.size ≤ q → DR θ H1 q d → H.size ≤ H1.size → (∀ x : Nat, x < H.size → H1[x]? = H[x]?) → va_S A0 H0 H1 locs1 → W p l e R s m args below meth c H1 locs1 (cells + 1) (slots + 2) Q (F0 m (pc + 3) ls (.ref q :: rest))) : W p l e R s m args below meth c H locs cells slots Q (F0 m pc ls (As.reverse ++ rest)) := by
  refine c_S (As := As) (rest := rest) fx hl hM dg w1 w2 w3 w4 hd hn hR hW hcs hS hf (fun _ _ _ _ _ h => h.elim) (fun v H1 locs1 hv hz hk hS1 => ?_)
  obtain ⟨q, rfl, hq, hrow⟩ := hv
  exact kk q H1 locs1 hq hrow hz (fun x hx => hk x hx (Nat.not_le.mpr hx)) hS1
end NRW
