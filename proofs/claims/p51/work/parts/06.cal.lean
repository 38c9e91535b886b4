/-! the calendar, in whole numbers: months m, day numbers d -/
def fI (m : Int) : Int := 365 * ((m - 2) / 12) + ((m - 2) / 12 / 4 - (m - 2) / 12 / 100 + (m - 2) / 12 / 400) + (153 * ((m - 2) % 12) + 2) / 5 + 60 - 719528
def lpI (y : Int) : Prop := y % 4 = 0 ∧ (¬ y % 100 = 0 ∨ y % 400 = 0)
theorem fI_m (y w : Int) (h : 0 ≤ w ∧ w < 12) : fI (12 * y + w + 2) = 365 * y + (y / 4 - y / 100 + y / 400) + (153 * w + 2) / 5 + 60 - 719528 := by
  unfold fI
  have h1 : (12 * y + w + 2 - 2) / 12 = y := by omega
  have h2 : (12 * y + w + 2 - 2) % 12 = w := by omega
  rw [h1, h2]
theorem fI_bd (m : Int) : -17520 ≤ 4800 * (fI m + 719528) - 146097 * m ∧ 4800 * (fI m + 719528) - 146097 * m ≤ 16800 := by
  obtain ⟨y, w, rfl, hw⟩ : ∃ y w : Int, m = 12 * y + w + 2 ∧ 0 ≤ w ∧ w < 12 := ⟨(m - 2) / 12, (m - 2) % 12, by omega, by omega, by omega⟩
  rw [fI_m y w hw]
  omega
theorem len_a (y w : Int) (h : 0 ≤ w ∧ w < 11) : fI (12 * y + w + 2 + 1) - fI (12 * y + w + 2) = (153 * w + 155) / 5 - (153 * w + 2) / 5 := by
  rw [show 12 * y + w + 2 + 1 = 12 * y + (w + 1) + 2 by omega, fI_m y w (by omega), fI_m y (w + 1) (by omega)]
  omega
theorem len_f (y : Int) : (lpI y → fI (12 * y + 2) - fI (12 * y + 1) = 29) ∧ (¬ lpI y → fI (12 * y + 2) - fI (12 * y + 1) = 28) := by
  have e1 := fI_m y 0 (by decide)
  have e2 := fI_m (y - 1) 11 (by decide)
  rw [show 12 * y + 0 + 2 = 12 * y + 2 by omega] at e1
  rw [show 12 * (y - 1) + 11 + 2 = 12 * y + 1 by omega] at e2
  rw [e1, e2]
  unfold lpI
  constructor <;> intro h <;> omega
/-- how long a month is -/
theorem len_t (m : Int) : ((m % 12 = 0 ∨ m % 12 = 2 ∨ m % 12 = 4 ∨ m % 12 = 6 ∨ m % 12 = 7 ∨ m % 12 = 9 ∨ m % 12 = 11) → fI (m + 1) - fI m = 31) ∧ ((m % 12 = 3 ∨ m % 12 = 5 ∨ m % 12 = 8 ∨ m % 12 = 10) → fI (m + 1) - fI m = 30) ∧ (m % 12 = 1 → lpI (m / 12) → fI (m + 1) - fI m = 29) ∧ (m % 12 = 1 → ¬ lpI (m / 12) → fI (m + 1) - fI m = 28) := by
  have h1 : ¬ m % 12 = 1 → ∃ y w : Int, m = 12 * y + w + 2 ∧ 0 ≤ w ∧ w < 11 := fun h => ⟨(m - 2) / 12, (m - 2) % 12, by omega, by omega, by omega⟩
  refine ⟨fun h => ?_, fun h => ?_, fun h hl => ?_, fun h hl => ?_⟩
  · obtain ⟨y, w, rfl, hw⟩ := h1 (by omega)
    rw [len_a y w hw]
    omega
  · obtain ⟨y, w, rfl, hw⟩ := h1 (by omega)
    rw [len_a y w hw]
    omega
  · obtain ⟨y, rfl⟩ : ∃ y : Int, m = 12 * y + 1 := ⟨m / 12, by omega⟩
    rw [show (12 * y + 1) / 12 = y by omega] at hl
    have := (len_f y).1 hl
    rw [show 12 * y + 1 + 1 = 12 * y + 2 by omega]
    exact this
  · obtain ⟨y, rfl⟩ : ∃ y : Int, m = 12 * y + 1 := ⟨m / 12, by omega⟩
    rw [show (12 * y + 1) / 12 = y by omega] at hl
    have := (len_f y).2 hl
    rw [show 12 * y + 1 + 1 = 12 * y + 2 by omega]
    exact this
theorem len_b (m : Int) : 28 ≤ fI (m + 1) - fI m ∧ fI (m + 1) - fI m ≤ 31 := by
  have h := len_t m
  by_cases hl : lpI (m / 12)
  · have h3 := fun q => h.2.2.1 q hl
    have h1 := h.1
    have h2 := h.2.1
    omega
  · have h3 := fun q => h.2.2.2 q hl
    have h1 := h.1
    have h2 := h.2.1
    omega
theorem fI_up (m : Int) : ∀ k : Nat, fI m + 28 * k ≤ fI (m + k) ∧ fI (m + k) ≤ fI m + 31 * k
  | 0 => by simp
  | k + 1 => by
    have h := fI_up m k
    have h2 := len_b (m + k)
    rw [show m + ((k + 1 : Nat) : Int) = m + k + 1 by omega]
    omega
theorem fI_mono {a b : Int} (h : a ≤ b) : fI a + 28 * (b - a) ≤ fI b ∧ fI b ≤ fI a + 31 * (b - a) := by
  have h1 := fI_up a (b - a).toNat
  rw [show a + ((b - a).toNat : Int) = b by omega] at h1
  omega
theorem fI_cyc (m : Int) : fI (m + 4800) = fI m + 146097 := by
  obtain ⟨y, w, rfl, hw⟩ : ∃ y w : Int, m = 12 * y + w + 2 ∧ 0 ≤ w ∧ w < 12 := ⟨(m - 2) / 12, (m - 2) % 12, by omega, by omega, by omega⟩
  rw [show 12 * y + w + 2 + 4800 = 12 * (y + 400) + w + 2 by omega, fI_m y w hw, fI_m (y + 400) w hw]
  omega
/-- the month in which a day lies, its day there -/
def mI (d : Int) : Int := if d < fI ((d + 719528) * 4800 / 146097) then (d + 719528) * 4800 / 146097 - 1 else if d < fI ((d + 719528) * 4800 / 146097 + 1) then (d + 719528) * 4800 / 146097 else (d + 719528) * 4800 / 146097 + 1
theorem mI_s (d : Int) : fI (mI d) ≤ d ∧ d < fI (mI d + 1) := by
  unfold mI
  have h0 : 146097 * ((d + 719528) * 4800 / 146097) ≤ (d + 719528) * 4800 ∧ (d + 719528) * 4800 < 146097 * ((d + 719528) * 4800 / 146097) + 146097 := by omega
  generalize (d + 719528) * 4800 / 146097 = g at h0 ⊢
  have b0 := fI_bd g
  have b1 := fI_bd (g - 1)
  have b2 := fI_bd (g + 1)
  have b3 := fI_bd (g + 1 + 1)
  split
  · rw [show g - 1 + 1 = g by omega]
    omega
  · split <;> omega
theorem mI_u {m d : Int} (h : fI m ≤ d ∧ d < fI (m + 1)) : mI d = m := by
  have h1 := mI_s d
  rcases Int.lt_or_le (mI d) m with q | q
  · have := fI_mono (a := mI d + 1) (b := m) (by omega)
    omega
  · rcases Int.lt_or_le m (mI d) with r | r
    · have := fI_mono (a := m + 1) (b := mI d) (by omega)
      omega
    · omega
def dI (d : Int) : Int := d - fI (mI d) + 1
theorem dI_b (d : Int) : 1 ≤ dI d ∧ dI d ≤ fI (mI d + 1) - fI (mI d) ∧ dI d ≤ 31 ∧ d = fI (mI d) + dI d - 1 := by
  have h := mI_s d
  have h2 := len_b (mI d)
  unfold dI
  omega
theorem mI_mono {a b : Int} (h : a ≤ b) : mI a ≤ mI b := by
  have h1 := mI_s a
  have h2 := mI_s b
  rcases Int.lt_or_le (mI b) (mI a) with q | q
  · have := fI_mono (a := mI b + 1) (b := mI a) (by omega)
    omega
  · exact q
/-- the day k of the month m, or its last one -/
def inI (m k : Int) : Int := (if fI m + k ≤ fI (m + 1) then fI m + k else fI (m + 1)) - 1
theorem inI_s {m k : Int} (h : 1 ≤ k) : mI (inI m k) = m ∧ dI (inI m k) = (if k ≤ fI (m + 1) - fI m then k else fI (m + 1) - fI m) ∧ fI m ≤ inI m k ∧ inI m k < fI (m + 1) := by
  have hl := len_b m
  have h0 : fI m ≤ inI m k ∧ inI m k < fI (m + 1) := by unfold inI; split <;> omega
  have h1 : mI (inI m k) = m := mI_u h0
  refine ⟨h1, ?_, h0⟩
  unfold dI
  rw [h1]
  unfold inI
  split <;> split <;> omega
theorem inI_self (d : Int) : inI (mI d) (dI d) = d := by
  have h := dI_b d
  unfold inI
  split <;> omega
/-- a day shifted by n months -/
def shI (d n : Int) : Int := inI (mI d + n) (dI d)
theorem shI_s (d n : Int) : mI (shI d n) = mI d + n ∧ dI (shI d n) = (if dI d ≤ fI (mI d + n + 1) - fI (mI d + n) then dI d else fI (mI d + n + 1) - fI (mI d + n)) ∧ fI (mI d + n) ≤ shI d n ∧ shI d n < fI (mI d + n + 1) := inI_s (dI_b d).1
theorem mI_bd (d : Int) : 4800 * (d + 719528) - 166000 < 146097 * mI d ∧ 146097 * mI d ≤ 4800 * (d + 719528) + 17520 := by
  have h := mI_s d
  have b0 := fI_bd (mI d)
  have b1 := fI_bd (mI d + 1)
  omega
theorem shI_bd (d n : Int) : 146097 * n - 200000 < 4800 * (shI d n - d) ∧ 4800 * (shI d n - d) < 146097 * n + 200000 := by
  have h := shI_s d n
  have h1 := mI_bd d
  have h2 := mI_bd (shI d n)
  omega
/-- the days that the class allows -/
theorem fI_first : fI (-119988) = -4371587 := by decide
theorem fI_last : fI 120000 = 2932897 := by decide
theorem inR {d : Int} (h : -4371587 ≤ d ∧ d ≤ 2932896) : -119988 ≤ mI d ∧ mI d ≤ 119999 := by
  have h1 := mI_s d
  have e1 := fI_first
  have e2 := fI_last
  constructor
  · rcases Int.lt_or_le (mI d) (-119988) with q | q
    · have := fI_mono (a := mI d + 1) (b := -119988) (by omega)
      omega
    · exact q
  · rcases Int.lt_or_le 119999 (mI d) with q | q
    · have := fI_mono (a := 120000) (b := mI d) (by omega)
      omega
    · exact q
theorem inM {m : Int} (h : -119988 ≤ m ∧ m ≤ 119999) : -4371587 ≤ fI m ∧ fI (m + 1) ≤ 2932897 := by
  have h1 := fI_mono (a := -119988) (b := m) (by omega)
  have h2 := fI_mono (a := m + 1) (b := 120000) (by omega)
  have e1 := fI_first
  have e2 := fI_last
  omega
/-- the weekday of a day -/
def wI (d : Int) : Int := (d + 3) % 7 + 1
theorem wI_b (d : Int) : 1 ≤ wI d ∧ wI d ≤ 7 := by unfold wI; omega
theorem bex (P : Prop) : ∃ r : Int, (r = 1 ∧ P) ∨ (r = 0 ∧ ¬ P) := (Classical.em P).elim (fun h => ⟨1, Or.inl ⟨rfl, h⟩⟩) (fun h => ⟨0, Or.inr ⟨rfl, h⟩⟩)
theorem ex_i {a b : Int} (h : a = b) : (some (Value.int (iI a)) : Option Value) = some (.int (iI b)) := by rw [h]
theorem ex_l {a b : Int} (h : a = b) : (some (Value.long (lL a)) : Option Value) = some (.long (lL b)) := by rw [h]
/-- whole months from one day to another -/
def muI (d o : Int) : Int := if dI o < dI d then mI o - mI d - 1 else mI o - mI d
theorem mu_b (d o : Int) : mI o - mI d - 1 ≤ muI d o ∧ muI d o ≤ mI o - mI d ∧ (d ≤ o → 0 ≤ muI d o) := by
  unfold muI
  refine ⟨by split <;> omega, by split <;> omega, fun h => ?_⟩
  have hm := mI_mono h
  split
  · rcases Int.lt_or_le (mI d) (mI o) with q | q
    · omega
    · have e : mI d = mI o := by omega
      have h1 := dI_b d
      have h2 := dI_b o
      rw [e] at h1
      omega
  · omega
section PC
variable {p : Program} {l : Launch} {e : Env} {R : Room} {s : State} {m : MethodId} {args : Array Value} {below : List Frame} {meth : Method} {c : Code} {H : Heap} {locs : List Loc} {cells slots : Nat} {Q : State → Prop} {cc : ByteArray} {pc : Nat} {ls : Array Slot} {rest : List Value}
/-- a call of a static method that reads and writes nothing -/
theorem c_P {S0 : State} {own : String} {idx n nL F L na : Nat} {y : MethodName} {cy : ByteArray} {rt : Option FieldType} {As : List Value} {r : Value} {lv : List (Nat × Value)} (fx : FX p m c cc nL s args own S0) (hl : lv_has ls nL lv) (hM : PM l y cy n rt F L As r) (d : decode cc pc = .ok (.invokestatic idx, 3)) (w1 : Cond.methodLink own idx y ∈ wG) (w2 : Cond.static y ∈ wG) (w3 : Cond.initialized y.cls ∈ wG) (w4 : Cond.code y cy n rt ∈ wG) (hd : y.cls ≠ "java/lang/invoke/MethodHandle" ∧ y.cls ≠ "java/lang/invoke/VarHandle" ∧ (parseMethodDescriptor y.desc).map (fun d => d.parameters.length) = some na) (hn : As.length = na)
    (hR : F + 1 ≤ R.frames ∧ 8 + (n + 11) + L ≤ R.locals) (hW : (rest.map fun v => v.category).sum ≤ 8) (hcs : cells ≤ R.cells ∧ slots ≤ R.slots)
    (kk : W p l e R s m args below meth c H locs cells slots Q (F0 m (pc + 3) ls (r :: rest))) : W p l e R s m args below meth c H locs cells slots Q (F0 m pc ls (As.reverse ++ rest)) := by
  intro T hT X
  obtain ⟨f1, f2⟩ := id fx
  have fx' : FX p m c cc c.maxLocals s args own S0 := by rw [f1.2.2.1]; exact fx
  rcases vx_runS (As := As) (rest := rest) (g := F0 m pc ls (As.reverse ++ rest)) f1 (hM S0 H) ⟨cb_of fx' w1 w3 w4 hd hR, f1.2.2.2.2 _ w2⟩ ⟨ph_blind, fun U hU hW => ⟨rfl, hU, f2.trans hW⟩⟩ rfl hn hl.1 rfl (lv_room hW) d hcs T hT X with ⟨v, st₀, t, T', L, h0, X', hL, e1, e2, ⟨⟨v', hv, rfl, hh⟩, hF⟩, st⟩ | ⟨q, st₀, t, T', L, E, ce, h0, X', hL, e1, e2, ⟨hp, hF⟩, hce, hcv, hcl, st⟩
  · cases hv
    have hL0 : L = [] := by
      cases L with
      | nil => rfl
      | cons z t => exact (hL z List.mem_cons_self).elim
    subst hL0
    rw [List.append_nil] at X'
    obtain ⟨t2, a1, b1⟩ := kk T' (e1.trans hh) X'
    exact ⟨t2, st t2 a1, b1⟩
  · exact hp.elim
end PC
theorem fdivv (a b : Int) (hb : 0 < b) : (0 ≤ a → a.tdiv b = a / b ∧ 0 ≤ a.tdiv b * b ∧ a.tdiv b * b ≤ a ∧ 0 ≤ a.tdiv b ∧ a.tdiv b ≤ a) ∧ (a < 0 → (a.tdiv b * b = a → a.tdiv b = a / b) ∧ (¬ a.tdiv b * b = a → a.tdiv b - 1 = a / b) ∧ a ≤ a.tdiv b * b ∧ a.tdiv b * b ≤ 0 ∧ a ≤ a.tdiv b ∧ a.tdiv b ≤ 0) := by
  constructor
  · intro h
    rw [tdiv_pos h hb]
    have h1 : 0 ≤ a / b := Int.ediv_nonneg (by omega) (by omega)
    have h2 : a / b ≤ a := Int.ediv_le_self _ (by omega)
    have h3 : a / b * b + a % b = a := Int.ediv_mul_add_emod a b
    have h4 : 0 ≤ a % b := Int.emod_nonneg _ (by omega)
    have h5 : 0 ≤ a / b * b := Int.mul_nonneg h1 (by omega)
    exact ⟨rfl, h5, by omega, h1, h2⟩
  · intro h
    rw [tdiv_neg' h]
    have h1 : 0 ≤ (-a) / b := Int.ediv_nonneg (by omega) (by omega)
    have h2 : (-a) / b ≤ -a := Int.ediv_le_self _ (by omega)
    have h3 : (-a) / b * b + (-a) % b = -a := Int.ediv_mul_add_emod (-a) b
    have h4 : 0 ≤ (-a) % b := Int.emod_nonneg _ (by omega)
    have h4' : (-a) % b < b := Int.emod_lt_of_pos _ hb
    have h5 : 0 ≤ (-a) / b * b := Int.mul_nonneg h1 (by omega)
    have h6 : -((-a) / b) * b = -((-a) / b * b) := Int.neg_mul _ _
    rw [h6]
    refine ⟨fun h7 => ?_, fun h7 => ?_, by omega, by omega, by omega, by omega⟩
    · have : a = b * (-((-a) / b)) := by rw [Int.mul_comm, h6]; omega
      exact (Int.ediv_eq_of_eq_mul_right (by omega) this).symm
    · symm
      refine (Int.ediv_emod_unique hb (r := b - (-a) % b)).mpr ⟨?_, by omega, by omega⟩ |>.1
      have : b * (-((-a) / b) - 1) = -((-a) / b * b) - b := by rw [Int.mul_sub, Int.mul_comm, h6]; omega
      omega
theorem fmodv (a b : Int) (hb : 0 < b) : (0 ≤ a → a - a.tdiv b * b = a % b) ∧ (a < 0 → (a - a.tdiv b * b = 0 → a % b = 0) ∧ (¬ a - a.tdiv b * b = 0 → a % b = a - a.tdiv b * b + b)) ∧ a - a.tdiv b * b < b ∧ -b ≤ a - a.tdiv b * b ∧ 0 ≤ a % b ∧ a % b < b := by
  have h := fdivv a b hb
  have h3 : a / b * b + a % b = a := Int.ediv_mul_add_emod a b
  have h4 : 0 ≤ a % b := Int.emod_nonneg _ (by omega)
  have h5 : a % b < b := Int.emod_lt_of_pos _ hb
  rcases Int.lt_or_le a 0 with q | q
  · have h6 := h.2 q
    by_cases e : a.tdiv b * b = a
    · have h7 := h6.1 e
      rw [← h7] at h3
      refine ⟨by omega, by omega, by omega, by omega, h4, h5⟩
    · have h7 := h6.2.1 e
      rw [← h7, Int.sub_mul] at h3
      refine ⟨by omega, by omega, by omega, by omega, h4, h5⟩
  · have h6 := h.1 q
    rw [← h6.1] at h3
    refine ⟨by omega, by omega, by omega, by omega, h4, h5⟩
section XC
variable {p : Program} {l : Launch} {e : Env} {R : Room} {s : State} {m : MethodId} {args : Array Value} {below : List Frame} {meth : Method} {c : Code} {H : Heap} {locs : List Loc} {cells slots : Nat} {Q : State → Prop} {cc : ByteArray} {pc : Nat} {ls : Array Slot} {rest : List Value}
theorem q_xge (hexec : p.tables.exec = Jvm.exec) (hb : c.code = cc) {a b : Int} {off : Int} {tgt : Nat} (d0 : decode cc pc = .ok (.ixor, 1)) (d : decode cc (pc + 1) = .ok (.ifCond .ge off, 3)) (ht : ((pc + 1 : Nat) : Int) + off = (tgt : Int)) (ha : -2147483648 ≤ a ∧ a < 2147483648) (h0 : 0 < b ∧ b < 2147483648) (kt : 0 ≤ a → W p l e R s m args below meth c H locs cells slots Q (F0 m tgt ls rest)) (kf : a < 0 → W p l e R s m args below meth c H locs cells slots Q (F0 m (pc + 4) ls rest)) : W p l e R s m args below meth c H locs cells slots Q (F0 m pc ls (.int (iI b) :: .int (iI a) :: rest)) := by
  refine lv_ixor hexec hb d0 ?_
  refine lv_if_ge hexec hb d ht (fun q => kt ?_) (fun q => kf ?_)
  · rcases Int.lt_or_le a 0 with z | z
    · have h1 := (iI_xor ha h0).mpr z
      rw [Int32.lt_iff_toInt_lt] at h1
      rw [Int32.le_iff_toInt_le] at q
      omega
    · exact z
  · refine (iI_xor ha h0).mp ?_
    rw [Int32.lt_iff_toInt_lt]
    rw [Int32.le_iff_toInt_le] at q
    omega
theorem lc_lt {a b : Int64} (h : a < b) : lg_cmp a b = -1 := by
  have h2 : ¬ b < a := fun q => by rw [Int64.lt_iff_toInt_lt] at h q; omega
  have h3 : ¬ a = b := fun q => by rw [q, Int64.lt_iff_toInt_lt] at h; omega
  simp [lg_cmp, h2, h3]
theorem lc_eq (a : Int64) : lg_cmp a a = 0 := by simp [lg_cmp]
theorem lc_gt {a b : Int64} (h : b < a) : lg_cmp a b = 1 := by simp [lg_cmp, h]
theorem lc_tri (a b : Int64) : a < b ∨ a = b ∨ b < a := by
  rw [Int64.lt_iff_toInt_lt, Int64.lt_iff_toInt_lt, ← Int64.toInt_inj]; omega
/-- lxor; lconst_0; lcmp; ifge -/
theorem q_lxge (hexec : p.tables.exec = Jvm.exec) (hb : c.code = cc) {a b : Int} {off : Int} {tgt : Nat} (d0 : decode cc pc = .ok (.lxor, 1)) (d1 : decode cc (pc + 1) = .ok (.lconst 0, 1)) (d2 : decode cc (pc + 2) = .ok (.lcmp, 1)) (d : decode cc (pc + 3) = .ok (.ifCond .ge off, 3)) (ht : ((pc + 3 : Nat) : Int) + off = (tgt : Int)) (ha : -9223372036854775808 ≤ a ∧ a < 9223372036854775808) (h0 : 0 < b ∧ b < 9223372036854775808) (kt : 0 ≤ a → W p l e R s m args below meth c H locs cells slots Q (F0 m tgt ls rest)) (kf : a < 0 → W p l e R s m args below meth c H locs cells slots Q (F0 m (pc + 6) ls rest)) : W p l e R s m args below meth c H locs cells slots Q (F0 m pc ls (.long (lL b) :: .long (lL a) :: rest)) := by
  refine lv_lxor hexec hb d0 ?_
  refine lv_lconst (v := 0) hexec hb d1 (by decide) ?_
  refine W.lcmp hexec hb d2 ?_
  refine lv_if_ge hexec hb d ht (fun q => kt ?_) (fun q => kf ?_)
  · rcases Int.lt_or_le a 0 with z | z
    · have h1 := (lL_xor ha h0).mpr z
      rw [lc_lt h1] at q
      exact absurd q (by decide)
    · exact z
  · refine (lL_xor ha h0).mp ?_
    rcases lc_tri (lL a ^^^ lL b) 0 with z | z | z
    · exact z
    · rw [z, lc_eq] at q
      exact absurd (by decide) q
    · rw [lc_gt z] at q
      exact absurd (by decide) q
/-- lcmp; ifeq -/
theorem q_lceq (hexec : p.tables.exec = Jvm.exec) (hb : c.code = cc) {a b : Int} {off : Int} {tgt : Nat} (d0 : decode cc pc = .ok (.lcmp, 1)) (d : decode cc (pc + 1) = .ok (.ifCond .eq off, 3)) (ht : ((pc + 1 : Nat) : Int) + off = (tgt : Int)) (ha : -9223372036854775808 ≤ a ∧ a < 9223372036854775808) (hb2 : -9223372036854775808 ≤ b ∧ b < 9223372036854775808) (kt : a = b → W p l e R s m args below meth c H locs cells slots Q (F0 m tgt ls rest)) (kf : ¬ a = b → W p l e R s m args below meth c H locs cells slots Q (F0 m (pc + 4) ls rest)) : W p l e R s m args below meth c H locs cells slots Q (F0 m pc ls (.long (lL b) :: .long (lL a) :: rest)) := by
  refine W.lcmp hexec hb d0 ?_
  refine lv_if_eq hexec hb d ht (fun q => kt ?_) (fun q => kf (fun z => ?_))
  · refine (lL_eq ha hb2).mp ?_
    rcases lc_tri (lL a) (lL b) with z | z | z
    · rw [lc_lt z] at q
      exact absurd q (by decide)
    · exact z
    · rw [lc_gt z] at q
      exact absurd q (by decide)
  · rw [z, lc_eq] at q
    exact q rfl
end XC
theorem sh_cyc (d : Int) : shI d 4800 = d + 146097 ∧ shI d (-4800) = d - 146097 := by
  have h := dI_b d
  have c1 := fI_cyc (mI d)
  have c2 := fI_cyc (mI d + 1)
  have c3 := fI_cyc (mI d - 4800)
  have c4 := fI_cyc (mI d + 1 - 4800)
  rw [show mI d - 4800 + 4800 = mI d by omega] at c3
  rw [show mI d + 1 - 4800 + 4800 = mI d + 1 by omega] at c4
  rw [show mI d + 1 + 4800 = mI d + 4800 + 1 by omega] at c2
  rw [show mI d + 1 - 4800 = mI d + -4800 + 1 by omega] at c4
  rw [show mI d - 4800 = mI d + -4800 by omega] at c3
  unfold shI inI
  constructor <;> split <;> omega
theorem sh_back (d n : Int) : shI (shI d n) (-n) = d ↔ dI (shI d n) = dI d := by
  have h1 := shI_s d n
  have h2 := shI_s (shI d n) (-n)
  have hd := dI_b d
  have hb := dI_b (shI (shI d n) (-n))
  have e : mI (shI d n) + -n = mI d := by omega
  rw [e] at h2
  constructor
  · intro q
    rw [q] at h2
    have h3 := h2.2.1
    have h4 := h1.2.1
    have h5 := len_b (mI d + n)
    split at h3 <;> split at h4 <;> omega
  · intro q
    rw [q] at h2
    have h3 := h2.2.1
    rw [if_pos hd.2.1] at h3
    rw [h3, h2.1] at hb
    omega
theorem sh_mono {a b n : Int} (h : a ≤ b) : shI a n ≤ shI b n := by
  have h1 := shI_s a n
  have h2 := shI_s b n
  have hm := mI_mono h
  rcases Int.lt_or_le (mI a) (mI b) with q | q
  · have := fI_mono (a := mI a + n + 1) (b := mI b + n) (by omega)
    omega
  · have e : mI a = mI b := by omega
    have ha := dI_b a
    have hb := dI_b b
    rw [e] at ha
    unfold shI inI
    rw [e]
    split <;> split <;> omega
/-- the n-th anniversary, on the day behind where it is late -/
def anI (d n q : Int) : Int := if q = 1 ∧ 0 < dI d - dI (shI d (12 * n)) then shI d (12 * n) + 1 else shI d (12 * n)
def unI (d o q : Int) : Int := if 0 < mI o / 12 - mI d / 12 ∧ o < anI d (mI o / 12 - mI d / 12) q then mI o / 12 - mI d / 12 - 1 else mI o / 12 - mI d / 12
theorem anI_b (d n q : Int) : shI d (12 * n) ≤ anI d n q ∧ anI d n q ≤ shI d (12 * n) + 1 := by
  unfold anI
  split <;> omega
theorem un_b (d o q : Int) : mI o / 12 - mI d / 12 - 1 ≤ unI d o q ∧ unI d o q ≤ mI o / 12 - mI d / 12 := by
  unfold unI
  split <;> omega
