/-! the digest's folds -/
def vS (x : Int) : Int := (iI x).toInt
theorem v_one : (iI 1).toInt = 1 := by decide
def nxN (n : Nat) : Nat := if n + 1 < 6 then n + 1 else 0
theorem nx_a {a : Int} (h : 0 ≤ a) (c : a + 1 < 6) : nxN a.toNat = (a + 1).toNat := by
  unfold nxN
  rw [if_pos (by omega)]
  omega
theorem nx_b {a : Int} (h : 0 ≤ a) (c : ¬ a + 1 < 6) : nxN a.toNat = Int.toNat 0 := by
  unfold nxN
  rw [if_neg (by omega)]
  rfl
/-- the place behind -/
def GN (a z : Int) : Prop := nxN a.toNat = z.toNat
theorem gn_m {a z : Int} (h : 0 ≤ a ∧ a < 6) (e : z = (a + 1) % 6) : GN a z := by
  show nxN a.toNat = z.toNat
  unfold nxN
  split <;> omega
def lpV (y : Int) : Int := if y % 4 = 0 ∧ (¬ y % 100 = 0 ∨ y % 400 = 0) then 1 else 0
theorem lpV_r {y r : Int} (h : (r = 1 ∧ lpI y) ∨ (r = 0 ∧ ¬ lpI y)) : r = lpV y := by
  unfold lpV
  rcases h with ⟨e, q⟩ | ⟨e, q⟩
  · rw [if_pos (show y % 4 = 0 ∧ (¬ y % 100 = 0 ∨ y % 400 = 0) from q)]
    exact e
  · rw [if_neg (show ¬ (y % 4 = 0 ∧ (¬ y % 100 = 0 ∨ y % 400 = 0)) from q)]
    exact e
/-- what the digest says of the date at n; b: the place behind -/
def xsF (dt : Nat → Int) (n b : Nat) : Nat → Int
  | 0 => dt n
  | 1 => mI (dt n)
  | 2 => dI (dt n)
  | 3 => wI (dt n)
  | 4 => dt n - fI (12 * (mI (dt n) / 12)) + 1
  | 5 => fI (mI (dt n) + 1) - fI (mI (dt n))
  | 6 => lpV (mI (dt n) / 12)
  | 7 => ((if mI (dt n) / 12 < 0 then 11 else 10 : Nat) : Int)
  | 8 => dI (dt n) - dI (shI (dt n) 1)
  | 9 => dI (dt n) - dI (shI (dt n) (-1))
  | 10 => shI (dt n + 30) 1 - (shI (dt n) 1 + 30)
  | 11 => (if dt n = dt b then 0 else if dt n < dt b then -1 else 1)
  | 12 => (if dt b < dt n then -muI (dt b) (dt n) else muI (dt n) (dt b))
  | _ => 0
/-- a row of numbers, taken into a sum -/
def rfF (g : Nat → Int) (s : Int) : Nat → Int
  | 0 => s
  | k + 1 => rfF g s k * 31 + vS (g k)
theorem rf_s {g : Nat → Int} {s d e x j : Int} (h : 0 ≤ j) (hd : d = rfF g s j.toNat) (he : e = d * 31 + (iI x).toInt) (hx : x = g j.toNat) : e = rfF g s (j + 1).toNat := by
  rw [show (j + 1).toNat = j.toNat + 1 by omega, he, hd, hx]
  rfl
theorem rf_x {g f : Nat → Int} (s : Int) : ∀ k : Nat, (∀ i, i < k → g i = f i) → rfF g s k = rfF f s k
  | 0, _ => rfl
  | k + 1, h => by
    show rfF g s k * 31 + vS (g k) = rfF f s k * 31 + vS (f k)
    rw [rf_x s k (fun i hi => h i (by omega)), h k (by omega)]
def wdF (dt : Nat → Int) (n : Nat) (s : Int) : Int := (((((((s * 31 + vS (dt n)) * 31 + vS (mI (dt n))) * 31 + vS (dI (dt n))) * 31 + vS (wI (dt n))) * 31 + vS (dt n - fI (12 * (mI (dt n) / 12)) + 1)) * 31 + vS (fI (mI (dt n) + 1) - fI (mI (dt n)))) * 31 + vS (lpV (mI (dt n) / 12))) * 31 + vS ((if mI (dt n) / 12 < 0 then 11 else 10 : Nat) : Int)
def wsF (dt : Nat → Int) (n b : Nat) (s : Int) : Int := ((((s * 31 + vS (dI (dt n) - dI (shI (dt n) 1))) * 31 + vS (dI (dt n) - dI (shI (dt n) (-1)))) * 31 + vS (shI (dt n + 30) 1 - (shI (dt n) 1 + 30))) * 31 + vS (if dt n = dt b then 0 else if dt n < dt b then -1 else 1)) * 31 + vS (if dt b < dt n then -muI (dt b) (dt n) else muI (dt n) (dt b))
theorem ws_eq (dt : Nat → Int) (n b : Nat) (s : Int) : rfF (xsF dt n b) s 13 = wsF dt n b (wdF dt n s) := rfl
/-- the first k numbers of a row -/
def GP (dt : Nat → Int) (n b : Nat) (g : Nat → Int) (k : Nat) : Prop := ∀ i, i < k → g i = xsF dt n b i
def GX (dt : Nat → Int) (n b k : Nat) (x : Int) : Prop := x = xsF dt n b k
theorem gp_0 (dt : Nat → Int) (n b : Nat) (g : Nat → Int) : GP dt n b g 0 := fun i h => absurd h (Nat.not_lt_zero i)
theorem gp_s {dt : Nat → Int} {n b : Nat} {g : Nat → Int} {k : Nat} {x : Int} (h : GP dt n b g k) (e : GX dt n b k x) : GP dt n b (up g k x) (k + 1) := fun i hi => by
  by_cases c : i = k
  · subst c
    rw [up_s]
    exact e
  · rw [up_n _ _ c]
    exact h i (by omega)
/-- what house answers -/
def hvF (dt : Nat → Int) (bc rf kn k : Int) : Int := (if k = 0 then bc else if k = 1 then unC dt 6 else if k = 2 then rf else kn)
def dg1 (dt : Nat → Int) (bc rf kn : Int) : Nat → Int
  | 0 => 7843
  | k + 1 => dg1 dt bc rf kn k * 31 + vS (hvF dt bc rf kn (k : Int))
theorem dg1_s {dt : Nat → Int} {bc rf kn d e x j : Int} (h : 0 ≤ j) (hd : d = dg1 dt bc rf kn j.toNat) (he : e = d * 31 + (iI x).toInt) (hx : x = (if j = 0 then bc else if j = 1 then unC dt 6 else if j = 2 then rf else kn)) : e = dg1 dt bc rf kn (j + 1).toNat := by
  rw [show (j + 1).toNat = j.toNat + 1 by omega]
  show e = dg1 dt bc rf kn j.toNat * 31 + (iI (hvF dt bc rf kn ((j.toNat : Nat) : Int))).toInt
  rw [show ((j.toNat : Nat) : Int) = j by omega, he, hd, hx]
  rfl
def dg2 (dt : Nat → Int) (s : Int) : Nat → Int
  | 0 => s
  | k + 1 => wsF dt k (nxN k) (wdF dt k (dg2 dt s k))
theorem dg1_e {dt : Nat → Int} {bc rf kn d j : Int} (hd : d = dg1 dt bc rf kn j.toNat) (hj : j = 4) : d = dg2 dt (dg1 dt bc rf kn 4) (Int.toNat 0) := by
  rw [hj] at hd
  exact hd
theorem dg2_s {dt : Nat → Int} {s d x e j : Int} (h : 0 ≤ j) (hd : d = dg2 dt s j.toNat) (he : e = wsF dt j.toNat (nxN j.toNat) x) (hx : x = wdF dt j.toNat d) : e = dg2 dt s (j + 1).toNat := by
  rw [show (j + 1).toNat = j.toNat + 1 by omega, he, hx, hd]
  rfl
theorem dg_row {dt : Nat → Int} {s d d3 pl ix z : Int} {g : Nat → Int} (h : 0 ≤ pl ∧ pl < 6) (hd : d = dg2 dt s pl.toNat) (he : d3 = rfF g d ix.toNat) (hi : ix = 13) (hn : GN pl z) (hg : GP dt pl.toNat z.toNat g 13) : d3 = dg2 dt s (pl + 1).toNat := by
  rw [hi] at he
  have h1 : d3 = rfF g d 13 := he
  rw [rf_x d 13 hg, ws_eq] at h1
  refine dg2_s h.1 hd (x := wdF dt pl.toNat d) ?_ rfl
  rw [h1, show nxN pl.toNat = z.toNat from hn]
def ovF (x y z k : Int) : Int := (if k = 0 then x else if k = 1 then y else if k = 2 then z else 12 * x + y)
def spA (x y z s : Int) : Nat → Int
  | 0 => s
  | k + 1 => spA x y z s k * 31 + vS (ovF x y z (k : Int))
theorem sp_s {x y z s d e v j : Int} (h : 0 ≤ j) (hd : d = spA x y z s j.toNat) (he : e = d * 31 + (iI v).toInt) (hv : v = (if j = 0 then x else if j = 1 then y else if j = 2 then z else 12 * x + y)) : e = spA x y z s (j + 1).toNat := by
  rw [show (j + 1).toNat = j.toNat + 1 by omega]
  show e = spA x y z s j.toNat * 31 + (iI (ovF x y z ((j.toNat : Nat) : Int))).toInt
  rw [show ((j.toNat : Nat) : Int) = j by omega, he, hd, hv]
  rfl
def dg3 (sy sm sd : Nat → Int) (s : Int) : Nat → Int
  | 0 => s
  | k + 1 => spA (sy k) (sm k) (sd k) (dg3 sy sm sd s k) 4
theorem dg2_e {dt sy sm sd : Nat → Int} {s d j : Int} (hd : d = dg2 dt s j.toNat) (hj : j = 6) : d = dg3 sy sm sd (dg2 dt s 6) (Int.toNat 0) := by
  rw [hj] at hd
  exact hd
theorem dg3_s {sy sm sd : Nat → Int} {s d e j k : Int} (h : 0 ≤ j) (hd : d = dg3 sy sm sd s j.toNat) (he : e = spA (sy j.toNat) (sm j.toNat) (sd j.toNat) d k.toNat) (hk : k = 4) : e = dg3 sy sm sd s (j + 1).toNat := by
  rw [hk] at he
  rw [show (j + 1).toNat = j.toNat + 1 by omega, he, hd]
  rfl
def dgA (dt sy sm sd : Nat → Int) (bc rf kn : Int) : Int := dg3 sy sm sd (dg2 dt (dg1 dt bc rf kn 4) 6) 3 * 31 + 1
theorem dg3_e {dt sy sm sd : Nat → Int} {bc rf kn d j : Int} (hd : d = dg3 sy sm sd (dg2 dt (dg1 dt bc rf kn 4) 6) j.toNat) (hj : j = 3) : d * 31 + 1 = dgA dt sy sm sd bc rf kn := by
  rw [hj] at hd
  rw [hd]
  rfl
section DIGR
variable {p : Program} {l : Launch} {e : Env} {R : Room} {s : State} {m : MethodId} {args : Array Value} {below : List Frame} {meth : Method} {c : Code} {H : Heap} {locs : List Loc} {cells slots : Nat} {Q : State → Prop} {cc : ByteArray} {pc : Nat} {ls : Array Slot} {rest : List Value}
/-- an int, as it is, to a long -/
theorem q_i2ly (hexec : p.tables.exec = Jvm.exec) (hb : c.code = cc) {a : Int} (d : decode cc pc = .ok (.i2l, 1)) (k : W p l e R s m args below meth c H locs cells slots Q (F0 m (pc + 1) ls (.long (lL (iI a).toInt) :: rest))) : W p l e R s m args below meth c H locs cells slots Q (F0 m pc ls (.int (iI a) :: rest)) := by
  have h1 := Int32.le_toInt (iI a)
  have h2 := Int32.toInt_lt (iI a)
  have h3 := q_i2l (a := (iI a).toInt) hexec hb d ⟨by omega, by omega⟩ k
  rw [iI_of] at h3
  exact h3
end DIGR
