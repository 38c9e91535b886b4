/-! what loops count -/
/-- of the months of a year before the month j: those that have the day k, on the weekday w -/
def iyC (y k w : Int) : Nat → Int
  | 0 => 0
  | n + 1 => iyC y k w n + (if k ≤ fI (12 * y + (n : Int) + 1) - fI (12 * y + (n : Int)) ∧ wI (inI (12 * y + (n : Int)) k) = w then 1 else 0)
theorem iyC_s (y k w : Int) (n : Nat) : iyC y k w (n + 1) = iyC y k w n + (if k ≤ fI (12 * y + (n : Int) + 1) - fI (12 * y + (n : Int)) ∧ wI (inI (12 * y + (n : Int)) k) = w then 1 else 0) := rfl
def iyA (y k w j : Int) : Int := iyC y k w (j - 12 * y).toNat
theorem iyA_0 (y k w : Int) : iyA y k w (12 * y) = 0 := by
  unfold iyA
  rw [show (12 * y - 12 * y).toNat = 0 by omega]
  rfl
theorem iyA_s (y k w j : Int) (h : 12 * y ≤ j) : ((k ≤ fI (j + 1) - fI j ∧ wI (inI j k) = w) ∧ iyA y k w (j + 1) = iyA y k w j + 1) ∨ (¬ (k ≤ fI (j + 1) - fI j ∧ wI (inI j k) = w) ∧ iyA y k w (j + 1) = iyA y k w j) := by
  unfold iyA
  have e1 : (j + 1 - 12 * y).toNat = (j - 12 * y).toNat + 1 := by omega
  have e2 : 12 * y + ((j - 12 * y).toNat : Int) = j := by omega
  rw [e1, iyC_s, e2]
  by_cases c : k ≤ fI (j + 1) - fI j ∧ wI (inI j k) = w
  · exact Or.inl ⟨c, by rw [if_pos c]⟩
  · exact Or.inr ⟨c, by rw [if_neg c, Int.add_zero]⟩
theorem iyA_d (j k : Int) : (k ≤ fI (j + 1) - fI j ∧ wI (inI j k) = wI (fI j + k - 1)) ∨ ¬ (k ≤ fI (j + 1) - fI j) := by
  by_cases c : k ≤ fI (j + 1) - fI j
  · refine Or.inl ⟨c, ?_⟩
    unfold inI
    rw [if_pos (by omega)]
  · exact Or.inr c
/-- of the years before the j-th: those whose day comes on the weekday w -/
def rcC (d w : Int) : Nat → Int
  | 0 => 0
  | n + 1 => rcC d w n + (if wI (shI d (12 * ((n : Int) + 1))) = w then 1 else 0)
theorem rcC_s (d w : Int) (n : Nat) : rcC d w (n + 1) = rcC d w n + (if wI (shI d (12 * ((n : Int) + 1))) = w then 1 else 0) := rfl
def rcA (d w j : Int) : Int := rcC d w (j - 1).toNat
theorem rcA_1 (d w : Int) : rcA d w 1 = 0 := rfl
theorem rcA_s (d w j : Int) (h : 1 ≤ j) : (wI (shI d (12 * j)) = w ∧ rcA d w (j + 1) = rcA d w j + 1) ∨ (¬ wI (shI d (12 * j)) = w ∧ rcA d w (j + 1) = rcA d w j) := by
  unfold rcA
  have e1 : (j + 1 - 1).toNat = (j - 1).toNat + 1 := by omega
  have e2 : ((j - 1).toNat : Int) + 1 = j := by omega
  rw [e1, rcC_s, e2]
  by_cases c : wI (shI d (12 * j)) = w
  · exact Or.inl ⟨c, by rw [if_pos c]⟩
  · exact Or.inr ⟨c, by rw [if_neg c, Int.add_zero]⟩
/-- 1 where one of the first n dates is the one at k -/
def mbP (dt : Nat → Int) (k : Nat) : Nat → Int
  | 0 => 0
  | n + 1 => if dt n = dt k then 1 else mbP dt k n
theorem mbP_b (dt : Nat → Int) (k : Nat) : ∀ n : Nat, mbP dt k n = 0 ∨ mbP dt k n = 1
  | 0 => Or.inl rfl
  | n + 1 => by
    show (if dt n = dt k then 1 else mbP dt k n) = 0 ∨ (if dt n = dt k then 1 else mbP dt k n) = 1
    by_cases c : dt n = dt k
    · rw [if_pos c]
      exact Or.inr rfl
    · rw [if_neg c]
      exact mbP_b dt k n
theorem mbP_1 (dt : Nat → Int) (k i : Nat) (h : dt i = dt k) : ∀ n : Nat, i < n → mbP dt k n = 1
  | 0, q => absurd q (Nat.not_lt_zero _)
  | n + 1, q => by
    show (if dt n = dt k then 1 else mbP dt k n) = 1
    by_cases c : dt n = dt k
    · rw [if_pos c]
    · rw [if_neg c]
      exact mbP_1 dt k i h n (Nat.lt_of_le_of_ne (Nat.le_of_lt_succ q) (fun e => c (e ▸ h)))
theorem mbP_s (dt : Nat → Int) (k j : Int) (h : 0 ≤ j) : (dt j.toNat = dt k.toNat ∧ mbP dt k.toNat (j + 1).toNat = 1) ∨ (¬ dt j.toNat = dt k.toNat ∧ mbP dt k.toNat (j + 1).toNat = mbP dt k.toNat j.toNat) := by
  rw [show (j + 1).toNat = j.toNat + 1 by omega]
  show (_ ∧ (if dt j.toNat = dt k.toNat then 1 else mbP dt k.toNat j.toNat) = 1) ∨ (_ ∧ (if dt j.toNat = dt k.toNat then 1 else mbP dt k.toNat j.toNat) = _)
  by_cases c : dt j.toNat = dt k.toNat
  · exact Or.inl ⟨c, if_pos c⟩
  · exact Or.inr ⟨c, if_neg c⟩
/-- how many of the first n dates are unlike all before them -/
def unC (dt : Nat → Int) : Nat → Int
  | 0 => 0
  | n + 1 => unC dt n + (1 - mbP dt n n)
theorem unC_s (dt : Nat → Int) (j : Int) (h : 0 ≤ j) : unC dt (j + 1).toNat = unC dt j.toNat + (1 - mbP dt j.toNat j.toNat) := by
  rw [show (j + 1).toNat = j.toNat + 1 by omega]
  rfl
/-- the date behind i shifts by n -/
def wyI (d n : Int) : Nat → Int
  | 0 => d
  | i + 1 => shI (wyI d n i) n
theorem wy_step (d n : Int) : dI (shI d n) = dI d ∨ (28 ≤ dI (shI d n) ∧ dI (shI d n) < dI d) := by
  have h := (shI_s d n).2.1
  have h2 := len_b (mI d + n)
  by_cases e : dI d ≤ fI (mI d + n + 1) - fI (mI d + n)
  · rw [if_pos e] at h
    exact Or.inl h
  · rw [if_neg e] at h
    exact Or.inr (by omega)
theorem wy_bd (d n : Int) (hd : -4371587 ≤ d ∧ d ≤ 2932896) (hn : -1200 ≤ n ∧ n ≤ 1200) : ∀ i : Nat, -4371587 - 40000 * (i : Int) ≤ wyI d n i ∧ wyI d n i ≤ 2932896 + 40000 * (i : Int) := by
  intro i
  induction i with
  | zero => exact ⟨by show _ ≤ d; omega, by show d ≤ _; omega⟩
  | succ i ih =>
    have h := shI_bd (wyI d n i) n
    show _ ≤ shI (wyI d n i) n ∧ shI (wyI d n i) n ≤ _
    omega
theorem wy_s (d n j : Int) (h : 0 ≤ j) : wyI d n (j + 1).toNat = shI (wyI d n j.toNat) n := by
  rw [show (j + 1).toNat = j.toNat + 1 by omega]
  rfl
/-- the first of n shifts that loses a day, or -1 -/
def kpC (d n : Int) : Nat → Int
  | 0 => -1
  | k + 1 => if kpC d n k = -1 then (if dI (wyI d n (k + 1)) < dI (wyI d n k) then (k : Int) + 1 else -1) else kpC d n k
theorem kp_up (d n : Int) {k : Nat} (h : ¬ kpC d n k = -1) : ∀ m : Nat, kpC d n (k + m) = kpC d n k
  | 0 => rfl
  | m + 1 => by
    have h2 := kp_up d n h m
    show (if kpC d n (k + m) = -1 then _ else kpC d n (k + m)) = _
    rw [if_neg (by rw [h2]; exact h), h2]
def kpA (d n j : Int) : Int := kpC d n (j - 1).toNat
theorem kpA_1 (d n : Int) : kpA d n 1 = -1 := rfl
theorem kp_r (d n j : Int) (h : 1 ≤ j ∧ j ≤ 48) (hk : kpA d n j = -1) : (dI (wyI d n j.toNat) < dI (wyI d n (j - 1).toNat) ∧ kpA d n 49 = j) ∨ (¬ dI (wyI d n j.toNat) < dI (wyI d n (j - 1).toNat) ∧ kpA d n (j + 1) = -1) := by
  obtain ⟨k, rfl⟩ : ∃ k : Nat, j = (k : Int) + 1 := ⟨(j - 1).toNat, by omega⟩
  unfold kpA at hk ⊢
  rw [show ((k : Int) + 1 - 1).toNat = k by omega] at hk ⊢
  rw [show ((k : Int) + 1).toNat = k + 1 by omega, show ((k : Int) + 1 + 1 - 1).toNat = k + 1 by omega]
  have e : kpC d n (k + 1) = if dI (wyI d n (k + 1)) < dI (wyI d n k) then (k : Int) + 1 else -1 := by
    show (if kpC d n k = -1 then _ else kpC d n k) = _
    rw [if_pos hk]
  by_cases c : dI (wyI d n (k + 1)) < dI (wyI d n k)
  · rw [if_pos c] at e
    refine Or.inl ⟨c, ?_⟩
    have h2 := kp_up d n (k := k + 1) (by rw [e]; omega) (47 - k)
    rw [show k + 1 + (47 - k) = ((49 : Int) - 1).toNat by omega] at h2
    rw [h2, e]
  · rw [if_neg c] at e
    exact Or.inr ⟨c, e⟩
theorem kp_c (d n dd j : Int) (h : 1 ≤ j ∧ j ≤ 48) (hd : dd = wyI d n (j - 1).toNat) (hk : kpA d n j = -1) : shI dd n = wyI d n j.toNat ∧ ((dI (shI dd n) < dI dd ∧ kpA d n 49 = j) ∨ (¬ dI (shI dd n) < dI dd ∧ kpA d n (j + 1) = -1)) := by
  have h2 := kp_r d n j h hk
  have h3 := wy_s d n (j - 1) (by omega)
  rw [show j - 1 + 1 = j by omega, ← hd] at h3
  rw [h3, ← hd] at h2
  exact ⟨h3.symm, h2⟩
/-- the k-th of a month's days that are the weekday w -/
def nthI (m w k : Int) : Int := if 1 + (w - wI (fI m)) % 7 + 7 * (k - 1) ≤ fI (m + 1) - fI m then 1 + (w - wI (fI m)) % 7 + 7 * (k - 1) else -1
theorem nth_d (m w k : Int) : (1 + (w - wI (fI m)) % 7 + 7 * (k - 1) ≤ fI (m + 1) - fI m ∧ nthI m w k = 1 + (w - wI (fI m)) % 7 + 7 * (k - 1)) ∨ (¬ 1 + (w - wI (fI m)) % 7 + 7 * (k - 1) ≤ fI (m + 1) - fI m ∧ nthI m w k = -1) := by
  unfold nthI
  by_cases c : 1 + (w - wI (fI m)) % 7 + 7 * (k - 1) ≤ fI (m + 1) - fI m
  · exact Or.inl ⟨c, if_pos c⟩
  · exact Or.inr ⟨c, if_neg c⟩
/-- how many of a month's days before the j-th are the weekday w -/
def ntC (m w j : Int) : Int := (j + 5 - (w - wI (fI m)) % 7) / 7
theorem nt_1 (m w : Int) (h : 1 ≤ w ∧ w ≤ 7) : ntC m w 1 = 0 := by
  unfold ntC
  omega
theorem nt_s (m w j : Int) (h : 1 ≤ w ∧ w ≤ 7) : (wI (fI m + j - 1) = w ∧ ntC m w (j + 1) = ntC m w j + 1 ∧ j = 1 + (w - wI (fI m)) % 7 + 7 * ntC m w j) ∨ (¬ wI (fI m + j - 1) = w ∧ ntC m w (j + 1) = ntC m w j) := by
  unfold ntC wI
  omega
theorem nt_b (m w j k : Int) (h : ntC m w j < k) : j - 1 < 1 + (w - wI (fI m)) % 7 + 7 * (k - 1) := by
  unfold ntC at h
  omega
