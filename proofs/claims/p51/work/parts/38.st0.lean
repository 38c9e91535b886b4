/-! the run's start: what the statement and the tables say of it -/
theorem st_wG {s : State} {args : Array Value} (hts : ∀ w ∈ lw_tbl, w.before args s = true) : ∀ w ∈ wG, w.before args s = true := fun w h => hts w (List.mem_filter.mp h).1
theorem st_wN {s : State} {args : Array Value} (hts : ∀ w ∈ lw_tbl, w.before args s = true) : ∀ w ∈ wN, va_Nw w s := fun w h => by
  have h1 := hts w (List.mem_filter.mp h).1
  have h2 := (List.mem_filter.mp h).2
  cases w with
  | castable a b => exact va_Nw.of rfl h1
  | declares x => exact va_Nw.of rfl h1
  | _ => simp [nWord] at h2
theorem st_NX {s : State} {args : Array Value} (hts : ∀ w ∈ lw_tbl, w.before args s = true) (hf : ∀ w ∈ flatC (Jvm.Cond.and given_1 narrow_1), w.before args s = true) : NX s :=
  ⟨⟨va_Nc.of (hf (Cond.not (.castable "java/lang/IllegalArgumentException" "java/lang/IndexOutOfBoundsException")) (by decide +kernel)), va_Nc.of (hf (Cond.not (.castable "java/lang/IllegalStateException" "java/lang/IndexOutOfBoundsException")) (by decide +kernel)), va_Nc.of (hf (Cond.not (.castable "java/lang/IllegalStateException" "java/lang/IllegalArgumentException")) (by decide +kernel))⟩, va_Nw.of rfl (hts (.fieldLinkNest "CalendaractLaw" 13 "CalendaractLaw$Out" "n" "J" "CalendaractLaw") (by decide +kernel)), va_Nw.of rfl (hts (.fieldLinkNest "CalendaractLaw" 103 "CalendaractLaw$Out" "s" "Ljava/lang/String;" "CalendaractLaw") (by decide +kernel))⟩
theorem st_cls {s : State} {args : Array Value} (hts : ∀ w ∈ lw_tbl, w.before args s = true) : ∃ (dC : Nat → ClassId) (dI : Nat → Nat → Nat), ∀ (k : Nat) (q : vw_C), vwCl[k]? = some q → u_Kn s q.1 q.2.1 q.2.2 (dC k) (dI k) := by
  have hg := st_wG hts
  obtain ⟨c0, i0, h0⟩ := u_known (C := RJ0) (T := TJ0) (N := 4) (n := 4) hg gwJ0 (hts (.instantiable RJ0 4) (by decide +kernel))
  obtain ⟨c1, i1, h1⟩ := u_known (C := RJ4) (T := TJ4) (N := 4) (n := 4) hg gwJ4 (hts (.instantiable RJ4 4) (by decide +kernel))
  obtain ⟨c2, i2, h2⟩ := u_known (C := RJ6) (T := TJ6) (N := 1) (n := 1) hg gwJ6 (hts (.instantiable RJ6 1) (by decide +kernel))
  obtain ⟨c3, i3, h3⟩ := u_known (C := RJx00060) (T := TJx00060) (N := 6) (n := 6) hg gwJx00060 (hts (.instantiable RJx00060 6) (by decide +kernel))
  obtain ⟨c4, i4, h4⟩ := u_known (C := RJx7c733) (T := TJx7c733) (N := 6) (n := 6) hg gwJx7c733 (hts (.instantiable RJx7c733 6) (by decide +kernel))
  obtain ⟨c5, i5, h5⟩ := u_known (C := RJx35411) (T := TJx35411) (N := 4) (n := 4) hg gwJx35411 (hts (.instantiable RJx35411 4) (by decide +kernel))
  obtain ⟨c6, i6, h6⟩ := u_known (C := RJx4a65c) (T := TJx4a65c) (N := 3) (n := 3) hg gwJx4a65c (hts (.instantiable RJx4a65c 3) (by decide +kernel))
  obtain ⟨c7, i7, h7⟩ := u_known (C := RX1) (T := TX1) (N := 8) (n := 8) hg gwX1 (hts (.instantiable RX1 8) (by decide +kernel))
  obtain ⟨c8, i8, h8⟩ := u_known (C := RX2) (T := TX2) (N := 2) (n := 2) hg gwX2 (hts (.instantiable RX2 2) (by decide +kernel))
  obtain ⟨c9, i9, h9⟩ := u_known (C := RX3) (T := TX3) (N := 6) (n := 6) hg gwX3 (hts (.instantiable RX3 6) (by decide +kernel))
  refine ⟨fun k => match k with | 0 => c0 | 1 => c1 | 2 => c2 | 3 => c3 | 4 => c4 | 5 => c5 | 6 => c6 | 7 => c7 | 8 => c8 | _ => c9, fun k => match k with | 0 => i0 | 1 => i1 | 2 => i2 | 3 => i3 | 4 => i4 | 5 => i5 | 6 => i6 | 7 => i7 | 8 => i8 | _ => i9, ?_⟩
  intro k q hq
  match k, hq with
  | 0, hq => cases hq; exact h0
  | 1, hq => cases hq; exact h1
  | 2, hq => cases hq; exact h2
  | 3, hq => cases hq; exact h3
  | 4, hq => cases hq; exact h4
  | 5, hq => cases hq; exact h5
  | 6, hq => cases hq; exact h6
  | 7, hq => cases hq; exact h7
  | 8, hq => cases hq; exact h8
  | 9, hq => cases hq; exact h9
  | k + 10, hq => simp [vwCl] at hq
