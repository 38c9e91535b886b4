section SV9
theorem st_ref {s : State} {args : Array Value} (hts : ∀ w ∈ lw_tbl, w.before args s = true) (hf : ∀ w ∈ flatC (Jvm.Cond.and given_1 narrow_1), w.before args s = true) {own tx : String} {k : Nat} (h1 : Cond.stringRef own k tx ∈ lw_tbl) (h2 : Cond.exactly (.string own k) "java/lang/String" ∈ flatC (Jvm.Cond.and given_1 narrow_1)) : ∃ a : Nat, vk_R own k tx a s := by
  obtain ⟨a, c, cell, k9, q1, -⟩ := Cond.exactly_spec (args := args) (first := s) (o := none) (s := s) (idx := []) (hf _ h2)
  exact ⟨a, vk_R.of (hts _ h1) q1⟩
theorem st_fitB (l : List Int32) (h : ∀ x ∈ l, fits .byte (.int x) = true) : sb_Fit (fun j => l.getD j 0) := fun j => by
  show fits .byte (.int (l.getD j 0)) = true
  by_cases hj : j < l.length
  · have e : l.getD j 0 = l[j] := by simp [hj]
    rw [e]
    exact h _ (List.getElem_mem hj)
  · have e : l.getD j 0 = 0 := by simp [Nat.le_of_not_lt hj]
    rw [e]
    rfl
theorem st_all {s : State} {args : Array Value} (hts : ∀ w ∈ lw_tbl, w.before args s = true) (hf : ∀ w ∈ flatC (Jvm.Cond.and given_1 narrow_1), w.before args s = true) : ∃ θ : TH, θ.2.2.2 = s.heap.size ∧ SZ θ s s.heap ∧ SJ θ s s.heap := by
  obtain ⟨dC, dI, hC⟩ := st_cls hts
  obtain ⟨cA, hA⟩ := st_arrs hts
  obtain ⟨t0, z0, T0⟩ := st_len hts hf
  obtain ⟨t1, z1, T1⟩ := st_most hts hf
  obtain ⟨t20, z20, T20⟩ := st_ones hts hf
  obtain ⟨t21, z21, T21⟩ := st_tens hts hf
  obtain ⟨t22, ad, z22, T22, B22⟩ := st_cache hts hf
  obtain ⟨t23, z23, T23⟩ := st_empty hts hf
  obtain ⟨adK, adV, hS, hE⟩ := st_strs hf
  obtain ⟨r10, h10⟩ := st_ref hts hf (own := RX1) (k := 264) (tx := "no such PLACE") (by decide +kernel) (by decide +kernel)
  obtain ⟨r11, h11⟩ := st_ref hts hf (own := RX1) (k := 269) (tx := "no such SPAN") (by decide +kernel) (by decide +kernel)
  obtain ⟨r12, h12⟩ := st_ref hts hf (own := RX1) (k := 273) (tx := "an argument is out of its range") (by decide +kernel) (by decide +kernel)
  obtain ⟨r13, h13⟩ := st_ref hts hf (own := RX1) (k := 281) (tx := "the month has not so many days") (by decide +kernel) (by decide +kernel)
  obtain ⟨r14, h14⟩ := st_ref hts hf (own := RX1) (k := 284) (tx := "it would be no DATE") (by decide +kernel) (by decide +kernel)
  obtain ⟨r15, h15⟩ := st_ref hts hf (own := RX1) (k := 286) (tx := "the other DATE is ahead of the first one") (by decide +kernel) (by decide +kernel)
  obtain ⟨r16, h16⟩ := st_ref hts hf (own := RX1) (k := 288) (tx := "a number of the SPAN would be out of its range") (by decide +kernel) (by decide +kernel)
  obtain ⟨addr, ha⟩ : ∃ f : Nat → Nat, f = fun i => if 100 ≤ i then ad (i - 100) else match i with | 0 => t0 | 1 => t1 | 10 => r10 | 11 => r11 | 12 => r12 | 13 => r13 | 14 => r14 | 15 => r15 | 16 => r16 | 20 => t20 | 21 => t21 | 22 => t22 | 23 => t23 | 24 => adK 0 | 25 => adK 1 | 26 => adK 2 | 27 => adK 3 | 28 => adV 0 | 29 => adV 1 | 30 => adV 2 | _ => adV 3 := ⟨_, rfl⟩
  have a0 : addr 0 = t0 := by rw [ha]; rfl
  have a1 : addr 1 = t1 := by rw [ha]; rfl
  have a10 : addr 10 = r10 := by rw [ha]; rfl
  have a11 : addr 11 = r11 := by rw [ha]; rfl
  have a12 : addr 12 = r12 := by rw [ha]; rfl
  have a13 : addr 13 = r13 := by rw [ha]; rfl
  have a14 : addr 14 = r14 := by rw [ha]; rfl
  have a15 : addr 15 = r15 := by rw [ha]; rfl
  have a16 : addr 16 = r16 := by rw [ha]; rfl
  have a20 : addr 20 = t20 := by rw [ha]; rfl
  have a21 : addr 21 = t21 := by rw [ha]; rfl
  have a22 : addr 22 = t22 := by rw [ha]; rfl
  have a23 : addr 23 = t23 := by rw [ha]; rfl
  have a24 : addr 24 = adK 0 := by rw [ha]; rfl
  have a25 : addr 25 = adK 1 := by rw [ha]; rfl
  have a26 : addr 26 = adK 2 := by rw [ha]; rfl
  have a27 : addr 27 = adK 3 := by rw [ha]; rfl
  have a28 : addr 28 = adV 0 := by rw [ha]; rfl
  have a29 : addr 29 = adV 1 := by rw [ha]; rfl
  have a30 : addr 30 = adV 2 := by rw [ha]; rfl
  have a31 : addr 31 = adV 3 := by rw [ha]; rfl
  have ab : ∀ k : Nat, addr (100 + k) = ad k := fun k => by
    rw [ha]
    show (if 100 ≤ 100 + k then ad (100 + k - 100) else _) = ad k
    rw [if_pos (by omega), show 100 + k - 100 = k by omega]
  clear ha
  have hST : ∀ i : Nat, i < 4 → STA (SA s) s s.heap (adK i) (adV i) (st_len4.getD i 0) := fun i hi => by
    obtain ⟨h1, h2, h3, h4⟩ := hS.1 i hi
    refine ⟨h1, h2, h3, _, h4, st_fitB _ ?_⟩
    rcases (show i = 0 ∨ i = 1 ∨ i = 2 ∨ i = 3 by omega) with rfl | rfl | rfl | rfl <;> decide
  refine ⟨((dC, dI), cA, addr, s.heap.size), rfl, ⟨⟨hC, hA⟩, Nat.le_refl _, ?_, ?_, st_un hts hf, st_su hts hf, st_comp hts hf, ?_⟩, ?_, ?_, ?_, st_high hts hf, ?_, ?_, ?_, ?_, ?_, ?_, ?_⟩
  · show va_Z _ _ _ (.ref (addr 0)) _ s s.heap ∧ va_T .int (addr 0) 12 _ _ s s.heap ∧ addr 0 < s.heap.size
    rw [a0]
    exact ⟨z0, T0, T0.lt⟩
  · show va_Z _ _ _ (.ref (addr 1)) _ s s.heap ∧ va_T .int (addr 1) 3 _ _ s s.heap ∧ addr 1 < s.heap.size
    rw [a1]
    exact ⟨z1, T1, T1.lt⟩
  · refine ⟨hts (.arrayOver (.array .int)) (by decide +kernel), st_wN hts, ?_, ?_, ?_, ?_, ?_, ?_, ?_⟩
    · show vk_R RX1 264 "no such PLACE" (addr 10) s
      rw [a10]
      exact h10
    · show vk_R RX1 269 "no such SPAN" (addr 11) s
      rw [a11]
      exact h11
    · show vk_R RX1 273 "an argument is out of its range" (addr 12) s
      rw [a12]
      exact h12
    · show vk_R RX1 281 "the month has not so many days" (addr 13) s
      rw [a13]
      exact h13
    · show vk_R RX1 284 "it would be no DATE" (addr 14) s
      rw [a14]
      exact h14
    · show vk_R RX1 286 "the other DATE is ahead of the first one" (addr 15) s
      rw [a15]
      exact h15
    · show vk_R RX1 288 "a number of the SPAN would be out of its range" (addr 16) s
      rw [a16]
      exact h16
  · refine ⟨⟨va_Nw.of rfl (hts _ (by decide +kernel)), va_Nw.of rfl (hts _ (by decide +kernel)), va_Nw.of rfl (hts _ (by decide +kernel)), va_Nw.of rfl (hts _ (by decide +kernel))⟩, va_AO.of (hts (.arrayOver (.object "java/lang/Object")) (by decide +kernel)), va_Dc.of (hts _ (by decide +kernel)), va_Mi.of (hf (.isRef (.mirror "[Ljava/lang/Object;")) (by decide +kernel)), (va_Fw.of (hts (.declares ⟨"java/util/Iterator", "hasNext", "()Z"⟩) (by decide +kernel)) (hts (.interfaceMethod "java/util/Iterator" "java/util/Iterator" "hasNext" "()Z") (by decide +kernel)) (hts (.publicMethod yJx35411_hasNext_aae02) (by decide +kernel)) (hts (.unhidden "java/util/ArrayList$Itr" "hasNext" "()Z") (by decide +kernel)) (hts (.castable "java/util/ArrayList$Itr" "java/util/Iterator") (by decide +kernel))), (va_Fw.of (hts (.declares ⟨"java/util/Iterator", "next", "()Ljava/lang/Object;"⟩) (by decide +kernel)) (hts (.interfaceMethod "java/util/Iterator" "java/util/Iterator" "next" "()Ljava/lang/Object;") (by decide +kernel)) (hts (.publicMethod yJx35411_next_0502b) (by decide +kernel)) (hts (.unhidden "java/util/ArrayList$Itr" "next" "()Ljava/lang/Object;") (by decide +kernel)) (hts (.castable "java/util/ArrayList$Itr" "java/util/Iterator") (by decide +kernel))), ?_, ?_, ?_, ?_⟩
    · show vk_R RX3 175 "" (addr 24) s
      rw [a24]
      exact vk_R.of (hts (.stringRef "CalendaractModel" 175 "") (by decide +kernel)) (hE 0 (by decide))
    · show vk_R RX3 203 " " (addr 25) s
      rw [a25]
      exact vk_R.of (hts (.stringRef "CalendaractModel" 203 " ") (by decide +kernel)) (hE 1 (by decide))
    · show vk_R RX3 242 "-" (addr 26) s
      rw [a26]
      exact vk_R.of (hts (.stringRef "CalendaractModel" 242 "-") (by decide +kernel)) (hE 2 (by decide))
    · show vk_R RX3 240 "0" (addr 27) s
      rw [a27]
      exact vk_R.of (hts (.stringRef "CalendaractModel" 240 "0") (by decide +kernel)) (hE 3 (by decide))
  · show va_Z _ _ _ (.ref (addr 20)) _ s s.heap ∧ ∃ f : Nat → Int32, va_T .byte (addr 20) 100 (fun j => .int (f j)) _ s s.heap
    rw [a20]
    exact ⟨z20, _, T20⟩
  · show va_Z _ _ _ (.ref (addr 21)) _ s s.heap ∧ ∃ f : Nat → Int32, va_T .byte (addr 21) 100 (fun j => .int (f j)) _ s s.heap
    rw [a21]
    exact ⟨z21, _, T21⟩
  · show va_Z _ _ _ (.ref (addr 22)) _ s s.heap ∧ va_T _ (addr 22) 256 (fun k => .ref (addr (100 + k))) _ s s.heap
    rw [a22, show (fun k => Value.ref (addr (100 + k))) = fun k => Value.ref (ad k) from funext fun k => by rw [ab k]]
    exact ⟨z22, T22⟩
  · intro k hk
    show BXA _ s s.heap (addr (100 + k)) _
    rw [ab k]
    exact B22 k hk
  · show va_Z _ _ _ (.ref (addr 23)) _ s s.heap ∧ va_T _ (addr 23) 0 _ _ s s.heap
    rw [a23]
    exact ⟨z23, T23⟩
  · show STA _ s s.heap (addr 24) (addr 28) 0
    rw [a24, a28]
    exact hST 0 (by decide)
  · show STA _ s s.heap (addr 25) (addr 29) 1
    rw [a25, a29]
    exact hST 1 (by decide)
  · show STA _ s s.heap (addr 26) (addr 30) 1
    rw [a26, a30]
    exact hST 2 (by decide)
  · show STA _ s s.heap (addr 27) (addr 31) 1
    rw [a27, a31]
    exact hST 3 (by decide)
end SV9
