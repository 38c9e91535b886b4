/-! THE CLAIM OUT OF ONE WALK OF THE LAW'S BODY. Your part is whole_start (and what it stands on); all else here is the same for every law, but numbers. -/
def R_law : String := "CalendaractLaw"
def lw_P (b : Addr) (xs : List Int32) (args : Array Value) (s : State) : Prop := args = #[.ref b] ∧ s.IntsAt b xs ∧ xs.length ≤ 2560 ∧ (Jvm.Cond.and given_1 narrow_1).before args s = true
def lw_Q (_ : Array Value) (s : State) (o : Outcome) (t : State) : Prop := o = .returned (some (.int 1)) ∧ Framed s o t [] 709631 6967212
def lw_Z (below : List Frame) (a : Array Value) (s : State) : State → Prop := fun t => ∃ o, t.status = .running ∧ Ended t below o ∧ lw_Q a s o t
/-- the law's own end, with 1 on the stack, nothing written that was there before, its room as the claim has it -/
theorem lw_ret {p : Program} {l : Launch} {e : Env} {s : State} {m : MethodId} {below : List Frame} {meth : Method} {c : Code} {b : Nat} (hx : p.tables.exec = Jvm.exec) (hb : c.code = code) (hr : meth.sig.returnType = ret) (hlocks : meth.locks = false) {pc : Nat} {H : Heap} {ls : Array Slot} (hdg : decode code pc = .ok (.ireturn, 1)) : W p l e room_1 s m #[Value.ref b] below meth c H [] 709631 6967212 (lw_Z below #[Value.ref b] s) (F0 m pc ls [.int 1]) := by
  intro T hT X
  obtain ⟨fs, hret, hrun, hended, hW, hframe⟩ := X.leave (v := some (.int 1)) (hlocks := hlocks) (fun h => by rw [hr] at h; cases h)
  have hmeth' : T.vm.method? m = some meth := X.method'
  refine ⟨T.setFrames fs, ?_, .returned (some (.int 1)), hrun, hended, rfl, ⟨_, rfl⟩, hW, hframe⟩
  jvm_step X.here [X.here.top, hx, hb, hdg, hmeth', hr, ret, narrow_b1]
  (try refine ⟨rfl, ?_⟩); (try refine ⟨rfl, ?_⟩)
  first | (intro acts; rw [hret _ acts rfl rfl rfl]) | rw [hret _ _ rfl rfl rfl]
  exact Steps.refl _
/-- what holds at the law's entry: the machine, the code, the tables' words (any of lw_tbl by 'hts w (by decide +kernel)'), the script of L ints xs at the cell b, what the Statement gives of the start (any of its parts by flat_of_before) -/
def lw_At (p : Program) (s : State) (m : MethodId) (meth : Method) (c : Code) (b L : Nat) (xs : Nat → Int32) : Prop :=
  p.tables.exec = Jvm.exec ∧ c.code = code ∧ meth.sig.returnType = ret ∧ c.maxLocals = 7 ∧ s.vm.findClass R_law = some m.cls ∧ (∀ w ∈ lw_tbl, w.before #[Value.ref b] s = true) ∧ va_X b L xs s s.heap ∧ b < s.heap.size ∧ meth.locks = false ∧ (Jvm.Cond.and given_1 narrow_1).before #[Value.ref b] s = true

set_option maxHeartbeats 4000000 in
set_option maxRecDepth 100000 in
/-- the law, from its entry, over its two makers of arrays of rows -/
theorem ws_start {p : Program} {e : Env} {s : State} {m : MethodId} {below : List Frame} {meth : Method} {c : Code} (l : Launch) (hflags : l.flags = flags0) (hA9 : ∀ (θ : TH) (S0 : State) (H9 : Heap), SZ θ S0 H9 → AnA θ S0) (hM9 : ∀ (θ : TH) (S0 : State) (H9 : Heap), SZ θ S0 H9 → MnA θ S0) {b L : Nat} {xs : Nat → Int32} (hL : L ≤ 2560) (C0 : lw_At p s m meth c b L xs) : W p l e room_1 s m #[Value.ref b] below meth c s.heap [] 0 0 (lw_Z below #[Value.ref b] s) (entryFrame m ([Value.ref b] : List Value).toArray 7) := by
  obtain ⟨hx, hb, hr, hml, hown, hts, hX, hbl, hlocks, hgv⟩ := id C0
  have hf := flat_of_before _ hgv
  obtain ⟨θ, hθ, hz, hj⟩ := st_all hts hf
  have hn := st_NX hts hf
  have hl0 : l.stackTraces = false := by
    show (!l.flags.contains noTraceFlag) = false
    rw [hflags]
    decide
  have htG := st_wG hts
  have fx : FX p m c cL_law 7 s #[Value.ref b] yL_law.cls s := ⟨⟨hx, hb, hml, hown, htG⟩, S_refl s⟩
  have hb : c.code = cL_law := hb
  have hbA : ¬ AJ θ b := by
    show ¬ θ.2.2.2 ≤ b
    omega
  have hK := sz_K fx.2 hz
  have hS : va_S (AJ θ) s.heap s.heap [] := va_S.rf
  have hAJ : ∀ x : Nat, AJ θ x → θ.2.2.2 ≤ x := fun _ h => h
  have hl := lv_entry ([.ref b]) (n := 7) (Nat.le_of_ble_eq_true rfl)
  rw [lg_entry_eq]
  generalize (lg_sl ([.ref b]) ++ List.replicate (7 - (lg_sl ([.ref b])).length) Slot.unset).toArray = ls at hl ⊢
  have hl : lv_has ls 7 [(0, .ref b)] := hl
  refine r_new (θ := θ) (ci := 7) (fs := [.null, .null, .null, .null, .null, .int (iI 0), .int (iI 0), .int (iI 0)]) (C := RX1) (T := TX1) (N := 8) hx hb htG gwX1 tyX1 tyX1_ok hown k31 k32 k1 hK hS rfl (fun j hj => by rcases (show j = 0 ∨ j = 1 ∨ j = 2 ∨ j = 3 ∨ j = 4 ∨ j = 5 ∨ j = 6 ∨ j = 7 by omega) with rfl | rfl | rfl | rfl | rfl | rfl | rfl | rfl <;> rfl) (Nat.le_of_ble_eq_true rfl) (Nat.le_of_ble_eq_true rfl) dL_law_0 (fun H1 h1 s1 q1 hS => ?_)
  refine lv_dup hx hb dL_law_3 rfl ?_
  refine c_Ir (As := []) (rest := [.ref s.heap.size]) (r := none) (st1 := [.ref s.heap.size]) fx hl (ci_Calendaract θ l s H1 (hz.at hAJ hS) (hj.at hAJ hS) s.heap.size h1 (Nat.le_of_eq hθ)) dL_law_4 k33 k34 k1 k35 rfl hd_X1_init rfl rfl ⟨Nat.le_of_ble_eq_true rfl, Nat.le_of_ble_eq_true rfl⟩ (Nat.le_of_ble_eq_true rfl) ⟨Nat.le_of_ble_eq_true rfl, Nat.le_of_ble_eq_true rfl⟩ hS (fun x hx => by show θ.2.2.2 ≤ x; (try dsimp only at hx); omega) (fun H2 locs2 hp2 z2 q2 hS => ?_)
  rw [s1] at hp2
  obtain ⟨s2, ob2, d2, y2, m2, dd2, sb2⟩ := hp2
  have cw2 : CW θ (fun i => s.heap.size + i) H2 (fun _ => 0) (fun _ => 0) (fun _ => 0) (fun _ => 0) 0 0 0 := ⟨ob2, d2, y2, m2, dd2, 0, sb2⟩
  refine lv_astore_n (lv' := [(1, .ref s.heap.size), (0, .ref b)]) hx hb dL_law_7 rfl hl (by decide) rfl (fun ls hl => ?_)
  refine r_new (θ := θ) (ci := 9) (fs := [.int (iI 0), .int (iI 0), .int (iI 0), .int (iI 0), .null, .null]) (C := RX3) (T := TX3) (N := 6) hx hb htG gwX3 tyX3 tyX3_ok hown k1059 k1060 k6 hK hS rfl (fun j hj => by rcases (show j = 0 ∨ j = 1 ∨ j = 2 ∨ j = 3 ∨ j = 4 ∨ j = 5 by omega) with rfl | rfl | rfl | rfl | rfl | rfl <;> rfl) (Nat.le_of_ble_eq_true rfl) (Nat.le_of_ble_eq_true rfl) dL_law_8 (fun H3 h3 s3 q3 hS => ?_)
  refine lv_dup hx hb dL_law_11 rfl ?_
  have hz3 := hz.at hAJ hS
  refine c_Ir (As := []) (rest := [.ref H2.size]) (r := none) (st1 := [.ref H2.size]) fx hl (mi_Model θ l s H3 hz3 (hA9 θ s H3 hz3) (hM9 θ s H3 hz3) H2.size h3 (by omega)) dL_law_12 k1061 k1062 k6 k1063 rfl hd_X3_init rfl rfl ⟨Nat.le_of_ble_eq_true rfl, Nat.le_of_ble_eq_true rfl⟩ (Nat.le_of_ble_eq_true rfl) ⟨Nat.le_of_ble_eq_true rfl, Nat.le_of_ble_eq_true rfl⟩ hS (fun x hx => by show θ.2.2.2 ≤ x; (try dsimp only at hx); omega) (fun H4 locs4 hp4 z4 q4 hS => ?_)
  obtain ⟨r, ob4, ar4, aq4, dr4, ai4⟩ := hp4
  have e2 : H2.size = s.heap.size + 7 := by omega
  have e3 : H3.size = s.heap.size + 8 := by omega
  have l4 := aq4.lt
  have cw4 := (cw2.kept (fun i hi => q3 _ (by (try dsimp only); omega))).kept (H1 := H4) (fun i hi => q4 _ (by (try dsimp only); omega) (by (try dsimp only); omega))
  have lr4 : ∀ j : Nat, j < 6 → r j < H4.size := fun j hj => (dr4 j hj).1.lt
  have lq4 : ∀ j : Nat, j < 3 → H3.size + 1 + 1 + j < H4.size := fun j hj => (ai4 j hj).lt
  have mw4 : MW θ (fun i => s.heap.size + 7 + i) H4 r (fun j => H3.size + 1 + 1 + j) (fun _ => 0) (fun _ _ => 0) 0 0 0 0 := by
    have hw1 : H3.size = s.heap.size + 7 + 1 := e3
    have hw2 : H3.size + 1 = s.heap.size + 7 + 2 := by omega
    refine ⟨?_, ?_, ?_, fun j hj => ⟨(dr4 j hj).1, ?_, ?_, ?_⟩, fun j hj => ⟨ai4 j hj, ?_, ?_, ?_⟩⟩
    · have h := ob4
      rw [hw2, hw1, e2] at h
      exact h
    · have h := ar4
      rw [hw1] at h
      exact h
    · have h := aq4
      rw [hw2] at h
      have hq : (fun j => H3.size + 1 + 1 + j) = fun j => s.heap.size + 7 + 2 + 1 + j := funext fun j => by omega
      rw [hq]
      exact h
    all_goals first
      | (have h9 := (dr4 j hj).2; (try dsimp only); omega)
      | ((try dsimp only); omega)
  refine lv_astore_n (lv' := [(2, .ref H2.size), (1, .ref s.heap.size), (0, .ref b)]) hx hb dL_law_15 rfl hl (by decide) rfl (fun ls hl => ?_)
  refine r_new (θ := θ) (ci := 8) (fs := [.long 0, .null]) (C := RX2) (T := TX2) (N := 2) hx hb htG gwX2 tyX2 tyX2_ok hown k680 k681 k7 hK hS rfl (fun j hj => by rcases (show j = 0 ∨ j = 1 by omega) with rfl | rfl <;> rfl) (Nat.le_of_ble_eq_true rfl) (Nat.le_of_ble_eq_true rfl) dL_law_16 (fun H5 h5 s5 q5 hS => ?_)
  have h5 : OB θ H5 H4.size 8 [.long (lL 0), .null] := h5
  refine lv_dup hx hb dL_law_19 rfl ?_
  have hz5 := hz.at hAJ hS
  have hj5 := hj.at hAJ hS
  refine c_INr (As := []) (rest := [.ref H4.size]) (r := none) (st1 := [.ref H4.size]) fx hl (jm_outInit θ l s H5 hz5 hj5 H4.size) dL_law_20 (va_Nw.of rfl (hts _ n682)) k683 k7 k684 rfl hd_X2_init rfl rfl ⟨Nat.le_of_ble_eq_true rfl, Nat.le_of_ble_eq_true rfl⟩ (Nat.le_of_ble_eq_true rfl) ⟨Nat.le_of_ble_eq_true rfl, Nat.le_of_ble_eq_true rfl⟩ hS (fun x hx => hx.elim) (fun H6 locs6 hp6 z6 q6 hS => ?_)
  obtain rfl := hp6.symm
  have cw5 := cw4.kept (H1 := H5) (fun i hi => q5 _ (cw4.lt i hi))
  have mw5 := mw4.kept (H1 := H5) q5
  have hLX : LX (fun i => s.heap.size + i) (fun i => s.heap.size + 7 + i) H4.size := ⟨fun i hi => by (try dsimp only); omega, ⟨fun i hi => by (try dsimp only); omega, by (try dsimp only); omega⟩, ⟨fun i hi => by (try dsimp only); omega, by (try dsimp only); omega⟩, ⟨fun i hi => by (try dsimp only); omega, by (try dsimp only); omega⟩⟩
  have hw : LWE θ s (fun i => s.heap.size + i) (fun i => s.heap.size + 7 + i) H4.size H5 := by
    refine ⟨r, fun j => H3.size + 1 + 1 + j, fun _ => 0, fun _ _ => 0, 0, 0, 0, 0, 0, .null, ⟨hz5, ⟨fun i j hi hj h => by (try dsimp only at h); omega, fun i hi => by (try dsimp only); omega⟩, cw5, fun j hj => by (try dsimp only); omega, fun j hj => (show (-20000 : Int) ≤ 0 ∧ (0 : Int) ≤ 20000 ∧ (-240000 : Int) ≤ 0 ∧ (0 : Int) ≤ 240000 ∧ (-100000 : Int) ≤ 0 ∧ (0 : Int) ≤ 100000 by decide)⟩, ⟨hz5, ⟨⟨by (try dsimp only); omega, by (try dsimp only); omega, by (try dsimp only); omega⟩, by (try dsimp only); omega, by (try dsimp only); omega, by (try dsimp only); omega⟩, mw5, fun j hj => by (try dsimp only); omega, fun j hj => (show (-20000 : Int) ≤ 0 ∧ (0 : Int) ≤ 20000 ∧ (-240000 : Int) ≤ 0 ∧ (0 : Int) ≤ 240000 ∧ (-100000 : Int) ≤ 0 ∧ (0 : Int) ≤ 100000 by decide)⟩, h5, fun j hj => ?_, fun j hj => ?_⟩
    · have g1 := (dr4 j hj).2
      have g2 := lr4 j hj
      exact ⟨fun i hi => by (try dsimp only); omega, by (try dsimp only); omega⟩
    · have g2 := lq4 j hj
      exact ⟨fun i hi => by (try dsimp only); omega, by (try dsimp only); omega⟩
  refine lv_astore_n (lv' := [(3, .ref H4.size), (2, .ref H2.size), (1, .ref s.heap.size), (0, .ref b)]) hx hb dL_law_23 rfl hl (by decide) rfl (fun ls hl => ?_)
  refine q_con hx hb dL_law_24 ?_
  refine lv_istore (lv' := [(4, .int (iI 0)), (3, .ref H4.size), (2, .ref H2.size), (1, .ref s.heap.size), (0, .ref b)]) hx hb dL_law_25 hl (by decide) rfl (fun ls hl => ?_)
  rw [e2] at hl
  refine law_loop (u := fun i => s.heap.size + i) (w := fun i => s.heap.size + 7 + i) (o := H4.size) fx hl0 hz hj hn hLX (by omega) hX hbl hbA hL ⟨Nat.le_of_ble_eq_true rfl, Nat.le_of_ble_eq_true rfl⟩ hw hS ⟨Nat.le_of_ble_eq_true rfl, Nat.le_of_ble_eq_true rfl⟩ ⟨Nat.le_of_ble_eq_true rfl, Nat.le_of_ble_eq_true rfl⟩ hl (fun H7 locs7 c7 s7 ls7 hS7 hc7 hs7 => ?_)
  refine q_con hx hb dL_law_2337 ?_
  refine va_forget (fun q hq => Nat.le_trans (Nat.le_of_eq hθ.symm) (hS7.2.2 q hq)) ?_
  refine W.widen (k := 709631) (n := 6967212) (by omega) (by omega) ?_
  exact lw_ret hx hb hr hlocks dL_law_2338
