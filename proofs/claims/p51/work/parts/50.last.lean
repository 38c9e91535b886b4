/-! the last part: the two makers of arrays of rows, over the whole library; the law's start; the claim -/
theorem vq_out (c : ClassId) (N h0 : Nat) (i : Nat) : Jvm.Free.Multi.outerC c N h0 i = arrV c N (fun j => if j < i then .ref (h0 + 1 + j) else .null) := by
  induction i with
  | zero =>
    show ({ cls := c, slots := Array.replicate N .null, vm := .none } : Cell) = _
    rw [arrV_new]
    exact arrV_ext fun j _ => (if_neg (Nat.not_lt_zero j)).symm
  | succ i ih =>
    show (Jvm.Free.Multi.outerC c N h0 i).setSlot i (.ref (h0 + 1 + i)) = _
    rw [ih, arrV_store]
    refine arrV_ext fun j _ => ?_
    unfold updV
    by_cases e : j = i
    · subst e
      rw [if_pos rfl, if_pos (Nat.lt_succ_self _)]
    · rw [if_neg e]
      show (if j < i then Value.ref (h0 + 1 + j) else Value.null) = _
      by_cases h : j < i
      · rw [if_pos h, if_pos (by omega)]
      · rw [if_neg h, if_neg (by omega)]
theorem an_A {θ : TH} {S0 : State} {H9 : Heap} (hz : SZ θ S0 H9) : AnA θ S0 := by
  intro p l e R s m args below meth c H locs cells slots Q cc pc ls rest A H0 own index hexec hb hts hW hown wc hS hcells hslots d kk
  have hK := sz_K hW hz
  have h6 : (iI 6).toNatClampNeg = 6 := by decide
  have hover : (Cond.arrayOver (.array .int)).before args s = true := Jvm.Stand.arrayOver_alikeB hW.alike hz.2.2.2.2.2.2.2.1
  intro T hT X
  obtain ⟨vm₁, cA, kA, comp, hwm, f1, f2, f3, f4, X', st⟩ := X.anewarrayArrK (ty := .int) hexec hown (hts _ wc) hover (g := F0 m pc ls (.int (iI 6) :: rest)) rfl (by rw [hb]; exact d) rfl (by decide) (by decide) hcells (by rw [h6]; exact hslots)
  rw [h6] at X' st
  have hc : cA = θ.2.1 3 := Option.some.inj (f1.symm.trans (hK.2 3 _ rfl).2)
  subst hc
  have hh : ((T.setVm vm₁).pushCell { cls := θ.2.1 3, slots := Array.replicate 6 .null, vm := .none }).heap = H.push ({ cls := θ.2.1 3, slots := Array.replicate 6 .null, vm := .none } : Cell) := by
    rw [← hT]
    rfl
  have o1 : ∀ q : Nat, q < H.size → (H.push ({ cls := θ.2.1 3, slots := Array.replicate 6 .null, vm := .none } : Cell))[q]? = H[q]? := fun q hq => by
    rw [Array.getElem?_push, if_neg (Nat.ne_of_lt hq)]
  have hq : AQ θ (H.push ({ cls := θ.2.1 3, slots := Array.replicate 6 .null, vm := .none } : Cell)) H.size 6 (fun _ => none) := by
    show _ = some (vp_cell _ _)
    rw [Array.getElem?_push_size, vp_cell_q, arrV_new]
    first | done | rfl
  have hz1 : (H.push ({ cls := θ.2.1 3, slots := Array.replicate 6 .null, vm := .none } : Cell)).size = H.size + 1 := Array.size_push ..
  obtain ⟨t, a1, b1⟩ := kk _ hq hz1 o1 ⟨by rw [hz1]; exact Nat.le_succ_of_le hS.1, fun x h1 h2 => (o1 x (Nat.lt_of_lt_of_le h1 hS.1)).trans (hS.2.1 x h1 h2), hS.2.2⟩ _ hh X'
  exact ⟨t, st t (by rw [hT]; exact a1), b1⟩
theorem mn_A {θ : TH} {S0 : State} {H9 : Heap} (hz : SZ θ S0 H9) : MnA θ S0 := by
  intro p l e R s m args below meth c H locs cells slots Q cc pc ls rest A H0 own index hexec hb hts hW hown wc wa hS hcells hslots d kk
  have hK := sz_K hW hz
  have h3 : (iI 3).toNatClampNeg = 3 := by decide
  have hover : (Cond.arrayOver (.array .int)).before args s = true := Jvm.Stand.arrayOver_alikeB hW.alike hz.2.2.2.2.2.2.2.1
  intro T hT X
  obtain ⟨vm₁, cA, comp, -, fA, fC, -, -, X', st⟩ := X.multianewarray2F (ty := .int) hexec hown (hts _ wc) hover (hts _ wa) (g := F0 m pc ls (.int (iI 3) :: .int (iI 3) :: rest)) rfl (by rw [hb]; exact d) rfl (by decide) (by decide) (by decide) (by decide) (by decide) rfl rfl (by rw [h3]; exact hcells) (by rw [h3]; exact hslots)
  rw [h3] at X' st
  have hc : cA = θ.2.1 3 := Option.some.inj (fA.symm.trans (hK.2 3 _ rfl).2)
  subst hc
  have hd : comp = θ.2.1 0 := Option.some.inj (fC.symm.trans (hK.2 0 _ rfl).2)
  subst hd
  have hTh : (T.setVm vm₁).heap = H := hT
  obtain ⟨g1, g2, -, -⟩ := Jvm.Free.Multi.fill_facts (T.setVm vm₁) (θ.2.1 3) (θ.2.1 0) 3 3 (defaultValue .int) 3
  have g3 := fun (x : Nat) (hx : x < (T.setVm vm₁).heap.size) => Jvm.Free.Multi.fill_old (T.setVm vm₁) (θ.2.1 3) (θ.2.1 0) 3 3 (defaultValue .int) (a := x) hx 3
  have g4 := Jvm.Free.Multi.fill_inner (T.setVm vm₁) (θ.2.1 3) (θ.2.1 0) 3 3 (defaultValue .int) 3
  generalize hF : Jvm.Free.Multi.fill (T.setVm vm₁) (θ.2.1 3) (θ.2.1 0) 3 3 (defaultValue .int) 3 = F at X' st g1 g2 g3 g4
  rw [hTh] at g1 g2 g3 g4
  have r1 : AR θ F.heap H.size 3 (fun j => H.size + 1 + j) := by
    show _ = some (vp_cell _ _)
    rw [g2, vq_out, vp_cell_q]
    refine congrArg some (arrV_ext fun j hj => ?_)
    rw [if_pos hj]
    first | done | rfl
  have r2 : ∀ j : Nat, j < 3 → AI θ F.heap (H.size + 1 + j) 3 (fun _ => 0) := fun j hj => by
    show _ = some (vp_cell _ _)
    rw [g4 j hj, vp_cell_i]
    refine congrArg some ?_
    show ({ cls := θ.2.1 0, slots := Array.replicate 3 (defaultValue .int), vm := .none } : Cell) = _
    rw [arrV_new]
    first | done | rfl
  have z1 : F.heap.size = H.size + 4 := by omega
  obtain ⟨t, a1, b1⟩ := kk F.heap r1 r2 z1 g3 ⟨by rw [z1]; exact Nat.le_trans hS.1 (Nat.le_add_right _ _), fun x h1 h2 => (g3 x (Nat.lt_of_lt_of_le h1 hS.1)).trans (hS.2.1 x h1 h2), hS.2.2⟩ F rfl X'
  exact ⟨t, st t (by rw [hT]; exact a1), b1⟩
/-- YOUR PART: from the entry, for every script of at most 2560 ints, the law comes to its end with true ('hflags': the launch's flags, for a law that throws: no stack traces) -/
theorem whole_start {p : Program} {e : Env} {s : State} {m : MethodId} {below : List Frame} {meth : Method} {c : Code} (l : Launch) (hflags : l.flags = flags0) {b L : Nat} {xs : Nat → Int32} (hL : L ≤ 2560) (C0 : lw_At p s m meth c b L xs) : W p l e room_1 s m #[Value.ref b] below meth c s.heap [] 0 0 (lw_Z below #[Value.ref b] s) (entryFrame m ([Value.ref b] : List Value).toArray 7) := by
  exact ws_start l hflags (fun θ S0 H9 h => an_A h) (fun θ S0 H9 h => mn_A h) hL C0
-- ===== YOUR PART ENDS =====
set_option maxHeartbeats 4000000 in
theorem lw_walk (l : Launch) (hflags : l.flags = flags0) (b : Addr) (xs : List Int32) : MetFree l x (headSpec (Jvm.Cond.code x code maxLocals ret :: tables_1) room_1) (lw_P b xs) (fun _ _ _ _ _ => True) lw_Q := by
  refine MetFree.of_bodyS (code := code) (maxLocals := maxLocals) (ret := ret) (by decide) ?_ ?_
  · intro args s m h hn
    obtain ⟨meth, c, h1, h2, h3, h4, h5, h6, -, -⟩ := Cond.code_spec hn (atoms_spec (ws := Jvm.Cond.code x code maxLocals ret :: tables_1) h _ List.mem_cons_self)
    exact ⟨meth, c, h1, h2, h3, h4, h5, h6⟩
  · intro p e s m args below meth c s₁ B hml0 hP _
    obtain ⟨rfl, hx, hbd, hgv⟩ := hP
    obtain ⟨scr, harrAt, hlist, hof, hsmall⟩ := hx
    obtain ⟨hcb, hkn, -, -⟩ := State.arrayAt?_spec harrAt
    have hown : s.vm.findClass R_law = some m.cls := findClass_of_methodNamed B.named
    have hts0 : ∀ c ∈ (Jvm.Cond.code x code maxLocals ret :: tables_1), c.before #[Value.ref b] s = true := atoms_spec (ws := Jvm.Cond.code x code maxLocals ret :: tables_1) B.pre
    have hts : ∀ w ∈ lw_tbl, w.before #[Value.ref b] s = true := k2_hts_sels lw_privs (fun w hw => hts0 w (List.mem_cons_of_mem _ hw)) lw_privs_ok
    have hml : c.maxLocals = 7 := B.maxLocals_eq (hts0 _ List.mem_cons_self)
    have X₀ : Stand p l e room_1 s m #[Value.ref b] below meth c s₁ [] 0 0 := Stand.of_body B
    have hh0 : s₁.heap = s.heap := by rw [B.state]; rfl
    have hsz : scr.slots.size = xs.length := by rw [← Array.length_toList, hlist, List.length_map]
    have hval : ∀ j : Nat, j < xs.length → scr.slots[j]? = some (.int (xs.getD j 0)) := fun j hj => by
      rw [← Array.getElem?_toList, hlist]
      simp [hj]
    have hbl : b < s.heap.size := (Array.getElem?_eq_some_iff.mp hcb).1
    have hX : va_X b xs.length (fun j => xs.getD j 0) s s.heap := ⟨scr, hcb, hof, hkn, hsz, hval⟩
    have K : W p l e room_1 s m #[Value.ref b] below meth c s₁.heap [] 0 0 (lw_Z below #[Value.ref b] s) (entryFrame m ([Value.ref b] : List Value).toArray 7) := by
      rw [hh0]
      exact whole_start l hflags hbd ⟨B.exec, B.bytes, B.returns, hml, hown, hts, hX, hbl, B.notSynchronized, hgv⟩
    obtain ⟨t, a1, o, b1, b2, b3⟩ := K s₁ rfl X₀
    exact ⟨t, o, a1, b1, b2, b3⟩
theorem lw_pre_spec {args : Array Value} {s : State} (h : (Jvm.Cond.and given_1 narrow_1).before args s = true) (hr : rest_1_c.before args s = true) : ∃ (b : Addr) (xs : List Int32), lw_P b xs args s := by
  have hs := flat_of_before _ h
  have hq := flat_of_before _ hr
  have hc : (Cond.count 1).before args s = true := hs _ (by decide +kernel)
  have harr : (Cond.arrayOf (.arg 0) .int).before args s = true := hs _ (by decide +kernel)
  have hle : (Cond.le (.length (.arg 0)) (.int 2560)).before args s = true := hs _ (by decide +kernel)
  have hlen : (Cond.isInt (.length (.arg 0))).before args s = true := hq _ (by decide +kernel)
  have hall : (Cond.all (.arg 0) (.isInt (.elem (.arg 0) (.index 0)))).before args s = true := hq _ (by decide +kernel)
  obtain ⟨b, xs, hb, hx⟩ := State.ints_of_pre rfl harr hlen hall
  have hsm : xs.length < 2 ^ 31 := hx.choose_spec.2.2.2
  have hev : (Term.length (.arg 0)).eval args s none [] s = some (.int xs.length.toInt32) := hx.length_eval hb
  have hv := Cond.le_ints hev (show (Term.int 2560).eval args s none [] s = some (.int 2560) from rfl)
  have hd : xs.length.toInt32 ≤ 2560 := by
    simpa [Cond.before, Cond.holds, hv] using hle
  have hN : xs.length ≤ 2560 := (Int32.ofNat_le_ofNat hsm (by decide)).mp (show Int32.ofNat xs.length ≤ Int32.ofNat 2560 from hd)
  exact ⟨b, xs, Cond.one_arg hc (show args[0]? = some (.ref b) from hb), hx, hN, h⟩
theorem lw_comes (l : Launch) (hflags : l.flags = flags0) : Comes l x (Jvm.Cond.code x code maxLocals ret :: tables_1) room_1 (fun tb e args s => Calls_1 tb e args s ∧ rest_1 tb e args s ∧ Pre_1 tb e args s)
    (fun _ _ args s o t => lw_Q args s o t) := by
  intro p e ha hc hk s m args below hf hfit hheap happ hpre
  obtain ⟨b, xs, hP⟩ := lw_pre_spec hpre.2.2 hpre.2.1
  obtain ⟨k, o, h1, h2, h3, hQ⟩ := lw_walk l hflags b xs p e ha hc hk s m args below hf ((Spec.applies_iff_loose hf).mp happ).1 hP trivial
  exact ⟨k, o, h1, h2, h3, hQ⟩
theorem lw_frame {s t : State} {o : Outcome} {args : Array Value} (h : Framed s o t [] 709631 6967212) :
    Framed s o t (fieldLocs frame_1_writes args s ++ arrayLocs frame_1_arrays args s ++ staticLocs frame_1_statics s) 709631 6967212 := h
theorem lw_limb (L : Cond) (hL : ∀ (args : Array Value) (s t : State), L.after args s (.returned (some (.int 1))) t = true) :
    ArmFor flags0 classFile x code maxLocals ret World_1 tables_1 room_1 Calls_1 rest_1 Pre_1
      (fun tb e a s o t => postC L tb e a s o t ∧ Framed s o t (fieldLocs frame_1_writes a s ++ arrayLocs frame_1_arrays a s ++ staticLocs frame_1_statics s) 709631 6967212) := by
  intro l hflags _ _ p e ha hc hk s m args below hf hfit hheap happ hpre
  obtain ⟨k, o, h1, h2, h3, rfl, hF⟩ := lw_comes l hflags p e ha hc hk s m args below hf hfit hheap happ hpre
  exact ⟨k, _, h1, h2, h3, hL args s _, lw_frame hF⟩
theorem i_vc : Claimed_1_1 ∧ Claimed_1_2 := ⟨lw_limb limb_1_1 (fun args s t => by simp [limb_1_1, Cond.after, Cond.holds, Cond.value]), lw_limb limb_1_2 (fun args s t => Cond.after_iff.mpr (by
  first | (rw [show limb_1_2 = Cond.eq .result (.int 1) from rfl, Cond.eq_ints (x := 1) (y := 1) rfl rfl]; simp; done) | (simp [limb_1_2, Cond.value, Term.eval]; done)))⟩
