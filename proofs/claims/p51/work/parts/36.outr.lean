section INR
variable {p : Program} {l : Launch} {e : Env} {R : Room} {s : State} {m : MethodId} {args : Array Value} {below : List Frame} {meth : Method} {c : Code} {H : Heap} {locs : List Loc} {cells slots : Nat} {Q : State → Prop} {cc : ByteArray} {pc : Nat} {ls : Array Slot} {rest : List Value} {θ : TH} {A0 A1 : Nat → Prop} {H0 : Heap} {S0 : State} {mc ms : Nat}
/-- a nest mate's private constructor -/
theorem c_INr {own host : String} {idx n nL F L b na : Nat} {y : MethodName} {cy : ByteArray} {As st1 : List Value} {r : Option Value} {P : Heap → Prop} {lv : List (Nat × Value)} (fx : FX p m c cc nL s args own S0) (hl : lv_has ls nL lv) (hM : CT l y cy n none F L mc ms (.ref b :: As) S0 H (fun v H1 => v = r ∧ P H1) (fun _ _ => False) A1) (d : decode cc pc = .ok (.invokespecial idx, 3)) (w1 : va_Nw (.methodLinkNest own idx y host) S0) (w2 : Cond.instanceMethod y ∈ wG) (w3 : Cond.initialized y.cls ∈ wG) (w4 : Cond.code y cy n none ∈ wG) (hy : y.name = "<init>") (hd : y.cls ≠ "java/lang/invoke/MethodHandle" ∧ y.cls ≠ "java/lang/invoke/VarHandle" ∧ (parseMethodDescriptor y.desc).map (fun d => d.parameters.length) = some na) (hn : As.length = na) (hst : r.toList ++ rest = st1)
    (hR : F + 1 ≤ R.frames ∧ 8 + (n + 11) + L ≤ R.locals) (hW : (rest.map fun v => v.category).sum ≤ 8) (hcs : cells + mc ≤ R.cells ∧ slots + ms ≤ R.slots) (hS : va_S A0 H0 H locs) (hf : ∀ q, A1 q → A0 q)
    (kk : ∀ (H1 : Heap) (locs1 : List Loc), P H1 → H.size ≤ H1.size → (∀ q : Nat, q < H.size → ¬ A1 q → H1[q]? = H[q]?) → va_S A0 H0 H1 locs1 → W p l e R s m args below meth c H1 locs1 (cells + mc) (slots + ms) Q (F0 m (pc + 3) ls st1)) : W p l e R s m args below meth c H locs cells slots Q (F0 m pc ls (As.reverse ++ .ref b :: rest)) := by
  subst hst
  obtain ⟨f1, f2⟩ := id fx
  exact c_goM (va_runIN (As := As) (rest := rest) f1 (ct_met hM) ⟨va_cnB na f1.2.2.2.2 (wg_in (wg_ws w4)) rfl rfl rfl (va_Nw.warmM f2 w1) (f1.2.2.2.2 _ w3) hd hR, hy, f1.2.2.2.2 _ w2⟩ ⟨ph_blind, fun U hU hW => ⟨rfl, hU, f2.trans hW⟩⟩ rfl hn hl.1 rfl (lv_room hW) d hcs) hS hf (fun v H1 locs1 hv hz hk hS1 => by obtain ⟨rfl, hp⟩ := hv; exact kk H1 locs1 hp hz hk hS1)
end INR
set_option maxHeartbeats 4000000 in
set_option maxRecDepth 100000 in
theorem jm_outInit (θ : TH) (l : Launch) (S0 : State) (H : Heap) (hz : SZ θ S0 H) (hj : SJ θ S0 H) (a : Nat) : CT l yX2_init cX2_init 1 none 1 20 0 0 [.ref a] S0 H (fun v9 H1 => v9 = none ∧ H1 = H) (fun _ _ => False) (fun _ : Nat => False) := by
  refine ct_of (by decide +kernel) (Nat.le_of_ble_eq_true rfl) ?_
  intro pg en s mi args below meth co ls fx hs hr hlk hxt hin hl
  subst hs
  obtain ⟨hx, hb, hml, hown, hts⟩ := id fx.1
  have hS : va_S (fun _ : Nat => False) s.heap s.heap [] := va_S.rf
  have hAB : ∀ x : Nat, (fun _ : Nat => False) x → θ.2.2.2 ≤ x := fun q h => h.elim
  have hz0 := hz
  have hj0 := hj
  have hK := sz_K fx.2 hz
  have hz2 := hz.2.1
  refine lv_aload_n hx hb dX2_init_0 rfl (lv_at hl 0 rfl) ?_
  refine r_oinit hx hb hml hl hts hown k685 k37 k38 dX2_init_1 (Nat.le_of_ble_eq_true rfl) (Nat.le_of_ble_eq_true rfl) ?_
  first | exact e_v hx hb hr hlk hS dX2_init_4 (by first | exact Nat.le_of_ble_eq_true rfl | ((try dsimp only); omega)) (by first | exact Nat.le_of_ble_eq_true rfl | ((try dsimp only); omega)) ⟨rfl, rfl⟩ | exact (show False by omega).elim
