/-! decode rows of a long code, read in windows of it -/
/-- a decode row, as a test -/
def dd (c : ByteArray) (pc : Nat) (v : Instr × Nat) : Bool := decide (decode c pc = .ok v)
theorem dd_t {c : ByteArray} {pc : Nat} {v : Instr × Nat} (h : dd c pc v = true) : decode c pc = .ok v := of_decide_eq_true h
theorem ba_1 {a b : Bool} (h : (a && b) = true) : a = true := by
  cases a with
  | false => exact Bool.noConfusion (show false = true from h)
  | true => rfl
theorem ba_2 {a b : Bool} (h : (a && b) = true) : b = true := by
  cases a with
  | false => exact Bool.noConfusion (show false = true from h)
  | true => exact h
def wpre : List UInt8 → List UInt8 → Bool
  | [], _ => true
  | a :: l', b :: l => decide (a = b) && wpre l' l
  | _ :: _, [] => false
theorem wpre_s : ∀ (l' l : List UInt8), wpre l' l = true → ∀ (p : Nat) (b : UInt8), l'[p]? = some b → l[p]? = some b
  | [], _, _, p, b, h => by
    rw [show ([] : List UInt8)[p]? = none by simp] at h
    cases h
  | a :: l', d :: l, h, 0, b, hb => by
    have e : a = d := of_decide_eq_true (ba_1 h)
    rw [← e]
    exact hb
  | a :: l', d :: l, h, p + 1, b, hb => wpre_s l' l (ba_2 h) p b hb
  | a :: l', [], h, _, _, _ => Bool.noConfusion (show false = true from h)
def wdr : Nat → List UInt8 → List UInt8
  | 0, l => l
  | _ + 1, [] => []
  | k + 1, _ :: l => wdr k l
theorem wdr_s : ∀ (k : Nat) (l : List UInt8) (p : Nat), l[k + p]? = (wdr k l)[p]?
  | 0, l, p => by
    rw [Nat.zero_add]
    rfl
  | k + 1, [], p => by
    show ([] : List UInt8)[k + 1 + p]? = ([] : List UInt8)[p]?
    simp
  | k + 1, a :: l, p => by
    rw [show k + 1 + p = (k + p) + 1 by omega]
    exact wdr_s k l p
/-- c' is a window of c, from k on -/
def WN (c c' : ByteArray) (k : Nat) : Prop := ∀ (p : Nat) (b : UInt8), c'.data.toList[p]? = some b → c.data.toList[k + p]? = some b
theorem wn_of {c c' : ByteArray} {k : Nat} (h : wpre c'.data.toList (wdr k c.data.toList) = true) : WN c c' k := fun p b hb => by
  rw [wdr_s k]
  exact wpre_s _ _ h p b hb
def RW (c c' : ByteArray) (k : Nat) {α : Type} (x y : Jvm.ClassFile.Decoder α) : Prop := ∀ (p : Nat) (a : α) (q : Nat), x c' p = .ok (a, q) → y c (k + p) = .ok (a, k + q)
theorem rw_pure {c c' : ByteArray} {k : Nat} {α : Type} (z : α) : RW c c' k (pure z) (pure z) := fun p a q h => by
  have h2 : (Except.ok (z, p) : Except Jvm.ClassFile.DecodeError (α × Nat)) = .ok (a, q) := h
  cases h2
  rfl
theorem rw_bind {c c' : ByteArray} {k : Nat} {α β : Type} {x y : Jvm.ClassFile.Decoder α} {f g : α → Jvm.ClassFile.Decoder β} (hx : RW c c' k x y) (hf : ∀ a, RW c c' k (f a) (g a)) : RW c c' k (x >>= f) (y >>= g) := fun p b r h => by
  have h2 : (x c' p >>= fun z => f z.1 c' z.2) = .ok (b, r) := h
  show (y c (k + p) >>= fun z => g z.1 c z.2) = .ok (b, k + r)
  cases e : x c' p with
  | error w =>
    rw [e] at h2
    cases h2
  | ok z =>
    obtain ⟨a, q⟩ := z
    rw [e] at h2
    rw [hx p a q e]
    exact hf a q b r h2
theorem rw_map {c c' : ByteArray} {k : Nat} {α β : Type} {x y : Jvm.ClassFile.Decoder α} (f : α → β) (hx : RW c c' k x y) : RW c c' k (f <$> x) (f <$> y) := fun p b r h => by
  have h2 : (x c' p >>= fun z => (pure (f z.1, z.2) : Except Jvm.ClassFile.DecodeError (β × Nat))) = .ok (b, r) := h
  show (y c (k + p) >>= fun z => (pure (f z.1, z.2) : Except Jvm.ClassFile.DecodeError (β × Nat))) = .ok (b, k + r)
  cases e : x c' p with
  | error w =>
    rw [e] at h2
    cases h2
  | ok z =>
    obtain ⟨a, q⟩ := z
    rw [e] at h2
    rw [hx p a q e]
    have h3 : (Except.ok (f a, q) : Except Jvm.ClassFile.DecodeError (β × Nat)) = .ok (b, r) := h2
    cases h3
    rfl
theorem u1_at {c : ByteArray} {p : Nat} {b : UInt8} (h : c.data.toList[p]? = some b) : (Jvm.ClassFile.Reader.u1 : Jvm.ClassFile.Decoder Nat) c p = .ok (b.toNat, p + 1) := by
  obtain ⟨h2, e⟩ := List.getElem?_eq_some_iff.mp h
  have h3 : p < c.size := h2
  have h4 : c[p] = b := e
  rw [← h4]
  show (if h : p < c.size then (do set (p + 1); pure (c[p]'h).toNat : Jvm.ClassFile.Decoder Nat) else throw (Jvm.ClassFile.HasTruncated.truncated p)) c p = _
  rw [dif_pos h3]
  rfl
theorem u1_inv {c : ByteArray} {p a q : Nat} (h : (Jvm.ClassFile.Reader.u1 : Jvm.ClassFile.Decoder Nat) c p = .ok (a, q)) : ∃ b : UInt8, c.data.toList[p]? = some b ∧ a = b.toNat ∧ q = p + 1 := by
  by_cases hp : p < c.size
  · have h1 : c.data.toList[p]? = some (c[p]'hp) := List.getElem?_eq_getElem (l := c.data.toList) hp
    rw [u1_at h1] at h
    cases h
    exact ⟨_, h1, rfl, rfl⟩
  · have h2 : (if h : p < c.size then (do set (p + 1); pure (c[p]'h).toNat : Jvm.ClassFile.Decoder Nat) else throw (Jvm.ClassFile.HasTruncated.truncated p)) c p = .ok (a, q) := h
    rw [dif_neg hp] at h2
    have h3 : (Except.error (Jvm.ClassFile.HasTruncated.truncated p) : Except Jvm.ClassFile.DecodeError (Nat × Nat)) = .ok (a, q) := h2
    cases h3
theorem rw_u1 {c c' : ByteArray} {k : Nat} (hW : WN c c' k) : RW c c' k (Jvm.ClassFile.Reader.u1 : Jvm.ClassFile.Decoder Nat) Jvm.ClassFile.Reader.u1 := fun p a q h => by
  obtain ⟨b, h1, rfl, rfl⟩ := u1_inv h
  exact u1_at (hW p b h1)
theorem rw_u2 {c c' : ByteArray} {k : Nat} (hW : WN c c' k) : RW c c' k (Jvm.ClassFile.Reader.u2 : Jvm.ClassFile.Decoder Nat) Jvm.ClassFile.Reader.u2 := rw_bind (rw_u1 hW) fun _ => rw_bind (rw_u1 hW) fun _ => rw_pure _
theorem rw_s1 {c c' : ByteArray} {k : Nat} (hW : WN c c' k) : RW c c' k (Jvm.ClassFile.Reader.s1 : Jvm.ClassFile.Decoder Int) Jvm.ClassFile.Reader.s1 := rw_map _ (rw_u1 hW)
theorem rw_s2 {c c' : ByteArray} {k : Nat} (hW : WN c c' k) : RW c c' k (Jvm.ClassFile.Reader.s2 : Jvm.ClassFile.Decoder Int) Jvm.ClassFile.Reader.s2 := rw_map _ (rw_u2 hW)
theorem rw_b1 {c c' : ByteArray} {k : Nat} (hW : WN c c' k) {opl : List Nat} {α : Type} {f g : Nat → Jvm.ClassFile.Decoder α} (hf : ∀ n, n ∈ opl → RW c c' k (f n) (g n)) {p : Nat} {b : UInt8} (hb : c'.data.toList[p]? = some b) (ho : b.toNat ∈ opl) {a : α} {q : Nat} (h : ((Jvm.ClassFile.Reader.u1 : Jvm.ClassFile.Decoder Nat) >>= f) c' p = .ok (a, q)) : ((Jvm.ClassFile.Reader.u1 : Jvm.ClassFile.Decoder Nat) >>= g) c (k + p) = .ok (a, k + q) := by
  have h2 : ((Jvm.ClassFile.Reader.u1 : Jvm.ClassFile.Decoder Nat) c' p >>= fun z => f z.1 c' z.2) = .ok (a, q) := h
  show ((Jvm.ClassFile.Reader.u1 : Jvm.ClassFile.Decoder Nat) c (k + p) >>= fun z => g z.1 c z.2) = .ok (a, k + q)
  rw [u1_at hb] at h2
  rw [u1_at (hW p b hb)]
  exact hf b.toNat ho (p + 1) a q h2
def opl : List Nat := [3, 4, 5, 6, 7, 8, 16, 21, 42, 43, 44, 45, 46, 54, 58, 76, 77, 78, 87, 88, 89, 96, 100, 126, 132, 153, 159, 163, 167, 172, 182, 183, 184, 187, 190]
theorem rw_ops {c c' : ByteArray} {k : Nat} (hW : WN c c' k) (pc pc' : Nat) {p : Nat} {b : UInt8} (hb : c'.data.toList[p]? = some b) (ho : b.toNat ∈ opl) {a : Instr} {q : Nat} (h : Jvm.ClassFile.Decoder.instr pc c' p = .ok (a, q)) : Jvm.ClassFile.Decoder.instr pc' c (k + p) = .ok (a, k + q) := by
  unfold Jvm.ClassFile.Decoder.instr at h ⊢
  refine rw_b1 hW (opl := opl) (fun n hn => ?_) hb ho h
  have hn : n ∈ ([3, 4, 5, 6, 7, 8, 16, 21, 42, 43, 44, 45, 46, 54, 58, 76, 77, 78, 87, 88, 89, 96, 100, 126, 132, 153, 159, 163, 167, 172, 182, 183, 184, 187, 190] : List Nat) := hn
  rcases List.mem_cons.mp hn with rfl | hn
  · exact rw_pure _
  rcases List.mem_cons.mp hn with rfl | hn
  · exact rw_pure _
  rcases List.mem_cons.mp hn with rfl | hn
  · exact rw_pure _
  rcases List.mem_cons.mp hn with rfl | hn
  · exact rw_pure _
  rcases List.mem_cons.mp hn with rfl | hn
  · exact rw_pure _
  rcases List.mem_cons.mp hn with rfl | hn
  · exact rw_pure _
  rcases List.mem_cons.mp hn with rfl | hn
  · exact rw_bind (rw_s1 hW) (fun _ => rw_pure _)
  rcases List.mem_cons.mp hn with rfl | hn
  · exact rw_bind (rw_u1 hW) (fun _ => rw_pure _)
  rcases List.mem_cons.mp hn with rfl | hn
  · exact rw_pure _
  rcases List.mem_cons.mp hn with rfl | hn
  · exact rw_pure _
  rcases List.mem_cons.mp hn with rfl | hn
  · exact rw_pure _
  rcases List.mem_cons.mp hn with rfl | hn
  · exact rw_pure _
  rcases List.mem_cons.mp hn with rfl | hn
  · exact rw_pure _
  rcases List.mem_cons.mp hn with rfl | hn
  · exact rw_bind (rw_u1 hW) (fun _ => rw_pure _)
  rcases List.mem_cons.mp hn with rfl | hn
  · exact rw_bind (rw_u1 hW) (fun _ => rw_pure _)
  rcases List.mem_cons.mp hn with rfl | hn
  · exact rw_pure _
  rcases List.mem_cons.mp hn with rfl | hn
  · exact rw_pure _
  rcases List.mem_cons.mp hn with rfl | hn
  · exact rw_pure _
  rcases List.mem_cons.mp hn with rfl | hn
  · exact rw_pure _
  rcases List.mem_cons.mp hn with rfl | hn
  · exact rw_pure _
  rcases List.mem_cons.mp hn with rfl | hn
  · exact rw_pure _
  rcases List.mem_cons.mp hn with rfl | hn
  · exact rw_pure _
  rcases List.mem_cons.mp hn with rfl | hn
  · exact rw_pure _
  rcases List.mem_cons.mp hn with rfl | hn
  · exact rw_pure _
  rcases List.mem_cons.mp hn with rfl | hn
  · exact rw_bind (rw_u1 hW) (fun _ => rw_bind (rw_s1 hW) (fun _ => rw_pure _))
  rcases List.mem_cons.mp hn with rfl | hn
  · exact rw_bind (rw_s2 hW) (fun _ => rw_pure _)
  rcases List.mem_cons.mp hn with rfl | hn
  · exact rw_bind (rw_s2 hW) (fun _ => rw_pure _)
  rcases List.mem_cons.mp hn with rfl | hn
  · exact rw_bind (rw_s2 hW) (fun _ => rw_pure _)
  rcases List.mem_cons.mp hn with rfl | hn
  · exact rw_bind (rw_s2 hW) (fun _ => rw_pure _)
  rcases List.mem_cons.mp hn with rfl | hn
  · exact rw_pure _
  rcases List.mem_cons.mp hn with rfl | hn
  · exact rw_bind (rw_u2 hW) (fun _ => rw_pure _)
  rcases List.mem_cons.mp hn with rfl | hn
  · exact rw_bind (rw_u2 hW) (fun _ => rw_pure _)
  rcases List.mem_cons.mp hn with rfl | hn
  · exact rw_bind (rw_u2 hW) (fun _ => rw_pure _)
  rcases List.mem_cons.mp hn with rfl | hn
  · exact rw_bind (rw_u2 hW) (fun _ => rw_pure _)
  rcases List.mem_cons.mp hn with rfl | hn
  · exact rw_pure _
  exact absurd hn List.not_mem_nil
def opk (c : ByteArray) (p : Nat) : Bool := match c.data.toList[p]? with
  | some b => decide (b.toNat ∈ opl)
  | none => false
theorem opk_s {c : ByteArray} {p : Nat} (h : opk c p = true) : ∃ b : UInt8, c.data.toList[p]? = some b ∧ b.toNat ∈ opl := by
  unfold opk at h
  cases e : c.data.toList[p]? with
  | none =>
    rw [e] at h
    exact Bool.noConfusion (show false = true from h)
  | some b =>
    rw [e] at h
    exact ⟨b, rfl, of_decide_eq_true h⟩
def tw (c : ByteArray) (p : Nat) (v : Instr × Nat) : Bool := opk c p && dd c p v
theorem tw_t {c c' : ByteArray} {k p : Nat} {v : Instr × Nat} (hW : WN c c' k) (h : tw c' p v = true) : decode c (k + p) = .ok v := by
  have h2 : decode c' p = .ok v := dd_t (ba_2 h)
  obtain ⟨b, hb, ho⟩ := opk_s (ba_1 h)
  have h3 : (Jvm.ClassFile.Decoder.instr p c' p >>= fun z => (pure (z.1, z.2 - p) : Except Jvm.ClassFile.DecodeError (Instr × Nat))) = .ok v := h2
  show (Jvm.ClassFile.Decoder.instr (k + p) c (k + p) >>= fun z => (pure (z.1, z.2 - (k + p)) : Except Jvm.ClassFile.DecodeError (Instr × Nat))) = .ok v
  cases e : Jvm.ClassFile.Decoder.instr p c' p with
  | error w =>
    rw [e] at h3
    cases h3
  | ok z =>
    obtain ⟨i, q⟩ := z
    rw [e] at h3
    rw [rw_ops hW p (k + p) hb ho e]
    have h4 : (Except.ok (i, q - p) : Except Jvm.ClassFile.DecodeError (Instr × Nat)) = .ok v := h3
    rw [← h4]
    show (Except.ok (i, k + q - (k + p)) : Except Jvm.ClassFile.DecodeError (Instr × Nat)) = .ok (i, q - p)
    rw [Nat.add_sub_add_left]
