/-! A row an instruction: the machine at pc, with the pure heap h, locals lv, stack st -/
def ztys (G : Nat → ClassId) : List (ClassId × FieldType) := [(G 20, .int), (G 21, .boolean), (G 22, .long), (G 23, .object R_TE), (G 24, .object R_AC), (G 25, .object R_BU), (G 26, .object R_CE), (G 27, .array .int)]
/-- what throws need of a state: the texts, two statics -/
def zSt (b : Nat) (C n d : String) (U : State) : Prop := ∃ (c : ClassId) (k : Class) (i : Nat) (f : Field) (a : Nat) (cell : Cell) (v : Value), U.vm.findClass C = some c ∧ U.fieldFound? C n d = some (c, k, i, f) ∧ f.isStatic = true ∧ k.statics = some a ∧ U.heap[a]? = some cell ∧ cell.vm.isStatics = true ∧ cell.cls = c ∧ f.slot < cell.slots.size ∧ k.staticTypes[f.slot]? = some f.type ∧ cell.slots[f.slot]? = some v ∧ v.isRef = true ∧ a < b
theorem zSt.go {b : Nat} {C n d : String} {u U : State} (hvm : u.vm.Alike U.vm) (hh : ∀ q : Nat, q < u.heap.size → q < b → U.heap[q]? = u.heap[q]?) (h : zSt b C n d u) : zSt b C n d U := by
  obtain ⟨c, k, i, f, a, cell, v, h1, h2, h3, h4, h5, h6, h7, h8, h9, h10, h11, h12⟩ := h
  obtain ⟨k', hi', he⟩ := State.fieldFound?_setVm hvm h2
  exact ⟨c, k', i, f, a, cell, v, by rw [hvm.findClass]; exact h1, hi', h3, by rw [he]; exact h4, by rw [hh a (Array.getElem?_eq_some_iff.mp h5).1 h12]; exact h5, h6, h7, h8, by rw [he]; exact h9, h10, h11, h12⟩
def zEx (b : Nat) (U : State) : Prop := (∀ q ∈ zstrL, ∃ a, vk_R R_SU q.1 q.2 a U) ∧ zSt b "java/lang/Throwable" "UNASSIGNED_STACK" "[Ljava/lang/StackTraceElement;" U ∧ zSt b "java/lang/Throwable" "SUPPRESSED_SENTINEL" "Ljava/util/List;" U ∧ va_Nc (zxn 0) (zxn 1) U ∧ va_Nc (zxn 1) (zxn 0) U
/-- a method's handlers -/
def zHn (μ : Nat) (c : Code) : Prop := c.exceptionTable.toList.map (fun h => (h.startPc, h.endPc, h.handlerPc, h.catchType)) = zhh μ
def zX (p : Program) (R : Room) (s : State) (m : MethodId) (args : Array Value) (meth : Method) (c : Code) (μ b sa : Nat) (D : va_G) (G : Nat → ClassId) (sc : zC) : Prop :=
  p.tables.exec = Jvm.exec ∧ c.code = zby μ ∧ c.maxLocals = zmax μ ∧ s.vm.findClass (zcn (zown μ)) = some m.cls ∧ (∀ w ∈ gW, w.before args s = true) ∧ va_K D z_cl (ztys G) s ∧
  (∀ L xs, sc = some (L, xs) → va_X sa L xs s s.heap) ∧ sa < s.heap.size ∧ (zini μ = true → meth.name = "<init>") ∧ (meth.locks = false ∧ R.frames = zfr μ ∧ R.locals = zlw μ ∧ meth.sig.returnType = zrT μ ∧ zEx b s ∧ zHn μ c) ∧ ∀ w ∈ nW, w.before #[] s = true
/-- since the entry only cells from b on were written; and none, while cl -/
def zSl (b : Nat) (s : State) (cl : Bool) (H : Heap) (locs : List Loc) : Prop := va_S (fun q => b ≤ q) s.heap H locs ∧ (cl = true → H = s.heap ∧ locs = [])
def zq (p : Program) (l : Launch) (e : Env) (R : Room) (s : State) (m : MethodId) (args : Array Value) (below : List Frame) (meth : Method) (c : Code) (b sa : Nat) (D : va_G) (G : Nat → ClassId) (n0 s0 μ : Nat) (Q : State → Prop) (cl : Bool) (h : zS) (pc : Nat) (lv : zL) (st : List zV) : Prop :=
  ∀ (H : Heap) (locs : List Loc) (ls : Array Slot), zP b sa D G h H → zSl b s cl H locs → zlo b sa h.1 ls (zmax μ) lv → zst h.1 st → W p l e R s m args below meth c H locs (h.1 - n0) (h.2.1 - s0) Q (F0 m pc ls (st.map (zvl b sa)))
section ROWS
variable {p : Program} {l : Launch} {e : Env} {R : Room} {s : State} {m : MethodId} {args : Array Value} {below : List Frame} {meth : Method} {c : Code} {Q : State → Prop}
variable {b sa : Nat} {D : va_G} {G : Nat → ClassId} {sc : zC} {n0 s0 μ : Nat} {cl : Bool} {h : zS} {pc : Nat} {lv : zL} {st : List zV}
theorem z_iconst (X : zX p R s m args meth c μ b sa D G sc) {n : Int} (d : decode (zby μ) pc = .ok (.iconst n, 1)) (k : zq p l e R s m args below meth c b sa D G n0 s0 μ Q cl h (pc + 1) lv (.inl (zK n) :: st)) : zq p l e R s m args below meth c b sa D G n0 s0 μ Q cl h (pc) lv (st) :=
  fun H locs ls h1 h2 h3 h4 => lv_iconst X.1 X.2.1 d (zK_eq n).symm (k H locs ls h1 h2 h3 (zst_i h4))
theorem z_bipush (X : zX p R s m args meth c μ b sa D G sc) {n : Int} (hn : (Int8.ofInt n).toInt32 = Int32.ofInt n) (d : decode (zby μ) pc = .ok (.bipush n, 2)) (k : zq p l e R s m args below meth c b sa D G n0 s0 μ Q cl h (pc + 2) lv (.inl (zK n) :: st)) : zq p l e R s m args below meth c b sa D G n0 s0 μ Q cl h (pc) lv (st) :=
  fun H locs ls h1 h2 h3 h4 => lv_bipush X.1 X.2.1 d (hn.trans (zK_eq n).symm) (k H locs ls h1 h2 h3 (zst_i h4))
theorem z_sipush (X : zX p R s m args meth c μ b sa D G sc) {n : Int} (hn : (Int16.ofInt n).toInt32 = Int32.ofInt n) (d : decode (zby μ) pc = .ok (.sipush n, 3)) (k : zq p l e R s m args below meth c b sa D G n0 s0 μ Q cl h (pc + 3) lv (.inl (zK n) :: st)) : zq p l e R s m args below meth c b sa D G n0 s0 μ Q cl h (pc) lv (st) :=
  fun H locs ls h1 h2 h3 h4 => lv_sipush X.1 X.2.1 d (hn.trans (zK_eq n).symm) (k H locs ls h1 h2 h3 (zst_i h4))
theorem z_lconst (X : zX p R s m args meth c μ b sa D G sc) {n : Fin 2} (d : decode (zby μ) pc = .ok (.lconst n, 1)) (k : zq p l e R s m args below meth c b sa D G n0 s0 μ Q cl h (pc + 1) lv (.inr (.inr (Int64.ofNat n.val)) :: st)) : zq p l e R s m args below meth c b sa D G n0 s0 μ Q cl h (pc) lv (st) :=
  fun H locs ls h1 h2 h3 h4 => lv_lconst X.1 X.2.1 d rfl (k H locs ls h1 h2 h3 (zst_l h4))
theorem z_iload (X : zX p R s m args meth c μ b sa D G sc) {j : Nat} {x : Int32} (hv : zget lv j = some (.inl x)) (d : decode (zby μ) pc = .ok (.iload j, 2)) (k : zq p l e R s m args below meth c b sa D G n0 s0 μ Q cl h (pc + 2) lv (.inl x :: st)) : zq p l e R s m args below meth c b sa D G n0 s0 μ Q cl h (pc) lv (st) :=
  fun H locs ls h1 h2 h3 h4 => lv_iload X.1 X.2.1 d (h3.2.2 j _ hv).1 (k H locs ls h1 h2 h3 (zst_i h4))
theorem z_iload_n (X : zX p R s m args meth c μ b sa D G sc) {j : Fin 4} {x : Int32} (hv : zget lv j.val = some (.inl x)) (d : decode (zby μ) pc = .ok (.iload_n j, 1)) (k : zq p l e R s m args below meth c b sa D G n0 s0 μ Q cl h (pc + 1) lv (.inl x :: st)) : zq p l e R s m args below meth c b sa D G n0 s0 μ Q cl h (pc) lv (st) :=
  fun H locs ls h1 h2 h3 h4 => lv_iload_n X.1 X.2.1 d rfl (h3.2.2 j.val _ hv).1 (k H locs ls h1 h2 h3 (zst_i h4))
theorem z_aload (X : zX p R s m args meth c μ b sa D G sc) {j : Nat} {x : zA} (hv : zget lv j = some (.inr (.inl x))) (d : decode (zby μ) pc = .ok (.aload j, 2)) (k : zq p l e R s m args below meth c b sa D G n0 s0 μ Q cl h (pc + 2) lv (.inr (.inl x) :: st)) : zq p l e R s m args below meth c b sa D G n0 s0 μ Q cl h (pc) lv (st) :=
  fun H locs ls h1 h2 h3 h4 => lv_aload X.1 X.2.1 d (h3.2.2 j _ hv).1 (k H locs ls h1 h2 h3 (zst_c (h3.2.2 j _ hv).2.2 h4))
theorem z_aload_n (X : zX p R s m args meth c μ b sa D G sc) {j : Fin 4} {x : zA} (hv : zget lv j.val = some (.inr (.inl x))) (d : decode (zby μ) pc = .ok (.aload_n j, 1)) (k : zq p l e R s m args below meth c b sa D G n0 s0 μ Q cl h (pc + 1) lv (.inr (.inl x) :: st)) : zq p l e R s m args below meth c b sa D G n0 s0 μ Q cl h (pc) lv (st) :=
  fun H locs ls h1 h2 h3 h4 => lv_aload_n X.1 X.2.1 d rfl (h3.2.2 j.val _ hv).1 (k H locs ls h1 h2 h3 (zst_c (h3.2.2 j.val _ hv).2.2 h4))
theorem z_istore (X : zX p R s m args meth c μ b sa D G sc) {j : Nat} {x : Int32} (hn : j < zmax μ) (d : decode (zby μ) pc = .ok (.istore j, 2)) (k : zq p l e R s m args below meth c b sa D G n0 s0 μ Q cl h (pc + 2) (zset lv j (.inl x)) (st)) : zq p l e R s m args below meth c b sa D G n0 s0 μ Q cl h (pc) lv (.inl x :: st) :=
  fun H locs ls h1 h2 h3 h4 => lv_istore X.1 X.2.1 d h3.has hn rfl (fun ls' h' => k H locs ls' h1 h2 (h3.put rfl trivial h') (zst_t h4))
theorem z_istore_n (X : zX p R s m args meth c μ b sa D G sc) {j : Fin 4} {x : Int32} (hn : j.val < zmax μ) (d : decode (zby μ) pc = .ok (.istore_n j, 1)) (k : zq p l e R s m args below meth c b sa D G n0 s0 μ Q cl h (pc + 1) (zset lv j.val (.inl x)) (st)) : zq p l e R s m args below meth c b sa D G n0 s0 μ Q cl h (pc) lv (.inl x :: st) :=
  fun H locs ls h1 h2 h3 h4 => lv_istore_n X.1 X.2.1 d rfl h3.has hn rfl (fun ls' h' => k H locs ls' h1 h2 (h3.put rfl trivial h') (zst_t h4))
theorem z_astore (X : zX p R s m args meth c μ b sa D G sc) {j : Nat} {x : zA} (hn : j < zmax μ) (d : decode (zby μ) pc = .ok (.astore j, 2)) (k : zq p l e R s m args below meth c b sa D G n0 s0 μ Q cl h (pc + 2) (zset lv j (.inr (.inl x))) (st)) : zq p l e R s m args below meth c b sa D G n0 s0 μ Q cl h (pc) lv (.inr (.inl x) :: st) :=
  fun H locs ls h1 h2 h3 h4 => lv_astore X.1 X.2.1 d h3.has hn rfl (fun ls' h' => k H locs ls' h1 h2 (h3.put rfl (zst_h h4) h') (zst_t h4))
theorem z_astore_n (X : zX p R s m args meth c μ b sa D G sc) {j : Fin 4} {x : zA} (hn : j.val < zmax μ) (d : decode (zby μ) pc = .ok (.astore_n j, 1)) (k : zq p l e R s m args below meth c b sa D G n0 s0 μ Q cl h (pc + 1) (zset lv j.val (.inr (.inl x))) (st)) : zq p l e R s m args below meth c b sa D G n0 s0 μ Q cl h (pc) lv (.inr (.inl x) :: st) :=
  fun H locs ls h1 h2 h3 h4 => lv_astore_n X.1 X.2.1 d rfl h3.has hn rfl (fun ls' h' => k H locs ls' h1 h2 (h3.put rfl (zst_h h4) h') (zst_t h4))
theorem z_iinc (X : zX p R s m args meth c μ b sa D G sc) {j : Nat} {n : Int} {x : Int32} (hv : zget lv j = some (.inl x)) (hn : j < zmax μ) (d : decode (zby μ) pc = .ok (.iinc j n, 3)) (k : zq p l e R s m args below meth c b sa D G n0 s0 μ Q cl h (pc + 3) (zset lv j (.inl (x + zK n))) (st)) : zq p l e R s m args below meth c b sa D G n0 s0 μ Q cl h (pc) lv (st) := by
  intro H locs ls h1 h2 h3 h4
  have hm := zpl_in (b := b) (sa := sa) lv 0 j _ hv
  rw [Nat.zero_add] at hm
  obtain ⟨i, hi⟩ := List.getElem?_of_mem hm
  exact lv_iinc (v := x + zK n) X.1 X.2.1 d h3.has hi (by rw [zK_eq]) hn rfl (fun ls' h' => k H locs ls' h1 h2 (h3.put (v := .inl (x + zK n)) rfl trivial h') h4)
theorem z_iadd (X : zX p R s m args meth c μ b sa D G sc) {x y : Int32} (d : decode (zby μ) pc = .ok (.iadd, 1)) (k : zq p l e R s m args below meth c b sa D G n0 s0 μ Q cl h (pc + 1) lv (.inl (x + y) :: st)) : zq p l e R s m args below meth c b sa D G n0 s0 μ Q cl h (pc) lv (.inl y :: .inl x :: st) :=
  fun H locs ls h1 h2 h3 h4 => lv_iadd X.1 X.2.1 d (k H locs ls h1 h2 h3 (zst_i (zst_t (zst_t h4))))
theorem z_isub (X : zX p R s m args meth c μ b sa D G sc) {x y : Int32} (d : decode (zby μ) pc = .ok (.isub, 1)) (k : zq p l e R s m args below meth c b sa D G n0 s0 μ Q cl h (pc + 1) lv (.inl (x - y) :: st)) : zq p l e R s m args below meth c b sa D G n0 s0 μ Q cl h (pc) lv (.inl y :: .inl x :: st) :=
  fun H locs ls h1 h2 h3 h4 => lv_isub X.1 X.2.1 d (k H locs ls h1 h2 h3 (zst_i (zst_t (zst_t h4))))
theorem z_imul (X : zX p R s m args meth c μ b sa D G sc) {x y : Int32} (d : decode (zby μ) pc = .ok (.imul, 1)) (k : zq p l e R s m args below meth c b sa D G n0 s0 μ Q cl h (pc + 1) lv (.inl (x * y) :: st)) : zq p l e R s m args below meth c b sa D G n0 s0 μ Q cl h (pc) lv (.inl y :: .inl x :: st) :=
  fun H locs ls h1 h2 h3 h4 => lv_imul X.1 X.2.1 d (k H locs ls h1 h2 h3 (zst_i (zst_t (zst_t h4))))
theorem z_iand (X : zX p R s m args meth c μ b sa D G sc) {x y : Int32} (d : decode (zby μ) pc = .ok (.iand, 1)) (k : zq p l e R s m args below meth c b sa D G n0 s0 μ Q cl h (pc + 1) lv (.inl (x &&& y) :: st)) : zq p l e R s m args below meth c b sa D G n0 s0 μ Q cl h (pc) lv (.inl y :: .inl x :: st) :=
  fun H locs ls h1 h2 h3 h4 => lv_iand X.1 X.2.1 d (k H locs ls h1 h2 h3 (zst_i (zst_t (zst_t h4))))
theorem z_ior (X : zX p R s m args meth c μ b sa D G sc) {x y : Int32} (d : decode (zby μ) pc = .ok (.ior, 1)) (k : zq p l e R s m args below meth c b sa D G n0 s0 μ Q cl h (pc + 1) lv (.inl (x ||| y) :: st)) : zq p l e R s m args below meth c b sa D G n0 s0 μ Q cl h (pc) lv (.inl y :: .inl x :: st) :=
  fun H locs ls h1 h2 h3 h4 => lv_ior X.1 X.2.1 d (k H locs ls h1 h2 h3 (zst_i (zst_t (zst_t h4))))
theorem z_ishl (X : zX p R s m args meth c μ b sa D G sc) {x y : Int32} (d : decode (zby μ) pc = .ok (.ishl, 1)) (k : zq p l e R s m args below meth c b sa D G n0 s0 μ Q cl h (pc + 1) lv (.inl (x <<< (y &&& 31)) :: st)) : zq p l e R s m args below meth c b sa D G n0 s0 μ Q cl h (pc) lv (.inl y :: .inl x :: st) :=
  fun H locs ls h1 h2 h3 h4 => lv_ishl X.1 X.2.1 d (k H locs ls h1 h2 h3 (zst_i (zst_t (zst_t h4))))
theorem z_ishr (X : zX p R s m args meth c μ b sa D G sc) {x y : Int32} (d : decode (zby μ) pc = .ok (.ishr, 1)) (k : zq p l e R s m args below meth c b sa D G n0 s0 μ Q cl h (pc + 1) lv (.inl (x >>> (y &&& 31)) :: st)) : zq p l e R s m args below meth c b sa D G n0 s0 μ Q cl h (pc) lv (.inl y :: .inl x :: st) :=
  fun H locs ls h1 h2 h3 h4 => lv_ishr X.1 X.2.1 d (k H locs ls h1 h2 h3 (zst_i (zst_t (zst_t h4))))
theorem z_idiv (X : zX p R s m args meth c μ b sa D G sc) {x y : Int32} (hy : ¬ y = 0) (d : decode (zby μ) pc = .ok (.idiv, 1)) (k : zq p l e R s m args below meth c b sa D G n0 s0 μ Q cl h (pc + 1) lv (.inl (x / y) :: st)) : zq p l e R s m args below meth c b sa D G n0 s0 μ Q cl h (pc) lv (.inl y :: .inl x :: st) :=
  fun H locs ls h1 h2 h3 h4 => lv_idiv X.1 X.2.1 d hy (k H locs ls h1 h2 h3 (zst_i (zst_t (zst_t h4))))
theorem z_irem (X : zX p R s m args meth c μ b sa D G sc) {x y : Int32} (hy : ¬ y = 0) (d : decode (zby μ) pc = .ok (.irem, 1)) (k : zq p l e R s m args below meth c b sa D G n0 s0 μ Q cl h (pc + 1) lv (.inl (x - x / y * y) :: st)) : zq p l e R s m args below meth c b sa D G n0 s0 μ Q cl h (pc) lv (.inl y :: .inl x :: st) :=
  fun H locs ls h1 h2 h3 h4 => lv_irem X.1 X.2.1 d hy (k H locs ls h1 h2 h3 (zst_i (zst_t (zst_t h4))))
theorem z_i2l (X : zX p R s m args meth c μ b sa D G sc) {x : Int32} (d : decode (zby μ) pc = .ok (.i2l, 1)) (k : zq p l e R s m args below meth c b sa D G n0 s0 μ Q cl h (pc + 1) lv (.inr (.inr x.toInt64) :: st)) : zq p l e R s m args below meth c b sa D G n0 s0 μ Q cl h (pc) lv (.inl x :: st) :=
  fun H locs ls h1 h2 h3 h4 => lv_i2l X.1 X.2.1 d rfl (k H locs ls h1 h2 h3 (zst_l (zst_t h4)))
theorem z_ineg (X : zX p R s m args meth c μ b sa D G sc) {x : Int32} (d : decode (zby μ) pc = .ok (.ineg, 1)) (k : zq p l e R s m args below meth c b sa D G n0 s0 μ Q cl h (pc + 1) lv (.inl (-x) :: st)) : zq p l e R s m args below meth c b sa D G n0 s0 μ Q cl h (pc) lv (.inl x :: st) :=
  fun H locs ls h1 h2 h3 h4 => lv_ineg X.1 X.2.1 d (k H locs ls h1 h2 h3 (zst_i (zst_t h4)))
theorem z_lcmp (X : zX p R s m args meth c μ b sa D G sc) {x y : Int64} (d : decode (zby μ) pc = .ok (.lcmp, 1)) (k : zq p l e R s m args below meth c b sa D G n0 s0 μ Q cl h (pc + 1) lv (.inl (lg_cmp x y) :: st)) : zq p l e R s m args below meth c b sa D G n0 s0 μ Q cl h (pc) lv (.inr (.inr y) :: .inr (.inr x) :: st) :=
  fun H locs ls h1 h2 h3 h4 => W.lcmp X.1 X.2.1 d (k H locs ls h1 h2 h3 (zst_i (zst_t (zst_t h4))))
theorem z_dup (X : zX p R s m args meth c μ b sa D G sc) {v : zV} (hv : ∀ w, v ≠ .inr (.inr w)) (d : decode (zby μ) pc = .ok (.dup, 1)) (k : zq p l e R s m args below meth c b sa D G n0 s0 μ Q cl h (pc + 1) lv (v :: v :: st)) : zq p l e R s m args below meth c b sa D G n0 s0 μ Q cl h (pc) lv (v :: st) :=
  fun H locs ls h1 h2 h3 h4 => lv_dup X.1 X.2.1 d (zcat1 hv) (k H locs ls h1 h2 h3 (zst_c (zst_h h4) h4))
theorem z_pop (X : zX p R s m args meth c μ b sa D G sc) {v : zV} (hv : ∀ w, v ≠ .inr (.inr w)) (d : decode (zby μ) pc = .ok (.pop, 1)) (k : zq p l e R s m args below meth c b sa D G n0 s0 μ Q cl h (pc + 1) lv (st)) : zq p l e R s m args below meth c b sa D G n0 s0 μ Q cl h (pc) lv (v :: st) :=
  fun H locs ls h1 h2 h3 h4 => lv_pop X.1 X.2.1 d (zcat1 hv) (k H locs ls h1 h2 h3 (zst_t h4))
theorem z_dup_x1 (X : zX p R s m args meth c μ b sa D G sc) {v w : zV} (hv : ∀ q, v ≠ .inr (.inr q)) (hw : ∀ q, w ≠ .inr (.inr q)) (d : decode (zby μ) pc = .ok (.dup_x1, 1)) (k : zq p l e R s m args below meth c b sa D G n0 s0 μ Q cl h (pc + 1) lv (v :: w :: v :: st)) : zq p l e R s m args below meth c b sa D G n0 s0 μ Q cl h (pc) lv (v :: w :: st) :=
  fun H locs ls h1 h2 h3 h4 => lv_dup_x1 X.1 X.2.1 d (zcat1 hv) (zcat1 hw) (k H locs ls h1 h2 h3 (zst_c (zst_h h4) (zst_c (zst_h (zst_t h4)) (zst_c (zst_h h4) (zst_t (zst_t h4))))))
theorem z_dup_x2 (X : zX p R s m args meth c μ b sa D G sc) {v w u : zV} (hv : ∀ q, v ≠ .inr (.inr q)) (hw : ∀ q, w ≠ .inr (.inr q)) (hu : ∀ q, u ≠ .inr (.inr q)) (d : decode (zby μ) pc = .ok (.dup_x2, 1)) (k : zq p l e R s m args below meth c b sa D G n0 s0 μ Q cl h (pc + 1) lv (v :: w :: u :: v :: st)) : zq p l e R s m args below meth c b sa D G n0 s0 μ Q cl h (pc) lv (v :: w :: u :: st) :=
  fun H locs ls h1 h2 h3 h4 => lv_dup_x2 X.1 X.2.1 d (zcat1 hv) (zcat1 hw) (zcat1 hu) (k H locs ls h1 h2 h3 (zst_c (zst_h h4) (zst_c (zst_h (zst_t h4)) (zst_c (zst_h (zst_t (zst_t h4))) (zst_c (zst_h h4) (zst_t (zst_t (zst_t h4))))))))
theorem z_dup2 (X : zX p R s m args meth c μ b sa D G sc) {v w : zV} (hv : ∀ q, v ≠ .inr (.inr q)) (hw : ∀ q, w ≠ .inr (.inr q)) (d : decode (zby μ) pc = .ok (.dup2, 1)) (k : zq p l e R s m args below meth c b sa D G n0 s0 μ Q cl h (pc + 1) lv (v :: w :: v :: w :: st)) : zq p l e R s m args below meth c b sa D G n0 s0 μ Q cl h (pc) lv (v :: w :: st) :=
  fun H locs ls h1 h2 h3 h4 => lv_dup2_11 X.1 X.2.1 d (zcat1 hv) (zcat1 hw) (k H locs ls h1 h2 h3 (zst_c (zst_h h4) (zst_c (zst_h (zst_t h4)) h4)))
theorem z_goto (X : zX p R s m args meth c μ b sa D G sc) {o : Int} {t : Nat} (ht : (pc : Int) + o = (t : Int)) (d : decode (zby μ) pc = .ok (.goto o, 3)) (k : zq p l e R s m args below meth c b sa D G n0 s0 μ Q cl h (t) lv (st)) : zq p l e R s m args below meth c b sa D G n0 s0 μ Q cl h (pc) lv (st) :=
  fun H locs ls h1 h2 h3 h4 => lv_goto X.1 X.2.1 d ht (k H locs ls h1 h2 h3 h4)
theorem z_if_eq (X : zX p R s m args meth c μ b sa D G sc) {x : Int32} {o : Int} {t : Nat} (ht : (pc : Int) + o = (t : Int)) (d : decode (zby μ) pc = .ok (.ifCond .eq o, 3)) (kt : x = 0 → zq p l e R s m args below meth c b sa D G n0 s0 μ Q cl h (t) lv (st)) (kf : ¬ x = 0 → zq p l e R s m args below meth c b sa D G n0 s0 μ Q cl h (pc + 3) lv (st)) : zq p l e R s m args below meth c b sa D G n0 s0 μ Q cl h (pc) lv (.inl x :: st) :=
  fun H locs ls h1 h2 h3 h4 => lv_if_eq X.1 X.2.1 d ht (fun q => kt q H locs ls h1 h2 h3 (zst_t h4)) (fun q => kf q H locs ls h1 h2 h3 (zst_t h4))
theorem z_icmp_eq (X : zX p R s m args meth c μ b sa D G sc) {x y : Int32} {o : Int} {t : Nat} (ht : (pc : Int) + o = (t : Int)) (d : decode (zby μ) pc = .ok (.if_icmp .eq o, 3)) (kt : x = y → zq p l e R s m args below meth c b sa D G n0 s0 μ Q cl h (t) lv (st)) (kf : ¬ x = y → zq p l e R s m args below meth c b sa D G n0 s0 μ Q cl h (pc + 3) lv (st)) : zq p l e R s m args below meth c b sa D G n0 s0 μ Q cl h (pc) lv (.inl y :: .inl x :: st) :=
  fun H locs ls h1 h2 h3 h4 => lv_icmp_eq X.1 X.2.1 d ht (fun q => kt q H locs ls h1 h2 h3 (zst_t (zst_t h4))) (fun q => kf q H locs ls h1 h2 h3 (zst_t (zst_t h4)))
theorem z_if_ne (X : zX p R s m args meth c μ b sa D G sc) {x : Int32} {o : Int} {t : Nat} (ht : (pc : Int) + o = (t : Int)) (d : decode (zby μ) pc = .ok (.ifCond .ne o, 3)) (kt : ¬ x = 0 → zq p l e R s m args below meth c b sa D G n0 s0 μ Q cl h (t) lv (st)) (kf : x = 0 → zq p l e R s m args below meth c b sa D G n0 s0 μ Q cl h (pc + 3) lv (st)) : zq p l e R s m args below meth c b sa D G n0 s0 μ Q cl h (pc) lv (.inl x :: st) :=
  fun H locs ls h1 h2 h3 h4 => lv_if_ne X.1 X.2.1 d ht (fun q => kt q H locs ls h1 h2 h3 (zst_t h4)) (fun q => kf q H locs ls h1 h2 h3 (zst_t h4))
theorem z_icmp_ne (X : zX p R s m args meth c μ b sa D G sc) {x y : Int32} {o : Int} {t : Nat} (ht : (pc : Int) + o = (t : Int)) (d : decode (zby μ) pc = .ok (.if_icmp .ne o, 3)) (kt : ¬ x = y → zq p l e R s m args below meth c b sa D G n0 s0 μ Q cl h (t) lv (st)) (kf : x = y → zq p l e R s m args below meth c b sa D G n0 s0 μ Q cl h (pc + 3) lv (st)) : zq p l e R s m args below meth c b sa D G n0 s0 μ Q cl h (pc) lv (.inl y :: .inl x :: st) :=
  fun H locs ls h1 h2 h3 h4 => lv_icmp_ne X.1 X.2.1 d ht (fun q => kt q H locs ls h1 h2 h3 (zst_t (zst_t h4))) (fun q => kf q H locs ls h1 h2 h3 (zst_t (zst_t h4)))
theorem z_if_lt (X : zX p R s m args meth c μ b sa D G sc) {x : Int32} {o : Int} {t : Nat} (ht : (pc : Int) + o = (t : Int)) (d : decode (zby μ) pc = .ok (.ifCond .lt o, 3)) (kt : x < 0 → zq p l e R s m args below meth c b sa D G n0 s0 μ Q cl h (t) lv (st)) (kf : ¬ x < 0 → zq p l e R s m args below meth c b sa D G n0 s0 μ Q cl h (pc + 3) lv (st)) : zq p l e R s m args below meth c b sa D G n0 s0 μ Q cl h (pc) lv (.inl x :: st) :=
  fun H locs ls h1 h2 h3 h4 => lv_if_lt X.1 X.2.1 d ht (fun q => kt q H locs ls h1 h2 h3 (zst_t h4)) (fun q => kf q H locs ls h1 h2 h3 (zst_t h4))
theorem z_icmp_lt (X : zX p R s m args meth c μ b sa D G sc) {x y : Int32} {o : Int} {t : Nat} (ht : (pc : Int) + o = (t : Int)) (d : decode (zby μ) pc = .ok (.if_icmp .lt o, 3)) (kt : x < y → zq p l e R s m args below meth c b sa D G n0 s0 μ Q cl h (t) lv (st)) (kf : ¬ x < y → zq p l e R s m args below meth c b sa D G n0 s0 μ Q cl h (pc + 3) lv (st)) : zq p l e R s m args below meth c b sa D G n0 s0 μ Q cl h (pc) lv (.inl y :: .inl x :: st) :=
  fun H locs ls h1 h2 h3 h4 => lv_icmp_lt X.1 X.2.1 d ht (fun q => kt q H locs ls h1 h2 h3 (zst_t (zst_t h4))) (fun q => kf q H locs ls h1 h2 h3 (zst_t (zst_t h4)))
theorem z_if_ge (X : zX p R s m args meth c μ b sa D G sc) {x : Int32} {o : Int} {t : Nat} (ht : (pc : Int) + o = (t : Int)) (d : decode (zby μ) pc = .ok (.ifCond .ge o, 3)) (kt : 0 ≤ x → zq p l e R s m args below meth c b sa D G n0 s0 μ Q cl h (t) lv (st)) (kf : ¬ 0 ≤ x → zq p l e R s m args below meth c b sa D G n0 s0 μ Q cl h (pc + 3) lv (st)) : zq p l e R s m args below meth c b sa D G n0 s0 μ Q cl h (pc) lv (.inl x :: st) :=
  fun H locs ls h1 h2 h3 h4 => lv_if_ge X.1 X.2.1 d ht (fun q => kt q H locs ls h1 h2 h3 (zst_t h4)) (fun q => kf q H locs ls h1 h2 h3 (zst_t h4))
theorem z_icmp_ge (X : zX p R s m args meth c μ b sa D G sc) {x y : Int32} {o : Int} {t : Nat} (ht : (pc : Int) + o = (t : Int)) (d : decode (zby μ) pc = .ok (.if_icmp .ge o, 3)) (kt : y ≤ x → zq p l e R s m args below meth c b sa D G n0 s0 μ Q cl h (t) lv (st)) (kf : ¬ y ≤ x → zq p l e R s m args below meth c b sa D G n0 s0 μ Q cl h (pc + 3) lv (st)) : zq p l e R s m args below meth c b sa D G n0 s0 μ Q cl h (pc) lv (.inl y :: .inl x :: st) :=
  fun H locs ls h1 h2 h3 h4 => lv_icmp_ge X.1 X.2.1 d ht (fun q => kt q H locs ls h1 h2 h3 (zst_t (zst_t h4))) (fun q => kf q H locs ls h1 h2 h3 (zst_t (zst_t h4)))
theorem z_if_gt (X : zX p R s m args meth c μ b sa D G sc) {x : Int32} {o : Int} {t : Nat} (ht : (pc : Int) + o = (t : Int)) (d : decode (zby μ) pc = .ok (.ifCond .gt o, 3)) (kt : 0 < x → zq p l e R s m args below meth c b sa D G n0 s0 μ Q cl h (t) lv (st)) (kf : ¬ 0 < x → zq p l e R s m args below meth c b sa D G n0 s0 μ Q cl h (pc + 3) lv (st)) : zq p l e R s m args below meth c b sa D G n0 s0 μ Q cl h (pc) lv (.inl x :: st) :=
  fun H locs ls h1 h2 h3 h4 => lv_if_gt X.1 X.2.1 d ht (fun q => kt q H locs ls h1 h2 h3 (zst_t h4)) (fun q => kf q H locs ls h1 h2 h3 (zst_t h4))
theorem z_icmp_gt (X : zX p R s m args meth c μ b sa D G sc) {x y : Int32} {o : Int} {t : Nat} (ht : (pc : Int) + o = (t : Int)) (d : decode (zby μ) pc = .ok (.if_icmp .gt o, 3)) (kt : y < x → zq p l e R s m args below meth c b sa D G n0 s0 μ Q cl h (t) lv (st)) (kf : ¬ y < x → zq p l e R s m args below meth c b sa D G n0 s0 μ Q cl h (pc + 3) lv (st)) : zq p l e R s m args below meth c b sa D G n0 s0 μ Q cl h (pc) lv (.inl y :: .inl x :: st) :=
  fun H locs ls h1 h2 h3 h4 => lv_icmp_gt X.1 X.2.1 d ht (fun q => kt q H locs ls h1 h2 h3 (zst_t (zst_t h4))) (fun q => kf q H locs ls h1 h2 h3 (zst_t (zst_t h4)))
theorem z_if_le (X : zX p R s m args meth c μ b sa D G sc) {x : Int32} {o : Int} {t : Nat} (ht : (pc : Int) + o = (t : Int)) (d : decode (zby μ) pc = .ok (.ifCond .le o, 3)) (kt : x ≤ 0 → zq p l e R s m args below meth c b sa D G n0 s0 μ Q cl h (t) lv (st)) (kf : ¬ x ≤ 0 → zq p l e R s m args below meth c b sa D G n0 s0 μ Q cl h (pc + 3) lv (st)) : zq p l e R s m args below meth c b sa D G n0 s0 μ Q cl h (pc) lv (.inl x :: st) :=
  fun H locs ls h1 h2 h3 h4 => lv_if_le X.1 X.2.1 d ht (fun q => kt q H locs ls h1 h2 h3 (zst_t h4)) (fun q => kf q H locs ls h1 h2 h3 (zst_t h4))
theorem z_icmp_le (X : zX p R s m args meth c μ b sa D G sc) {x y : Int32} {o : Int} {t : Nat} (ht : (pc : Int) + o = (t : Int)) (d : decode (zby μ) pc = .ok (.if_icmp .le o, 3)) (kt : x ≤ y → zq p l e R s m args below meth c b sa D G n0 s0 μ Q cl h (t) lv (st)) (kf : ¬ x ≤ y → zq p l e R s m args below meth c b sa D G n0 s0 μ Q cl h (pc + 3) lv (st)) : zq p l e R s m args below meth c b sa D G n0 s0 μ Q cl h (pc) lv (.inl y :: .inl x :: st) :=
  fun H locs ls h1 h2 h3 h4 => lv_icmp_le X.1 X.2.1 d ht (fun q => kt q H locs ls h1 h2 h3 (zst_t (zst_t h4))) (fun q => kf q H locs ls h1 h2 h3 (zst_t (zst_t h4)))
theorem z_tabOut (X : zX p R s m args meth c μ b sa D G sc) {x : Int32} {dd lo hi : Int} {os : Array Int} {len t : Nat} (hx : x.toInt < lo ∨ hi < x.toInt) (ht : (pc : Int) + dd = (t : Int)) (d : decode (zby μ) pc = .ok (.tableswitch dd lo hi os, len)) (k : zq p l e R s m args below meth c b sa D G n0 s0 μ Q cl h (t) lv (st)) : zq p l e R s m args below meth c b sa D G n0 s0 μ Q cl h (pc) lv (.inl x :: st) :=
  fun H locs ls h1 h2 h3 h4 => lv_tableOut X.1 X.2.1 d hx ht (k H locs ls h1 h2 h3 (zst_t h4))
theorem z_tabIn (X : zX p R s m args meth c μ b sa D G sc) {x : Int32} {dd lo hi o : Int} {os : Array Int} {len t : Nat} (hx : ¬ (x.toInt < lo ∨ hi < x.toInt)) (ho : os[(x.toInt - lo).toNat]? = some o) (ht : (pc : Int) + o = (t : Int)) (d : decode (zby μ) pc = .ok (.tableswitch dd lo hi os, len)) (k : zq p l e R s m args below meth c b sa D G n0 s0 μ Q cl h (t) lv (st)) : zq p l e R s m args below meth c b sa D G n0 s0 μ Q cl h (pc) lv (.inl x :: st) :=
  fun H locs ls h1 h2 h3 h4 => lv_tableIn X.1 X.2.1 d (fun q => hx (Or.inl q)) (fun q => hx (Or.inr q)) ho ht (k H locs ls h1 h2 h3 (zst_t h4))
theorem z_cell {a : zA} (hv : zvk h.1 (.inr (.inl a))) (hc : zc a.1 < 90) : zlv h.1 a := by
  rcases hv with q | q
  · exact q
  · rw [zc_hi q] at hc; omega
theorem z_getF (X : zX p R s m args meth c μ b sa D G sc) {a : zA} {j ci f : Nat} {pl : Nat} (hf : zft (zown μ) j = some (ci, f, pl)) (hc : zc a.1 = ci) (d : decode (zby μ) pc = .ok (.getfield j, 3)) {v : zV} (hsv : zsv b sa h a f = zvl b sa v) (hvk : zcls h → zlv h.1 a → f < zn a.1 → zvk h.1 v) (k : zq p l e R s m args below meth c b sa D G n0 s0 μ Q cl h (pc + 3) lv (v :: st)) : zq p l e R s m args below meth c b sa D G n0 s0 μ Q cl h (pc) lv (.inr (.inl a) :: st) := by
  intro H locs ls h1 h2 h3 h4
  obtain ⟨f1, f2, f3⟩ := zF_ft hf
  have ha := z_cell (zst_h h4) (by omega)
  have hcell := h1.2.2.1 a ha
  unfold zce at hcell
  rw [if_pos (by omega)] at hcell
  rw [hc] at hcell
  obtain ⟨cell, q1, q2, q3, q4⟩ := hcell
  obtain ⟨hS, hfc, kC, hkC, hkind⟩ := X.2.2.2.2.2.1.1 ci _ (zF_cl f1)
  obtain ⟨cf, kf, fi, fd, hi, hsl⟩ := hS f f2
  have hN : zn a.1 = (zTb ci).2.2 := by rw [← hc]; exact zF_n (by omega)
  show W p l e R s m args below meth c H locs (h.1 - n0) (h.2.1 - s0) Q (F0 m pc ls (.ref (zad b sa a) :: st.map (zvl b sa)))
  rw [zad_lv ha]
  have hd := zF_dec f1 f2
  refine W.getf X.1 X.2.1 X.2.2.2.1 (X.2.2.2.2.1 _ f3) (cf := cf) (k := kf) (i := fi) (f := fd) (by rw [← hd]; exact hi) (u_facts hfc hkC (u_lays X.2.2.2.2.1 (zF_ws f1) f2) hi).1 q1 (by rw [q3]; exact fun q => by cases q) (v := zvl b sa v) ?_ rfl rfl d (k H locs ls h1 h2 h3 (zst_c (hvk h1.2.2.2.1 ha (by omega)) (zst_t h4)))
  rw [hsl, q4 f (by omega), hsv]
theorem z_obj (X : zX p R s m args meth c μ b sa D G sc) {j pl : Nat} {a : zA} (hj : zlk (zobjL (zown μ)) j = some pl) (h1f : 1 ≤ zfr μ) (h1l : zcat st + 12 ≤ zlw μ) (d : decode (zby μ) pc = .ok (.invokespecial j, 3)) (k : zq p l e R s m args below meth c b sa D G n0 s0 μ Q cl h (pc + 3) lv (st)) : zq p l e R s m args below meth c b sa D G n0 s0 μ Q cl h (pc) lv (.inr (.inl a) :: st) := by
  intro H locs ls h1 h2 h3 h4
  obtain ⟨f1, f2, f3⟩ := zF_obj hj
  refine W.objInit X.1 X.2.1 X.2.2.2.1 (X.2.2.2.2.1 _ f1) (X.2.2.2.2.1 _ f2) (X.2.2.2.2.1 _ f3) rfl (by show ls.size = _; rw [h3.1, X.2.2.1]) rfl d (by rw [X.2.2.2.2.2.2.2.2.2.1.2.1]; exact h1f) ?_ (k H locs ls h1 h2 h3 (zst_t h4))
  show 2 * 0 + _ + 12 ≤ _
  rw [zcat_sum, X.2.2.2.2.2.2.2.2.2.1.2.2.1]
  omega
theorem z_mmax (X : zX p R s m args meth c μ b sa D G sc) {j pl : Nat} {x y : Int32} (hj : zlk (zmthL (zown μ)) j = some pl) (h1f : 1 ≤ zfr μ) (h1l : zcat st + 13 ≤ zlw μ) (hc : h.1 - n0 ≤ R.cells) (hs : h.2.1 - s0 ≤ R.slots) (d : decode (zby μ) pc = .ok (.invokestatic j, 3)) (k : zq p l e R s m args below meth c b sa D G n0 s0 μ Q cl h (pc + 3) lv (.inl (if x < y then y else x) :: st)) : zq p l e R s m args below meth c b sa D G n0 s0 μ Q cl h (pc) lv (.inl y :: .inl x :: st) := by
  intro H locs ls h1 h2 h3 h4
  obtain ⟨f1, f2, f3, f4⟩ := zF_mth hj
  exact va_mmax X.1 X.2.1 (by rw [X.2.2.1, h3.1]) X.2.2.2.1 (X.2.2.2.2.1 _ f1) (X.2.2.2.2.1 _ f2) (X.2.2.2.2.1 _ f3) (X.2.2.2.2.1 _ f4) (by rw [X.2.2.2.2.2.2.2.2.2.1.2.1]; exact h1f) (by rw [zcat_sum, X.2.2.2.2.2.2.2.2.2.1.2.2.1]; exact h1l) hc hs d (k H locs ls h1 h2 h3 (zst_i (zst_t (zst_t h4))))
end ROWS
