/-! Contracts and calls -/
/-- what a state's tables say, and the script -/
def zE (b sa : Nat) (D : va_G) (G : Nat → ClassId) (sc : zC) (U : State) : Prop :=
  va_K D z_cl (ztys G) U ∧ (∀ L xs, sc = some (L, xs) → va_X sa L xs U U.heap) ∧ sa < U.heap.size ∧ (∀ w ∈ nW, w.before #[] U = true) ∧ zEx b U
def zPc (b sa : Nat) (D : va_G) (G : Nat → ClassId) (sc : zC) (h : zS) (as : List zV) : Array Value → State → Prop :=
  va_Pc (as.map (zvl b sa)) (fun U => zP b sa D G h U.heap ∧ zE b sa D G sc U ∧ zst h.1 as)
/-- the end of a method that answers: r its answer and its heap -/
def zQc (b sa : Nat) (D : va_G) (G : Nat → ClassId) (y : Nat) (v : Option zV) (h : zS) : Array Value → State → Outcome → State → Prop :=
  fun _ st oc t => (oc = .returned (v.map (zvl b sa)) ∧ zP b sa D G h t.heap ∧ ∀ w, v = some w → zvk h.1 w) ∧ va_F (fun q => b ≤ q) st t ∧ (zpu y = true → t.heap = st.heap)
/-- what a method may write -/
def zfree (b y : Nat) : Addr → Prop := fun q => b ≤ q ∧ zpu y = false
def zws (y : Nat) : List Cond := Cond.code (zyn y) (zby y) (zmax y) (zrT y) :: gW
def zrm (y mc ms : Nat) : Room := { frames := zfr y, cells := mc, slots := ms, locals := zlw y }
theorem zAOA_use {A : Array Value} {U : State} (h : (Cond.arrayOver (.array .int)).before #[] U = true) : (Cond.arrayOver (.array .int)).before A U = true := h
theorem zAOA_moved {t : FieldType} {u U : State} (hvm : u.vm.Alike U.vm) (h : (Cond.arrayOver (.array t)).before #[] u = true) : (Cond.arrayOver (.array t)).before #[] U = true := by
  obtain ⟨comp, c, k, h1, h2, h3, h4, h5⟩ := arrayOverA_spec h
  obtain ⟨k', hk', he⟩ := hvm.2.2 _ _ h3
  have hi : (U.vm.classes.findIdx? fun (x : Class) => match x.kind with | .array component _ => component == comp | _ => false) = some c := by
    rw [hvm.findIdx?_eq _ (fun _ => rfl)]; exact h2
  have hkind : k'.kind = .array comp (.array t) := by rw [he]; exact h4
  have f1 : U.vm.findClass (FieldType.array t).toString = some comp := by rw [hvm.findClass]; exact h1
  have f2 : U.vm.findClass ("[" ++ (FieldType.array t).toString) = some c := by rw [hvm.findClass]; exact h5
  unfold Cond.before Cond.holds
  simp only [Cond.value]
  rw [f1, Option.bind_some]
  refine (congrArg (fun o : Option Nat => (o.bind (fun c => (U.vm.classes[c]?).map fun (k : Class) => match k.kind with | .array _ ty => decide (ty = FieldType.array t) && decide (U.vm.findClass ("[" ++ (FieldType.array t).toString) = some c) | _ => false) == some true)) hi).trans ?_
  simp [hk', hkind, f2]
theorem zbad_arr {t : FieldType} (h : zbadW (.arrayOver t) = true) : (∃ C, t = .object C) ∨ t = .array .int := by
  unfold zbadW at h
  split at h
  · next e => cases e
  · next e => cases e
  · next e => cases e
  · next C e =>
    cases e
    exact Or.inl ⟨C, rfl⟩
  · next e =>
    cases e
    exact Or.inr rfl
  · cases h
theorem nW_warm {s U : State} (hW : s.WarmedH U.vm) {w : Cond} (hw : w ∈ nW) (h : w.before #[] s = true) : w.before #[] U = true := by
  have hb := (List.mem_filter.mp hw).2
  cases w <;> first | (cases hb; done) | skip
  case methodLinkNest a i x hst => exact va_Nw.warmM hW h
  case castable C T => exact va_Nw.warmC hW h
  case declares x => exact va_Nw.warmD hW h
  case arrayOver t =>
    rcases zbad_arr hb with ⟨C, rfl⟩ | rfl
    · exact va_AO.moved hW.alike h
    · exact zAOA_moved hW.alike h
theorem nW_same {u U : State} (hv : u.vm = U.vm) {w : Cond} (hw : w ∈ nW) (h : w.before #[] u = true) : w.before #[] U = true := by
  have hb := (List.mem_filter.mp hw).2
  cases w <;> first | (cases hb; done) | skip
  case methodLinkNest a i x hst => exact va_tabs rfl hv h
  case castable C T => exact va_tabs rfl hv h
  case declares x => exact va_tabs rfl hv h
  case arrayOver t =>
    rcases zbad_arr hb with ⟨C, rfl⟩ | rfl
    · exact va_AO.moved (u := u) (by rw [hv]; exact Vm.Alike.refl _) h
    · exact zAOA_moved (u := u) (by rw [hv]; exact Vm.Alike.refl _) h
theorem zPc_blind {b sa : Nat} {D : va_G} {G : Nat → ClassId} {sc : zC} {h : zS} {as : List zV} : FrameBlind (zPc b sa D G sc h as) :=
  fun a U g mk q => ⟨q.1, q.2.1, ⟨q.2.2.1.1, q.2.2.1.2.1, q.2.2.1.2.2.1, fun w hw => nW_same (u := U) (U := U.calling g mk a) rfl hw (q.2.2.1.2.2.2.1 w hw), fun x hx => (q.2.2.1.2.2.2.2.1 x hx).imp fun _ z => z.same rfl, zSt.go (u := U) (U := U.calling g mk a) (Vm.Alike.refl _) (fun _ _ _ => rfl) q.2.2.1.2.2.2.2.2.1, zSt.go (u := U) (U := U.calling g mk a) (Vm.Alike.refl _) (fun _ _ _ => rfl) q.2.2.1.2.2.2.2.2.2.1, va_Nc.moved (u := U) (U := U.calling g mk a) (Vm.Alike.refl _) q.2.2.1.2.2.2.2.2.2.2.1, va_Nc.moved (u := U) (U := U.calling g mk a) (Vm.Alike.refl _) q.2.2.1.2.2.2.2.2.2.2.2⟩, q.2.2.2⟩
section CALL
variable {p : Program} {l : Launch} {e : Env} {R : Room} {s : State} {m : MethodId} {args : Array Value} {below : List Frame} {meth : Method} {c : Code} {Q : State → Prop}
variable {b sa : Nat} {D : va_G} {G : Nat → ClassId} {sc : zC} {n0 s0 μ : Nat} {cl : Bool} {h : zS} {pc : Nat} {lv : zL} {st : List zV}
theorem z_env (X : zX p R s m args meth c μ b sa D G sc) {H : Heap} {locs : List Loc} (h1 : zP b sa D G h H) (h2 : zSl b s cl H locs) {U : State} (hU : U.heap = H) (hW : s.WarmedH U.vm) : zE b sa D G sc U := by
  have zx := X.2.2.2.2.2.2.2.2.2.1.2.2.2.2.1
  refine ⟨X.2.2.2.2.2.1.moved hW.alike, fun L xs hs => ?_, ?_, fun w hw => nW_warm hW hw (X.2.2.2.2.2.2.2.2.2.2 w hw), fun q hq => (zx.1 q hq).imp fun _ z => z.warm hW, ?_, ?_, zx.2.2.2.1.moved hW.alike, zx.2.2.2.2.moved hW.alike⟩
  · rw [hU]
    exact ((X.2.2.2.2.2.2.1 L xs hs).moved hW.alike).kept (h2.1.2.1 sa X.2.2.2.2.2.2.2.1 (by have := h1.2.1; omega))
  · rw [hU]
    exact Nat.lt_of_lt_of_le X.2.2.2.2.2.2.2.1 h2.1.1
  · exact zx.2.1.go hW.alike (fun q g1 g2 => by rw [hU]; exact h2.1.2.1 q g1 (by omega))
  · exact zx.2.2.1.go hW.alike (fun q g1 g2 => by rw [hU]; exact h2.1.2.1 q g1 (by omega))
/-- behind a call that answered -/
theorem z_go {y : Nat} {H : Heap} {locs : List Loc} {cells slots mc ms : Nat} {ls : Array Slot} {st0 rest : List Value} {v : Option zV} {h' : zS} {a : Array Value}
    (hr : va_Run p l e R s m args below meth c H locs cells slots mc ms (F0 m pc ls st0) rest (zQc b sa D G y v h' a) (zfree b y)) (h2 : zSl b s cl H locs)
    (kk : ∀ (H1 : Heap) (locs1 : List Loc), zP b sa D G h' H1 → (∀ w, v = some w → zvk h'.1 w) → zSl b s (cl && zpu y) H1 locs1 → W p l e R s m args below meth c H1 locs1 (cells + mc) (slots + ms) Q (F0 m (pc + 3) ls ((v.map (zvl b sa)).toList ++ rest))) :
    W p l e R s m args below meth c H locs cells slots Q (F0 m pc ls st0) := by
  intro T hT X
  obtain ⟨v', st₀, t, T', L, h0, X', hL, e1, e2, ⟨⟨hv, hp, hb⟩, ⟨hz, hk⟩, hpu⟩, stp⟩ := hr T hT X
  cases hv
  rw [h0] at hz hk hpu
  obtain ⟨t2, a1, b1⟩ := kk T'.heap (locs ++ L) (by rw [e1]; exact hp) hb
    ⟨⟨Nat.le_trans h2.1.1 (by rw [e1]; exact hz), fun q g1 g2 => by rw [e1, hk q (Nat.lt_of_lt_of_le g1 h2.1.1) g2]; exact h2.1.2.1 q g1 g2, fun q hq => by
      rcases List.mem_append.mp hq with g | g
      · exact h2.1.2.2 q g
      · exact (hL q g).1⟩, fun hcl => by
      rw [Bool.and_eq_true] at hcl
      have hL0 : L = [] := by
        cases L with
        | nil => rfl
        | cons q L => exact absurd (hL q List.mem_cons_self).2 (by rw [hcl.2]; decide)
      obtain ⟨g1, g2⟩ := h2.2 hcl.1
      exact ⟨by rw [e1, hpu hcl.2]; exact g1, by rw [hL0, g2]; rfl⟩⟩ T' rfl X'
  exact ⟨t2, stp t2 a1, b1⟩
end CALL
