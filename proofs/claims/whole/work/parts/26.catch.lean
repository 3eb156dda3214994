/-! A call that throws, and the handler that takes it -/
def zcv (ct : Nat) : Nat := bif Nat.beq ct 13 then 0 else 1
/-- what the law's class needs for its catches -/
def zLw (s : State) (m : MethodId) (args : Array Value) : Prop := s.vm.findClass R_LW = some m.cls ∧ (Cond.classLink R_LW 13 (zxn 0)).before args s = true ∧ (Cond.classLink R_LW 27 (zxn 1)).before args s = true ∧ (Cond.castable (zxn 0) (zxn 0)).before args s = true ∧ (Cond.castable (zxn 1) (zxn 1)).before args s = true ∧ va_Nc (zxn 0) (zxn 1) s ∧ va_Nc (zxn 1) (zxn 0) s
section CATCH
variable {e : Env} {f : JFrame} {a : Addr}
theorem zgo {Q : Handler → Pre} {E : CtlPost} {d : Bool} {acts : List Action} {S : State} {x : ExceptionTableEntry} {t : List ExceptionTableEntry} {c : ClassId} {cell : Cell} (hx : covers x f.pc = true) (h0 : x.catchType ≠ 0)
    (hl : S.vm.ClassLinks e.platform f.method.cls x.catchType c) (hcell : S.heap[a]? = some cell) (hobj : ∀ k, cell.vm ≠ .statics k) (hk : ∃ k, S.vm.classes[cell.cls]? = some k) (hc : ∃ k, S.vm.classes[c]? = some k) :
    wp (findHandler.go f a (x :: t)) Q E e d acts S ↔ if S.vm.assignable cell.cls c = true then Q (.found x.handlerPc) d acts (S.setVm (S.vm.noted f.method.cls x.catchType (.cls c))) else wp (findHandler.go f a t) Q E e d acts (S.setVm (S.vm.noted f.method.cls x.catchType (.cls c))) := by
  have hx' := hx
  simp only [covers] at hx'
  obtain ⟨r1, r2⟩ := (resolveClass_links e.toSetting hl).op (op := VmOp.resolveClass f.method.cls x.catchType) rfl
  have al : S.vm.Alike (S.vm.noted f.method.cls x.catchType (.cls c)) := (Vm.Alike.refl S.vm).noted _ _ _
  obtain ⟨k1, w1⟩ := hk
  obtain ⟨k2, w2⟩ := hc
  obtain ⟨k3, w3, -⟩ := al.2.2 _ _ w1
  obtain ⟨k4, w4, -⟩ := al.2.2 _ _ w2
  have al2 : (S.vm.noted f.method.cls x.catchType (.cls c)).assignable cell.cls c = S.vm.assignable cell.cls c := by rw [al.assignable]
  cases hf : S.vm.assignable cell.cls c <;> rw [hf] at al2 <;> simp [findHandler.go, hx', h0, r1, r2, hcell, hobj, w3, w4, al2, VmOp.dirties, VmOp.acts]
theorem z_search {s : State} {m : MethodId} {args : Array Value} {ee hp : Nat} {cell : Cell} (hpl : e.platform.magicAccessors = ({} : Platform).magicAccessors) (hL : zLw s m args) (hm : f.method = m) (hee : ee = 0 ∨ ee = 1) (hcls : s.vm.findClass (zxn ee) = some cell.cls) (hobj : ∀ k, cell.vm ≠ .statics k) :
    ∀ (ents : List ExceptionTableEntry) (S : State), s.WarmedH S.vm → S.heap[a]? = some cell → (∀ x ∈ ents, x.catchType = 13 ∨ x.catchType = 27) → zhdF f.pc ee (ents.map (fun h => (h.startPc, h.endPc, h.handlerPc, zcv h.catchType))) = some hp →
      ∃ vm', s.WarmedH vm' ∧ ∀ (Q : Handler → Pre) (E : CtlPost) (d : Bool) (acts : List Action), wp (findHandler.go f a ents) Q E e d acts S ↔ Q (.found hp) d acts (S.setVm vm') := by
  obtain ⟨l1, l2, l3, l4, l5, l6, l7⟩ := hL
  obtain ⟨kc, hkc⟩ := Vm.classAt_of_findClass hcls
  intro ents
  induction ents with
  | nil => intro S _ _ _ h; cases h
  | cons x t ih =>
    intro S hW hcell hct hz
    have hct' : ∀ y ∈ t, y.catchType = 13 ∨ y.catchType = 27 := fun y hy => hct y (List.mem_cons_of_mem _ hy)
    cases hx : covers x f.pc with
    | false =>
      have hz' : zhdF f.pc ee (t.map (fun h => (h.startPc, h.endPc, h.handlerPc, zcv h.catchType))) = some hp := by
        have hb : (Nat.ble x.startPc f.pc && (Nat.blt f.pc x.endPc && Nat.beq ee (zcv x.catchType))) = false := by
          cases hq : Nat.ble x.startPc f.pc && (Nat.blt f.pc x.endPc && Nat.beq ee (zcv x.catchType)) with
          | false => rfl
          | true =>
            simp only [Bool.and_eq_true] at hq
            have a1 := Nat.le_of_ble_eq_true hq.1
            have a2 : f.pc < x.endPc := Nat.le_of_ble_eq_true hq.2.1
            simp [covers, a1, a2] at hx
        rw [List.map_cons] at hz
        unfold zhdF at hz
        rw [hb] at hz
        exact hz
      obtain ⟨vm', w1, w2⟩ := ih S hW hcell hct' hz'
      exact ⟨vm', w1, fun Q E d acts => by rw [W.findHandler_go_skip hx]; exact w2 Q E d acts⟩
    | true =>
      have hcv : x.startPc ≤ f.pc ∧ f.pc < x.endPc := by simpa [covers] using hx
      have hc0 : x.catchType ≠ 0 := by rcases hct x List.mem_cons_self with q | q <;> omega
      have hk' : ∃ k, S.vm.classes[cell.cls]? = some k := by
        obtain ⟨k', w, -⟩ := hW.alike.2.2 _ _ hkc
        exact ⟨k', w⟩
      obtain ⟨cT, hT, hlk⟩ : ∃ cT, s.vm.findClass (zxn (zcv x.catchType)) = some cT ∧ s.vm.ClassLinks e.platform m.cls x.catchType cT := by
        rcases hct x List.mem_cons_self with q | q <;> rw [q]
        · exact Cond.classLink_spec l1 l2 e.platform hpl
        · exact Cond.classLink_spec l1 l3 e.platform hpl
      obtain ⟨dk, _, _, kt, hd, _, _, _, _, hkt, _, hopen⟩ := hlk.here
      have hW' : s.WarmedH (S.vm.noted f.method.cls x.catchType (.cls cT)) := by rw [hm]; exact hW.noted hd hopen (State.rightAt_cls hlk)
      have hkT : ∃ k, S.vm.classes[cT]? = some k := by
        obtain ⟨k', w, -⟩ := hW.alike.2.2 _ _ hkt
        exact ⟨k', w⟩
      have hgo := fun (Q : Handler → Pre) (E : CtlPost) (d : Bool) (acts : List Action) => zgo (e := e) (f := f) (a := a) (Q := Q) (E := E) (d := d) (acts := acts) (t := t) hx hc0 (by rw [hm]; exact hW.classLinks hlk) hcell hobj hk' hkT
      by_cases hq : ee = zcv x.catchType
      · have hz' : x.handlerPc = hp := by
          have hb : (Nat.ble x.startPc f.pc && (Nat.blt f.pc x.endPc && Nat.beq ee (zcv x.catchType))) = true := by
            simp only [Bool.and_eq_true]
            exact ⟨Nat.ble_eq_true_of_le hcv.1, Nat.ble_eq_true_of_le hcv.2, by rw [hq]; exact Nat.beq_refl _⟩
          rw [List.map_cons] at hz
          unfold zhdF at hz
          rw [hb] at hz
          exact Option.some.inj hz
        subst hz'
        rw [← hq] at hT
        have ecT : cT = cell.cls := Option.some.inj (hT.symm.trans hcls)
        have has : S.vm.assignable cell.cls cT = true := by
          rw [hW.alike.assignable, ecT]
          rcases hee with q | q <;> subst q
          · obtain ⟨c1, c2, k1, k2, k3⟩ := Cond.castable_spec l4
            cases k1.symm.trans k2
            cases k1.symm.trans hcls
            exact k3
          · obtain ⟨c1, c2, k1, k2, k3⟩ := Cond.castable_spec l5
            cases k1.symm.trans k2
            cases k1.symm.trans hcls
            exact k3
        exact ⟨_, hW', fun Q E d acts => by rw [hgo Q E d acts, if_pos has]⟩
      · have has : ¬ S.vm.assignable cell.cls cT = true := by
          rw [hW.alike.assignable]
          have hz2 : zcv x.catchType = 0 ∨ zcv x.catchType = 1 := by rcases hct x List.mem_cons_self with q | q <;> rw [q] <;> decide
          rcases hee with q | q <;> rcases hz2 with w | w <;> subst q <;> rw [w] at hq hT
          · exact absurd rfl hq
          · obtain ⟨c1, c2, k1, k2, k3⟩ := l6
            cases k1.symm.trans hcls
            cases k2.symm.trans hT
            rw [k3]
            decide
          · obtain ⟨c1, c2, k1, k2, k3⟩ := l7
            cases k1.symm.trans hcls
            cases k2.symm.trans hT
            rw [k3]
            decide
          · exact absurd rfl hq
        have hz' : zhdF f.pc ee (t.map (fun h => (h.startPc, h.endPc, h.handlerPc, zcv h.catchType))) = some hp := by
          have hb : (Nat.ble x.startPc f.pc && (Nat.blt f.pc x.endPc && Nat.beq ee (zcv x.catchType))) = false := by
            cases hq2 : Nat.ble x.startPc f.pc && (Nat.blt f.pc x.endPc && Nat.beq ee (zcv x.catchType)) with
            | false => rfl
            | true =>
              simp only [Bool.and_eq_true] at hq2
              exact absurd (Nat.eq_of_beq_eq_true hq2.2.2) hq
          rw [List.map_cons] at hz
          unfold zhdF at hz
          rw [hb] at hz
          exact hz
        obtain ⟨vm', w1, w2⟩ := ih (S.setVm (S.vm.noted f.method.cls x.catchType (.cls cT))) hW' hcell hct' hz'
        exact ⟨vm', w1, fun Q E d acts => by rw [hgo Q E d acts, if_neg has]; exact w2 Q E d acts⟩
end CATCH
/-- the step from the note to the handler, the tables warmer -/
theorem z_caught {tb : Tables} {e : Env} {T target : State} {g : JFrame} {c : Code} {below : List Frame} {a : Addr} (h : At T g.method c below) {pc : Nat} {vm' : Vm}
    (hfind : ∀ (Q : Handler → Pre) (E : CtlPost) (d : Bool) (acts : List Action), wp (findHandler g a) Q E e d acts ((T.setTop g).pushFrame (.throwing a)) ↔ Q (.found pc) d acts (((T.setTop g).pushFrame (.throwing a)).setVm vm'))
    (hrest : Steps tb e below ((T.setVm vm').setTop { g with pc := pc, stack := [.ref a] }) target) : Steps tb e below ((T.setTop g).pushFrame (.throwing a)) target := by
  obtain ⟨hgo, hw⟩ := h.throwing a
  refine Steps.head hgo hw ?_
  have hIs : ∀ r : List Frame, (stepThrowing e ((T.setTop g).pushFrame (.throwing a)) a (.java g :: r)).Is ((((T.setTop g).pushFrame (.throwing a)).setVm vm').setFrames (.java { g with pc := pc, stack := [.ref a] } :: r)) [] := by
    intro r
    simp only [stepThrowing, searchFrame, vmDo]
    generalize hr : Sem.go _ e false [] ((T.setTop g).pushFrame (.throwing a)) = res
    obtain ⟨as, rfl, ha⟩ := Sem.eq_ok_of hr (a := Handler.found pc) (s' := ((T.setTop g).pushFrame (.throwing a)).setVm vm') (acts' := []) (by simp [hfind _ _ _ _])
    exact ⟨rfl, ha⟩
  rw [stepThread_throwing (frames_entered h.top _), (hIs _).1]
  obtain ⟨g₀, hg⟩ := Option.isSome_iff_exists.mp h.top
  obtain ⟨r, hr⟩ := State.topJava?_eq_some.mp hg
  have hr' : (T.setVm vm').frames = .java g₀ :: r := hr
  have flip : ∀ (u : State) (F K : List Frame), ((u.setFrames F).setVm vm').setFrames K = (u.setVm vm').setFrames K := fun u F K => by
    have q : (u.setFrames F).setVm vm' = (u.setVm vm').setFrames F := rfl
    rw [q, State.setFrames_setFrames]
  rw [State.setTop_of_frames _ hr'] at hrest
  rw [hr, List.tail_cons, State.pushFrame, flip, State.setTop_of_frames _ hr, flip]
  exact hrest
