/-! A call whose callee throws, and the handler of the caller that takes it -/
/-- what a method that throws promises -/
def zMx (l : Launch) (y mc ms b sa : Nat) (D : va_G) (G : Nat → ClassId) (sc : zC) (h : zS) (as : List zV) (ea : Nat × zA) (h' : zS) : Prop :=
  MetFree l (zyn y) (headSpec (zws y) (zrm y mc ms)) (zPc b sa D G sc h as) (fun _ _ _ _ _ => True) (fun a st o t => zQx b sa D G ea h' a st o t ∧ st.WarmedH t.vm ∧ st.sameButNew ({ t with vm := st.vm } : State) [] mc ms)
theorem z_metX {l : Launch} {sc : zC} {y : Nat} {as : List zV} {h h' : zS} {ea : Nat × zA} (hy : zmy y = true) (hno : zno as = true) (hlen : as.length ≤ zmax y) (S : zSok l sc y 0 true (as.map some) [] h (.inr ea, h')) (b sa : Nat) (D : va_G) (G : Nat → ClassId) :
    zMx l y (h'.1 - h.1) (h'.2.1 - h.2.1) b sa D G sc h as ea h' := by
  obtain ⟨f1, f2, f3, f4, f5, f6, f7⟩ := zF_m hy
  have hc := zno_of hno
  refine MetFree.of_bodyS (code := zby y) (maxLocals := zmax y) (ret := zrT y) f2.1 ?_ ?_
  · intro args s m h hn
    obtain ⟨meth, c, h1, h2, h3, h4, h5, h6, -, -⟩ := Cond.code_spec hn (atoms_spec (ws := zws y) h _ List.mem_cons_self)
    exact ⟨meth, c, h1, h2, h3, h4, h5, h6⟩
  · intro p e s m args below meth c s₁ B hml hv _
    obtain ⟨rfl, hP, hE, hst⟩ := hv
    have hts := atoms_spec (ws := zws y) B.pre
    have X : zX p (headSpec (zws y) (zrm y (h'.1 - h.1) (h'.2.1 - h.2.1))).room s m (as.map (zvl b sa)).toArray meth c y b sa D G sc :=
      ⟨B.exec, B.bytes, hml, by rw [← f4]; exact findClass_of_methodNamed B.named, fun w hw => hts w (List.mem_cons_of_mem _ hw), hE.1, hE.2.1, hE.2.2.1, fun hi => by rw [(name_of_methodNamed B.named B.method).1]; exact f6 hi, ⟨B.notSynchronized, rfl, rfl, B.returns, hE.2.2.2.2, by rw [zHn, zhh_no hy]; exact zlist_nil (B.noHandlers (hts _ List.mem_cons_self))⟩, hE.2.2.2.1⟩
    have hl := lv_entry (as.map (zvl b sa)) (n := zmax y) (by rw [lg_len as hc]; exact hlen)
    have hw := fun ls (hl : lv_has ls (zmax y) (lv_args 0 (as.map (zvl b sa)))) => S p e _ s m _ below meth c b sa D G h.1 h.2.1 X hP.1 (Nat.le_refl _) (Nat.le_refl _) (Nat.le_refl _) (Nat.le_refl _) s.heap [] ls hP ⟨va_S.rf, fun _ => ⟨rfl, rfl⟩⟩
      ⟨hl.1, hl.2.1, fun j w hj => by
        have h1 := zget_map as j w hj
        have h2 := lv_args_at (b := b) (sa := sa) as 0 j w hc h1
        rw [Nat.zero_add] at h2
        exact ⟨hl.2.2 _ h2, zcat1 (hc w (List.mem_of_getElem? h1)), hst w (List.mem_of_getElem? h1)⟩⟩ zst_n
    have hw := hw _ hl
    rw [Nat.sub_self, Nat.sub_self] at hw
    have hh0 : s₁.heap = s.heap := by rw [B.state]; rfl
    obtain ⟨t, a1, o, b1, b2, b3, b4, b5⟩ := hw s₁ hh0 (Stand.of_body B)
    exact ⟨t, o, by rw [lg_entry_eq]; exact a1, b1, b2, b3, b4, b5⟩
section THR
variable {p : Program} {l : Launch} {e : Env} {R : Room} {s : State} {m : MethodId} {args : Array Value} {below : List Frame} {meth : Method} {c : Code} {T : State} {locs : List Loc} {cells slots : Nat}
/-- the callee threw: the note lies over the caller's frame, nothing old was written -/
theorem z_callX (X : Stand p l e R s m args below meth c T locs cells slots) (hexec : p.tables.exec = Jvm.exec) {own : String} {index y mc ms b sa : Nat} {D : va_G} {G : Nat → ClassId} {sc : zC} {h h' : zS} {as : List zV} {ea : Nat × zA} {argsL : List Value} {recv : Addr}
    (hown : s.vm.findClass own = some m.cls) (hlink : (Cond.methodLink own index (zyn y)).before args s = true) (hinst : (Cond.instanceMethod (zyn y)).before args s = true) (hsel : (Cond.selects (zyn y).cls (zyn y) (zyn y)).before args s = true)
    (hcode : (Cond.code (zyn y) (zby y) (zmax y) (zrT y)).before args s = true) (hy : (zyn y).cls ≠ "java/lang/invoke/MethodHandle" ∧ (zyn y).cls ≠ "java/lang/invoke/VarHandle") (hini : (Cond.initialized (zyn y).cls).before args s = true)
    (hws : ∀ w ∈ zws y, ∀ (a' : Array Value) (U : State), s.WarmedH U.vm → w.before a' U = true)
    (hM : zMx l y mc ms b sa D G sc h as ea h') (hfr : zfr y + 1 ≤ R.frames) (hlo : 8 + (zmax y + 11) + zlw y ≤ R.locals) (hc1 : cells + mc ≤ R.cells) (hs1 : slots + ms ≤ R.slots)
    {cellB : Cell} (hcell : T.heap[recv]? = some cellB) (hobj : cellB.vm.isStatics = false) (hcls : s.vm.findClass (zyn y).cls = some cellB.cls) (hargs : Value.ref recv :: argsL = as.map (zvl b sa))
    {g : JFrame} (hg : g.method = m) (hsize : g.locals.size = c.maxLocals) {rest : List Value} (hlen : ∀ sig, parseMethodDescriptor (zyn y).desc = some sig → argsL.length = sig.parameters.length)
    (hstack : g.stack = argsL.reverse ++ .ref recv :: rest) (hW : 2 * g.monitorRoom + (rest.map fun v => v.category).sum ≤ 8) (hdg : decode c.code g.pc = .ok (.invokevirtual index, 3))
    (hpre : ∀ U : State, U.heap = T.heap → s.WarmedH U.vm → zPc b sa D G sc h as (as.map (zvl b sa)).toArray U) :
    ∃ (U : State) (st : State), st.heap = T.heap ∧ Stand p l e R s m args below meth c U locs (cells + mc) (slots + ms) ∧ zQx b sa D G ea h' (as.map (zvl b sa)).toArray st (.threw (zad b sa ea.2)) U ∧
      ∀ target, Steps p.tables e below ((U.setTop { g with stack := rest }).pushFrame (.throwing (zad b sa ea.2))) target → Steps p.tables e below (T.setTop g) target := by
  obtain ⟨mk, methM, hnamed, hmethM, hstM, habM⟩ := Cond.instanceMethod_spec hinst
  obtain ⟨methM', cM, hmethM', hcM, -, hlM, -, -, -, hsigM⟩ := Cond.code_spec hnamed hcode
  cases hmethM.symm.trans hmethM'
  obtain ⟨c2, r2, m2, q1, q2, q3, q4, kP, hkP, hkPi⟩ := Cond.selects_spec hsel
  cases hcls.symm.trans q1
  cases (State.methodFound?_of_named hnamed hy).symm.trans q2
  cases hnamed.symm.trans q3
  have hselP : selectMethod e.platform s.vm cellB.cls mk = .method mk := by rw [Launch.admits_selectMethod X.admits]; exact q4
  obtain ⟨vm₁, X₁, hstep₁⟩ := X.invokevirtual hexec hown hlink hnamed hmethM hstM hkP hkPi hy (a := recv) (cell := cellB) hcell
    (fun z h => by rw [h] at hobj; cases hobj) hselP hmethM habM hkP hkPi (g := g) hg (argsL := argsL) (rest := rest) (hlen _ hsigM) hstack hdg
  rw [hargs] at hstep₁
  generalize hg0 : ({ g with stack := rest } : JFrame) = g0 at hstep₁ ⊢
  have hg0m : g0.method = m := by rw [← hg0]; exact hg
  have hg0p : g0.pc = g.pc := by rw [← hg0]
  have hg0l : g0.locals.size = c.maxLocals := by rw [← hg0]; exact hsize
  have hg0s : 2 * g0.monitorRoom + (g0.stack.map fun v => v.category).sum ≤ 8 := by rw [← hg0]; exact hW
  have hAt : At (T.setVm vm₁) g0.method c below := by rw [hg0m]; exact X₁.here
  have hn1 : (T.setVm vm₁).methodNamed? (zyn y) = some mk := X₁.named hnamed
  obtain ⟨kY, hkY, -⟩ := className_of_methodNamed hn1
  have hini1 : (Cond.initialized (zyn y).cls).before #[] (T.setVm vm₁) = true := word_at X₁.warmed (Or.inl (by first | rfl | simp [Cond.onTables, Cond.keeps, Cond.steady])) hini
  have hinitY : kY.init = .initialized := Cond.initialized_spec (findClass_of_methodNamed hn1) hkY hini1
  obtain ⟨methY, cY, hmY, hcY, -, hlY, -, -, -, -⟩ := Cond.code_spec hn1 (hws _ List.mem_cons_self #[] (T.setVm vm₁) X₁.warmed)
  have happ : (headSpec (zws y) (zrm y mc ms)).appliesLoose (zyn y) e.platform ((T.setVm vm₁).calling g0 mk (as.map (zvl b sa)).toArray) = true :=
    Spec.appliesLoose_calling (g := g0) hAt (by rw [hg0p]; exact hdg) hn1 hkY hinitY
      (X₁.room_calling (g := g0) (R' := (headSpec (zws y) (zrm y mc ms)).room) hg0l hmY hcY hfr (by rw [hlY]; show _ + _ + zlw y ≤ _; omega) hc1 hs1) (atoms_intro fun w hw => hws w hw _ _ X₁.warmed)
  obtain ⟨mid, hmid⟩ := hAt.above
  have hfr1 : ((T.setVm vm₁).setTop g0).frames = (.java g0 :: mid) ++ below := by rw [State.frames_setTop' g0 hAt.top, hmid]; rfl
  obtain ⟨o, s₂, hsteps, -, hend, hq⟩ := Steps.callFree hM p X.admits X.cas X.clock (acts := []) hfr1 happ (zPc_blind _ _ g0 mk (hpre _ rfl X₁.warmed)) trivial
  obtain ⟨hqx, hW₂, e2, u2, u3, u4, u5, u6⟩ := hq
  have ho : o = .threw (zad b sa ea.2) := hqx.1.1
  subst ho
  have hend : s₂.frames = .throwing (zad b sa ea.2) :: ((T.setVm vm₁).setTop g0).frames := hend
  rw [State.frames_setTop' g0 hAt.top] at hend
  have e3 : s₂ = ({ ((T.setVm vm₁).calling g0 mk (as.map (zvl b sa)).toArray).setFrames s₂.frames with heap := s₂.heap, slotsUsed := s₂.slotsUsed } : State).setVm s₂.vm := by
    have q : s₂ = ({ s₂ with vm := ((T.setVm vm₁).calling g0 mk (as.map (zvl b sa)).toArray).vm } : State).setVm s₂.vm := rfl
    have e2' : ({ s₂ with vm := ((T.setVm vm₁).calling g0 mk (as.map (zvl b sa)).toArray).vm } : State) = ({ ((T.setVm vm₁).calling g0 mk (as.map (zvl b sa)).toArray).setFrames s₂.frames with heap := s₂.heap, slotsUsed := s₂.slotsUsed } : State) := e2
    rw [e2'] at q
    exact q
  have hW' : (T.setVm vm₁).WarmedH s₂.vm := hW₂
  obtain ⟨g₀, hg0'⟩ := Option.isSome_iff_exists.mp hAt.top
  obtain ⟨r, hr⟩ := State.topJava?_eq_some.mp hg0'
  have hr' : (({ T.setVm vm₁ with heap := s₂.heap, slotsUsed := s₂.slotsUsed } : State).setVm s₂.vm).frames = .java g₀ :: r := hr
  obtain ⟨th, hth, -⟩ := State.frames_cons hr
  have hs₂ : s₂ = ((({ T.setVm vm₁ with heap := s₂.heap, slotsUsed := s₂.slotsUsed } : State).setVm s₂.vm).setTop g0).pushFrame (.throwing (zad b sa ea.2)) := by
    refine e3.trans ?_
    rw [hend, State.calling_eq hAt.top, State.setFrames_setFrames, State.setTop_of_frames _ hr', State.pushFrame, State.setFrames_setFrames, hr]
    have hfrm : ((({ T.setVm vm₁ with heap := s₂.heap, slotsUsed := s₂.slotsUsed } : State).setVm s₂.vm).setFrames (.java g0 :: r)).frames = .java g0 :: r := State.frames_setFrames _ (Array.getElem?_eq_some_iff.mp hth).1
    rw [hfrm]
    rfl
  have hsame : (T.setVm vm₁).sameButNew ({ T.setVm vm₁ with heap := s₂.heap, slotsUsed := s₂.slotsUsed } : State) [] mc ms := by
    refine ⟨?_, u2, u3, u4, u5, u6⟩
    show ({ T.setVm vm₁ with heap := s₂.heap, slotsUsed := s₂.slotsUsed } : State) = { (T.setVm vm₁).setFrames (T.setVm vm₁).frames with heap := s₂.heap, slotsUsed := s₂.slotsUsed }
    rw [State.setFrames_self hth]
  refine ⟨(({ T.setVm vm₁ with heap := s₂.heap, slotsUsed := s₂.slotsUsed } : State).setVm s₂.vm), (T.setVm vm₁).calling g0 mk (as.map (zvl b sa)).toArray, rfl, ?_, ?_, fun target hrest => hstep₁ _ fun acts => ?_⟩
  · have hst : Stand p l e R s m args below meth c (({ T.setVm vm₁ with heap := s₂.heap, slotsUsed := s₂.slotsUsed } : State).setVm s₂.vm) (locs ++ []) (cells + mc) (slots + ms) :=
      ⟨X₁.admits, X₁.cas, X₁.clock, X₁.frames, X₁.room, X₁.hears, X₁.method, X₁.code, (X₁.here.setHeapUsed s₂.heap s₂.slotsUsed).setVm hW'.alike, X₁.tail, State.WarmedH.trans X₁.warmed hW', X₁.limits, X₁.bytes, X₁.same.trans (hsame.setVm s.vm)⟩
    rw [List.append_nil] at hst
    exact hst
  · exact hqx
  · rw [doInvoke_state]
    refine hsteps.trans ?_
    rw [← hs₂] at hrest
    exact hrest
end THR
