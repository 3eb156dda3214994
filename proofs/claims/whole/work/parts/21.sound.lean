/-! The machine is sound: what zt says, the JVM does -/
/-- the end of a method that throws: its exception's cell, its class -/
def zQx (b sa : Nat) (D : va_G) (G : Nat → ClassId) (ea : Nat × zA) (h : zS) : Array Value → State → Outcome → State → Prop :=
  fun _ st oc t => (oc = .threw (zad b sa ea.2) ∧ zP b sa D G h t.heap ∧ 90 ≤ ea.2.1 ∧ ∃ cell : Cell, t.heap[zad b sa ea.2]? = some cell ∧ t.vm.findClass (zxn ea.1) = some cell.cls ∧ cell.vm = .none) ∧ va_F (fun q => b ≤ q) st t
/-- the end of a method: as the kit has it where it answers; where it throws, nothing old was written -/
def zMQ (below : List Frame) (Qc : Array Value → State → Outcome → State → Prop) (a : Array Value) (s : State) (mc ms : Nat) : State → Prop := fun t =>
  ∃ o, t.status = .running ∧ Ended t below o ∧ Qc a s o t ∧ s.WarmedH t.vm ∧ s.sameButNew ({ t with vm := s.vm } : State) [] mc ms
def zFin (b sa : Nat) (D : va_G) (G : Nat → ClassId) (y : Nat) (r : zR) (below : List Frame) (args : Array Value) (s : State) (n0 s0 : Nat) : State → Prop := match r.1 with
  | .inl v => MQ below (zQc b sa D G y v r.2) args s (r.2.1 - n0) (r.2.2.1 - s0) (zfree b y)
  | .inr ea => zMQ below (zQx b sa D G ea r.2) args s (r.2.1 - n0) (r.2.2.1 - s0)
def zSok (l : Launch) (sc : zC) (μ pc : Nat) (cl : Bool) (lv : zL) (st : List zV) (h : zS) (r : zR) : Prop :=
  ∀ (p : Program) (e : Env) (R : Room) (s : State) (m : MethodId) (args : Array Value) (below : List Frame) (meth : Method) (c : Code) (b sa : Nat) (D : va_G) (G : Nat → ClassId) (n0 s0 : Nat),
    zX p R s m args meth c μ b sa D G sc → s.heap.size = b + n0 → n0 ≤ h.1 → s0 ≤ h.2.1 → r.2.1 - n0 ≤ R.cells → r.2.2.1 - s0 ≤ R.slots →
    zq p l e R s m args below meth c b sa D G n0 s0 μ (zFin b sa D G μ r below args s n0 s0) cl h pc lv st
section RET
variable {p : Program} {l : Launch} {e : Env} {R : Room} {s : State} {m : MethodId} {args : Array Value} {below : List Frame} {meth : Method} {c : Code}
variable {b sa : Nat} {D : va_G} {G : Nat → ClassId} {sc : zC} {n0 s0 μ : Nat} {cl : Bool} {h : zS} {pc : Nat} {lv : zL} {st : List zV}
theorem zrt_sound (X : zX p R s m args meth c μ b sa D G sc) {i : Instr} {n : Nat} {v : Option zV} (d : decode (zby μ) pc = .ok (i, n)) (hl : zln i n = true) (hpu : (!zpu μ || cl) = true) (hk : zrt False μ i st (fun w => w = v)) :
    zq p l e R s m args below meth c b sa D G n0 s0 μ (MQ below (zQc b sa D G μ v h) args s (h.1 - n0) (h.2.1 - s0) (zfree b μ)) cl h pc lv st := by
  have hr := X.2.2.2.2.2.2.2.2.2.1.2.2.2.1
  have hlk := X.2.2.2.2.2.2.2.2.2.1.1
  have hpu' : zpu μ = true → cl = true := fun q => by
    rw [q] at hpu
    exact hpu
  have hfr : ∀ {H : Heap} {locs : List Loc}, zSl b s cl H locs → ∀ {q : Loc}, q ∈ locs → zpu μ = false := fun {H locs} h2 {q} hq => by
    cases hz : zpu μ with
    | false => rfl
    | true =>
      rw [(h2.2 (hpu' hz)).2] at hq
      cases hq
  cases i
  case ireturn =>
    obtain rfl := zln_n hl (fun _ _ _ _ q => by cases q)
    simp only [zrt] at hk
    split at hk
    · next x =>
      obtain ⟨e1, hk⟩ := zbif hk
      subst hk
      obtain ⟨ty, t1, t2⟩ : ∃ ty, zrT μ = some ty ∧ narrow ty (.int x) = .int x := by
        simp only [Bool.or_eq_true, Bool.and_eq_true] at e1
        rcases e1 with q | q
        · exact ⟨.int, zF_r1 (Nat.eq_of_beq_eq_true q), rfl⟩
        · exact ⟨.boolean, zF_r2 (Nat.eq_of_beq_eq_true q.1), zbit_nar q.2⟩
      intro H locs ls h1 h2 h3 h4
      exact W.zret X.1 X.2.1 (hr.trans t1) t2 (fun t ht hW => ⟨⟨rfl, by rw [ht]; exact h1, fun w hw => by cases hw; trivial⟩, h2.1.F ht, fun q => by rw [ht]; exact (h2.2 (hpu' q)).1⟩) (fun q hq => ⟨h2.1.2.2 q hq, hfr h2 hq⟩) d hlk
    · exact hk.elim
  case areturn =>
    obtain rfl := zln_n hl (fun _ _ _ _ q => by cases q)
    simp only [zrt] at hk
    split at hk
    · next a =>
      obtain ⟨e1, hk⟩ := zbif hk
      subst hk
      obtain ⟨ty, t1, t2⟩ := zF_r3 (Nat.eq_of_beq_eq_true e1)
      intro H locs ls h1 h2 h3 h4
      exact W.aret X.1 X.2.1 (hr.trans t1) t2 (Or.inr ⟨_, rfl⟩) (fun t ht hW => ⟨⟨rfl, by rw [ht]; exact h1, fun w hw => by cases hw; exact zst_h h4⟩, h2.1.F ht, fun q => by rw [ht]; exact (h2.2 (hpu' q)).1⟩) (fun q hq => ⟨h2.1.2.2 q hq, hfr h2 hq⟩) d hlk
    · exact hk.elim
  case return_ =>
    obtain rfl := zln_n hl (fun _ _ _ _ q => by cases q)
    simp only [zrt] at hk
    split at hk
    · obtain ⟨e1, hk⟩ := zbif hk
      subst hk
      intro H locs ls h1 h2 h3 h4
      exact W.vret X.1 X.2.1 (hr.trans (zF_r0 (Nat.eq_of_beq_eq_true e1))) (fun t ht hW => ⟨⟨rfl, by rw [ht]; exact h1, fun w hw => by cases hw⟩, h2.1.F ht, fun q => by rw [ht]; exact (h2.2 (hpu' q)).1⟩) (fun q hq => ⟨h2.1.2.2 q hq, hfr h2 hq⟩) d hlk
    · exact hk.elim
  all_goals exact hk.elim
end RET
/-- arguments as locals -/
theorem zget_map : ∀ (as : List zV) (j : Nat) (v : zV), zget (as.map some) j = some v → as[j]? = some v
  | [], _, _, h => by cases h
  | x :: as, 0, v, h => by
    have h : some x = some v := h
    cases h
    rfl
  | x :: as, j + 1, v, h => by
    have := zget_map as j v h
    simpa using this
theorem lv_args_at {b sa : Nat} : ∀ (as : List zV) (i j : Nat) (v : zV), (∀ w ∈ as, ∀ q, w ≠ .inr (.inr q)) → as[j]? = some v → (i + j, zvl b sa v) ∈ lv_args i (as.map (zvl b sa))
  | [], _, _, _, _, h => by simp at h
  | x :: as, i, 0, v, hc, h => by
    simp at h
    subst h
    exact List.mem_cons_self
  | x :: as, i, j + 1, v, hc, h => by
    have h1 : (zvl b sa x).category = 1 := zcat1 (hc x List.mem_cons_self)
    have h2 := lv_args_at (b := b) (sa := sa) as (i + 1) j v (fun w hw => hc w (List.mem_cons_of_mem _ hw)) (by simpa using h)
    rw [show i + 1 + j = i + (j + 1) by omega] at h2
    show _ ∈ (i, zvl b sa x) :: lv_args (if (zvl b sa x).category = 2 then i + 2 else i + 1) (as.map (zvl b sa))
    rw [h1, if_neg (by decide)]
    exact List.mem_cons_of_mem _ h2
theorem lg_len {b sa : Nat} (as : List zV) (hc : ∀ w ∈ as, ∀ q, w ≠ .inr (.inr q)) : (lg_sl (as.map (zvl b sa))).length = as.length := by
  induction as with
  | nil => rfl
  | cons x as ih =>
    have h1 : (zvl b sa x).category = 1 := zcat1 (hc x List.mem_cons_self)
    have h2 := ih (fun w hw => hc w (List.mem_cons_of_mem _ hw))
    simp only [lg_sl, List.map_cons, List.flatMap_cons, List.length_append, List.length_cons] at h2 ⊢
    rw [h2, h1, if_neg (by decide)]
    simp only [List.length_cons, List.length_nil]
    omega
theorem zno_of {as : List zV} (h : zno as = true) : ∀ w ∈ as, ∀ q, w ≠ .inr (.inr q) := by
  induction as with
  | nil => intro w hw; cases hw
  | cons x as ih =>
    intro w hw q hq
    match x, h with
    | .inl _, h =>
      rcases List.mem_cons.mp hw with e | e
      · rw [e] at hq; cases hq
      · exact ih h w e q hq
    | .inr (.inl _), h =>
      rcases List.mem_cons.mp hw with e | e
      · rw [e] at hq; cases hq
      · exact ih h w e q hq
theorem zlist_nil {x : Array ExceptionTableEntry} (h : x.isEmpty = true) : x.toList.map (fun h => (h.startPc, h.endPc, h.handlerPc, h.catchType)) = [] := by
  have : x = #[] := by simpa using h
  rw [this]
  rfl
theorem zhh_no {y : Nat} (h : zmy y = true) : zhh y = [] := by
  unfold zhh
  split <;> first | rfl | (cases h; done)
theorem z_met {l : Launch} {sc : zC} {y : Nat} {as : List zV} {h h' : zS} {v : Option zV} (hy : zmy y = true) (hno : zno as = true) (hlen : as.length ≤ zmax y) (m1 : h.1 ≤ h'.1) (m2 : h.2.1 ≤ h'.2.1) (S : zSok l sc y 0 true (as.map some) [] h (.inl v, h')) (b sa : Nat) (D : va_G) (G : Nat → ClassId) :
    Met l (zyn y) (zws y) (zrm y (h'.1 - h.1) (h'.2.1 - h.2.1)) (zPc b sa D G sc h as) (zQc b sa D G y v h') (h'.1 - h.1) (h'.2.1 - h.2.1) (zfree b y) := by
  obtain ⟨f1, f2, f3, f4, f5, f6, f7⟩ := zF_m hy
  have hc := zno_of hno
  refine Met.ofW (cc := zby y) (maxL := zmax y) (ret := zrT y) f2.1 rfl ?_
  intro p e s m args below meth c s₁ B hml hv
  obtain ⟨rfl, hP, hE, hst⟩ := hv
  have hts := atoms_spec (ws := zws y) B.pre
  have X : zX p (headSpec (zws y) (zrm y (h'.1 - h.1) (h'.2.1 - h.2.1))).room s m (as.map (zvl b sa)).toArray meth c y b sa D G sc :=
    ⟨B.exec, B.bytes, hml, by rw [← f4]; exact findClass_of_methodNamed B.named, fun w hw => hts w (List.mem_cons_of_mem _ hw), hE.1, hE.2.1, hE.2.2.1, fun hi => by rw [(name_of_methodNamed B.named B.method).1]; exact f6 hi, ⟨B.notSynchronized, rfl, rfl, B.returns, hE.2.2.2.2, by rw [zHn, zhh_no hy]; exact zlist_nil (B.noHandlers (hts _ List.mem_cons_self))⟩, hE.2.2.2.1⟩
  have hl := lv_entry (as.map (zvl b sa)) (n := zmax y) (by rw [lg_len as hc]; exact hlen)
  rw [lg_entry_eq]
  generalize (lg_sl (as.map (zvl b sa)) ++ List.replicate (zmax y - (lg_sl (as.map (zvl b sa))).length) Slot.unset).toArray = ls at hl ⊢
  have hw := S p e _ s m _ below meth c b sa D G h.1 h.2.1 X hP.1 (Nat.le_refl _) (Nat.le_refl _) (Nat.le_refl _) (Nat.le_refl _) s.heap [] ls hP ⟨va_S.rf, fun _ => ⟨rfl, rfl⟩⟩
    ⟨hl.1, hl.2.1, fun j w hj => by
      have h1 := zget_map as j w hj
      have h2 := lv_args_at (b := b) (sa := sa) as 0 j w hc h1
      rw [Nat.zero_add] at h2
      exact ⟨hl.2.2 _ h2, zcat1 (hc w (List.mem_of_getElem? h1)), hst w (List.mem_of_getElem? h1)⟩⟩ zst_n
  rw [Nat.sub_self, Nat.sub_self] at hw
  exact hw
theorem zrec_v {j y : Nat} {as : List zV} (h : zrec (.invokevirtual j) y as = true) : ∃ a as', as = .inr (.inl a) :: as' ∧ zc a.1 = zown y := by
  unfold zrec at h
  simp only at h
  split at h
  · exact ⟨_, _, rfl, Nat.eq_of_beq_eq_true h⟩
  · cases h
theorem zrec_s {j y : Nat} {as : List zV} (h : zrec (.invokespecial j) y as = true) : ∃ a as', as = .inr (.inl a) :: as' := by
  unfold zrec at h
  simp only at h
  split at h
  · exact ⟨_, _, rfl⟩
  · cases h
section RUN
variable {p : Program} {l : Launch} {e : Env} {R : Room} {s : State} {m : MethodId} {args : Array Value} {below : List Frame} {meth : Method} {c : Code} {Q : State → Prop}
variable {b sa : Nat} {D : va_G} {G : Nat → ClassId} {sc : zC} {n0 s0 μ : Nat} {cl : Bool} {h : zS} {pc : Nat} {lv : zL} {st : List zV}
theorem z_gi {y : Nat} (hy : zmy y = true) : GoodIn gW (zws y) := by
  intro w hw
  rcases List.mem_cons.mp hw with e | e
  · rw [e]
    exact gW_good (fun _ q => q) _ (zF_m hy).1
  · exact gW_good (fun _ q => q) _ e
/-- a call's run: static, of an object, or of a constructor; of its own class, another's, or a nest mate's -/
theorem z_run (X : zX p R s m args meth c μ b sa D G sc) {i : Instr} {y na pl : Nat} {nest : Bool} {as rest : List zV} {v : Option zV} {h' : zS} {mc ms cells slots : Nat} {H : Heap} {locs : List Loc} {ls : Array Slot}
    (hcs : zcs (zown μ) i = some (y, na, pl, nest)) (hy : zmy y = true) (hlen : as.length = na) (hrec : zrec i y as = true) (hcat : zcat rest ≤ 8) (hfr : zfr y + 1 ≤ zfr μ) (hlo : zmax y + 19 + zlw y ≤ zlw μ)
    (hM : Met l (zyn y) (zws y) (zrm y mc ms) (zPc b sa D G sc h as) (zQc b sa D G y v h') mc ms (zfree b y))
    (h1 : zP b sa D G h H) (h2 : zSl b s cl H locs) (h3 : ls.size = zmax μ) (h4 : zst h.1 as) (hf : cells + mc ≤ R.cells ∧ slots + ms ≤ R.slots) (d : decode (zby μ) pc = .ok (i, 3)) :
    va_Run p l e R s m args below meth c H locs cells slots mc ms (F0 m pc ls ((as.reverse ++ rest).map (zvl b sa))) (rest.map (zvl b sa)) (zQc b sa D G y v h' (as.map (zvl b sa)).toArray) (zfree b y) := by
  obtain ⟨f1, f2, f3, f4, f5, f6, f7⟩ := zF_m hy
  have S : CallFix p m c (zby μ) (zmax μ) s args gW (zcn (zown μ)) := ⟨X.1, X.2.1, X.2.2.1, X.2.2.2.1, X.2.2.2.2.1⟩
  have hR : (zrm y mc ms).frames + 1 ≤ R.frames ∧ 8 + (zmax y + 11) + (zrm y mc ms).locals ≤ R.locals := by
    rw [X.2.2.2.2.2.2.2.2.2.1.2.1, X.2.2.2.2.2.2.2.2.2.1.2.2.1]
    show zfr y + 1 ≤ _ ∧ 8 + (zmax y + 11) + zlw y ≤ _
    omega
  have hPre : ∀ U : State, U.heap = H → s.WarmedH U.vm → zPc b sa D G sc h as (as.map (zvl b sa)).toArray U := fun U hU hW => ⟨rfl, by rw [hU]; exact h1, z_env X h1 h2 hU hW, h4⟩
  have hWr : 2 * (F0 m pc ls ((as.reverse ++ rest).map (zvl b sa))).monitorRoom + ((rest.map (zvl b sa)).map fun v => v.category).sum ≤ 8 := by
    show 2 * 0 + _ ≤ 8
    rw [zcat_sum]
    omega
  have hini := X.2.2.2.2.1 _ f3
  obtain ⟨j, ⟨n1, -, n3⟩, hkd⟩ := zF_cs hcs
  have hNa : ∀ k, zpn y = k → (zyn y).cls ≠ "java/lang/invoke/MethodHandle" ∧ (zyn y).cls ≠ "java/lang/invoke/VarHandle" ∧ (parseMethodDescriptor (zyn y).desc).map (fun d => d.parameters.length) = some k := fun k q => ⟨f2.2.1, f2.2.2, by rw [← q]; exact f5⟩
  rcases hkd with ⟨rfl, hk⟩ | ⟨rfl, hk⟩ | ⟨rfl, hk⟩
  · rw [hk, if_neg (by decide)] at n1
    obtain ⟨w1, w2, w3⟩ := f7.2.1 hk
    obtain ⟨a, as', rfl, hza⟩ := zrec_v hrec
    have ha := z_cell (a := a) (zst_h h4) (by rw [hza]; omega)
    have hcell := h1.2.2.1 a ha
    unfold zce at hcell
    rw [if_pos (by rw [hza]; omega)] at hcell
    obtain ⟨cell, q1, q2, q3, -⟩ := hcell
    have hadr : zad b sa a = b + znum a := zad_lv ha
    have hcl : s.vm.findClass (zyn y).cls = some cell.cls := by
      rw [q2, f4, hza, ← zF_nmC _ w3]
      exact (X.2.2.2.2.2.1.1 (zown y) _ (zF_cl w3)).2.1
    have hPv : PreV s H (zyn y).cls (zad b sa a) (zPc b sa D G sc h (.inr (.inl a) :: as')) (as'.map (zvl b sa)) := ⟨zPc_blind, ⟨cell, by rw [hadr]; exact q1, by rw [q3]; rfl, hcl⟩, hPre⟩
    have hstk : (F0 m pc ls (((.inr (.inl a) :: as' : List zV).reverse ++ rest).map (zvl b sa))).stack = (as'.map (zvl b sa)).reverse ++ .ref (zad b sa a) :: rest.map (zvl b sa) := by
      show (((.inr (.inl a) :: as' : List zV).reverse ++ rest).map (zvl b sa)) = _
      simp [zvl]
    have hl1 : (as'.map (zvl b sa)).length = zpn y := by
      rw [List.length_map]
      rw [List.length_cons] at hlen
      omega
    cases nest with
    | false => exact va_runV S hM ⟨callB_of (zpn y) X.2.2.2.2.1 (z_gi hy) rfl rfl rfl hini (X.2.2.2.2.1 _ n3) (hNa _ rfl) hR, X.2.2.2.2.1 _ w1, X.2.2.2.2.1 _ w2⟩ hPv rfl hl1 h3 hstk hWr d hf
    | true => exact va_runVN S hM ⟨va_cnB (zpn y) X.2.2.2.2.1 (z_gi hy) rfl rfl rfl (X.2.2.2.2.2.2.2.2.2.2 _ n3) hini (hNa _ rfl) hR, X.2.2.2.2.1 _ w1, X.2.2.2.2.1 _ w2⟩ hPv rfl hl1 h3 hstk hWr d hf
  · rw [hk, if_pos rfl] at n1
    have w1 := f7.1 hk
    have hl1 : (as.map (zvl b sa)).length = zpn y := by
      rw [List.length_map]
      omega
    have hstk : (F0 m pc ls ((as.reverse ++ rest).map (zvl b sa))).stack = (as.map (zvl b sa)).reverse ++ rest.map (zvl b sa) := by
      show ((as.reverse ++ rest).map (zvl b sa)) = _
      simp
    cases nest with
    | false => exact va_runS S hM ⟨callB_of (zpn y) X.2.2.2.2.1 (z_gi hy) rfl rfl rfl hini (X.2.2.2.2.1 _ n3) (hNa _ rfl) hR, X.2.2.2.2.1 _ w1⟩ ⟨zPc_blind, hPre⟩ rfl hl1 h3 hstk hWr d hf
    | true => exact va_runSN S hM ⟨va_cnB (zpn y) X.2.2.2.2.1 (z_gi hy) rfl rfl rfl (X.2.2.2.2.2.2.2.2.2.2 _ n3) hini (hNa _ rfl) hR, X.2.2.2.2.1 _ w1, trivial⟩ ⟨zPc_blind, hPre⟩ rfl hl1 h3 hstk hWr d hf
  · rw [hk, if_neg (by decide)] at n1
    obtain ⟨w1, w2, w3⟩ := f7.2.2 hk
    have hws : zws y = Cond.code (zyn y) (zby y) (zmax y) none :: gW := by
      unfold zws
      rw [w3]
    have hG : GoodIn gW (Cond.code (zyn y) (zby y) (zmax y) none :: gW) := by
      rw [← hws]
      exact z_gi hy
    rw [hws] at hM
    obtain ⟨a, as', rfl⟩ := zrec_s hrec
    have hstk : (F0 m pc ls (((.inr (.inl a) :: as' : List zV).reverse ++ rest).map (zvl b sa))).stack = (as'.map (zvl b sa)).reverse ++ .ref (zad b sa a) :: rest.map (zvl b sa) := by
      show (((.inr (.inl a) :: as' : List zV).reverse ++ rest).map (zvl b sa)) = _
      simp [zvl]
    have hl1 : (as'.map (zvl b sa)).length = zpn y := by
      rw [List.length_map]
      rw [List.length_cons] at hlen
      omega
    cases nest with
    | false => exact va_runI S hM ⟨callB_of (zpn y) X.2.2.2.2.1 hG rfl rfl rfl hini (X.2.2.2.2.1 _ n3) (hNa _ rfl) hR, w1, X.2.2.2.2.1 _ w2⟩ ⟨zPc_blind, hPre⟩ rfl hl1 h3 hstk hWr d hf
    | true => exact va_runIN S hM ⟨va_cnB (zpn y) X.2.2.2.2.1 hG rfl rfl rfl (X.2.2.2.2.2.2.2.2.2.2 _ n3) hini (hNa _ rfl) hR, w1, X.2.2.2.2.1 _ w2⟩ ⟨zPc_blind, hPre⟩ rfl hl1 h3 hstk hWr d hf
end RUN
