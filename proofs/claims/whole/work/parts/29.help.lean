/-! Calls of the law's helpers (methods with handlers) -/
def zwC (y : Nat) : Bool := (decide (Cond.codeWith (zyn y) (zby y) (zmax y) (zrT y) (zhh y) ∈ lw_tbl) && goodWord (Cond.codeWith (zyn y) (zby y) (zmax y) (zrT y) (zhh y))) && (decide (Cond.static (zyn y) ∈ lw_tbl) && (decide (Cond.initialized (zyn y).cls ∈ lw_tbl) && (plainName (zyn y).cls && (decide ((zyn y).cls ≠ "java/lang/invoke/MethodHandle") && (decide ((zyn y).cls ≠ "java/lang/invoke/VarHandle") && (decide ((zyn y).cls = zcn (zown y)) && (decide ((parseMethodDescriptor (zyn y).desc).map (fun d => d.parameters.length) = some (zpn y)) && (!zini y && decide (zmk y = 0)))))))))
theorem zwC_ok : ∀ y, y < 124 → 113 ≤ y → zwC y = true := by decide +kernel
def zcxC (q : Nat × (Nat × Nat × Nat × Bool)) : Bool := zmy q.2.1 || (Nat.ble 113 q.2.1 && (Nat.blt q.2.1 124 && !q.2.2.2.2))
theorem zcx_ok : ∀ own, own < 11 → ((zcsL own).all zcxC) = true := by decide +kernel
def zwsW (y : Nat) : List Cond := Cond.codeWith (zyn y) (zby y) (zmax y) (zrT y) (zhh y) :: gW
theorem zW_m {y : Nat} (h1 : y < 124) (h2 : 113 ≤ y) : Cond.codeWith (zyn y) (zby y) (zmax y) (zrT y) (zhh y) ∈ gW ∧ (plainName (zyn y).cls = true ∧ (zyn y).cls ≠ "java/lang/invoke/MethodHandle" ∧ (zyn y).cls ≠ "java/lang/invoke/VarHandle") ∧ Cond.initialized (zyn y).cls ∈ gW ∧ (zyn y).cls = zcn (zown y) ∧ (parseMethodDescriptor (zyn y).desc).map (fun d => d.parameters.length) = some (zpn y) ∧ zini y = false ∧ zmk y = 0 ∧ Cond.static (zyn y) ∈ gW := by
  have hc := zwC_ok y h1 h2
  simp only [zwC, Bool.and_eq_true, decide_eq_true_eq, Bool.not_eq_true'] at hc
  obtain ⟨⟨c0, c0'⟩, c1, c2, c3, c4, c5, c6, c7, c8, c9⟩ := hc
  exact ⟨List.mem_filter.mpr ⟨c0, c0'⟩, ⟨c3, c4, c5⟩, List.mem_filter.mpr ⟨c2, rfl⟩, c6, c7, c8, c9, List.mem_filter.mpr ⟨c1, rfl⟩⟩
theorem z_metW {l : Launch} {sc : zC} {y : Nat} {as : List zV} {h h' : zS} {v : Option zV} (y1 : y < 124) (y2 : 113 ≤ y) (hno : zno as = true) (hlen : as.length ≤ zmax y) (S : zSok l sc y 0 true (as.map some) [] h (.inl v, h')) (b sa : Nat) (D : va_G) (G : Nat → ClassId) :
    Met l (zyn y) (zwsW y) (zrm y (h'.1 - h.1) (h'.2.1 - h.2.1)) (zPc b sa D G sc h as) (zQc b sa D G y v h') (h'.1 - h.1) (h'.2.1 - h.2.1) (zfree b y) := by
  obtain ⟨f1, f2, f3, f4, f5, f6, f7, f8⟩ := zW_m y1 y2
  have hc := zno_of hno
  refine va_MetW (cc := zby y) (maxL := zmax y) (ret := zrT y) (hh := zhh y) f2.1 rfl ?_
  intro p e s m args below meth c s₁ B hml hv
  obtain ⟨rfl, hP, hE, hst⟩ := hv
  have hts := atoms_spec (ws := zwsW y) B.pre
  have hHn : zHn y c := by
    obtain ⟨m9, meth9, c9, hn9, w1, w2, w3, w4, w5, -, -, -⟩ := Cond.codeWith_spec (hts _ List.mem_cons_self)
    cases B.named.symm.trans hn9
    cases B.method.symm.trans w1
    cases (Stand.of_body B).code.symm.trans w2
    exact w5
  have hin0 : zini y = true → meth.name = "<init>" := fun hi => by
    rw [f6] at hi
    cases hi
  have X : zX p (headSpec (zwsW y) (zrm y (h'.1 - h.1) (h'.2.1 - h.2.1))).room s m (as.map (zvl b sa)).toArray meth c y b sa D G sc :=
    ⟨B.exec, B.bytes, hml, by rw [← f4]; exact findClass_of_methodNamed B.named, fun w hw => hts w (List.mem_cons_of_mem _ hw), hE.1, hE.2.1, hE.2.2.1, hin0, ⟨B.notSynchronized, rfl, rfl, B.returns, hE.2.2.2.2, hHn⟩, hE.2.2.2.1⟩
  have hl := lv_entry (as.map (zvl b sa)) (n := zmax y) (by rw [lg_len as hc]; exact hlen)
  rw [lg_entry_eq]
  generalize (lg_sl (as.map (zvl b sa)) ++ List.replicate (zmax y - (lg_sl (as.map (zvl b sa))).length) Slot.unset).toArray = ls at hl ⊢
  have hw := S p e _ s m _ below meth c b sa D G h.1 h.2.1 X hP.1 (Nat.le_refl _) (Nat.le_refl _) (Nat.le_refl _) (Nat.le_refl _) s.heap [] ls hP ⟨va_S.rf, fun _ => ⟨rfl, rfl⟩⟩
    ⟨hl.1, hl.2.1, fun j w hj => by
      have h1 := zget_map as j w hj
      have h2 := lv_args_at (b := b) (sa := sa) as 0 j w hc h1
      rw [Nat.zero_add] at h2
      exact ⟨hl.2.2 _ h2, zcat1 (hc w (List.mem_of_getElem? h1)), hst w (List.mem_of_getElem? h1)⟩⟩ zst_n
  rw [Nat.sub_self, Nat.sub_self] at hw
  exact hw
theorem z_giW {y : Nat} (y1 : y < 124) (y2 : 113 ≤ y) : GoodIn gW (zwsW y) := by
  intro w hw
  rcases List.mem_cons.mp hw with e | e
  · rw [e]
    exact gW_good (fun _ q => q) _ (zW_m y1 y2).1
  · exact gW_good (fun _ q => q) _ e
section HELP
variable {p : Program} {l : Launch} {e : Env} {R : Room} {s : State} {m : MethodId} {args : Array Value} {below : List Frame} {meth : Method} {c : Code}
/-- a static call of a method with handlers -/
theorem z_callSW {T : State} {locs : List Loc} {cells slots : Nat} (X : Stand p l e R s m args below meth c T locs cells slots) (hexec : p.tables.exec = Jvm.exec) {own : String} {index : Nat} {y : MethodName} {bytes : ByteArray} {maxL : Nat} {ret : Option FieldType} {hh : List (Nat × Nat × Nat × Nat)}
    (hown : s.vm.findClass own = some m.cls) (hlink : (Cond.methodLink own index y).before args s = true) (hstat : (Cond.static y).before args s = true) (hinit : (Cond.initialized y.cls).before args s = true)
    (hcode : (Cond.codeWith y bytes maxL ret hh).before args s = true) (hy : y.cls ≠ "java/lang/invoke/MethodHandle" ∧ y.cls ≠ "java/lang/invoke/VarHandle")
    {Pre : Pt → Array Value → Prop} {Post : Pt → Array Value → Option Value → Pt → Prop} (hK : Back l R p e below s args y 3 8 Pre Post)
    {g : JFrame} (hg : g.method = m) (hsize : g.locals.size = c.maxLocals) {argsL rest : List Value} (hlen : ∀ sig, parseMethodDescriptor y.desc = some sig → argsL.length = sig.parameters.length)
    (hstack : g.stack = argsL.reverse ++ rest) (hW : 2 * g.monitorRoom + (rest.map fun v => v.category).sum ≤ 8) (hdg : decode c.code g.pc = .ok (.invokestatic index, 3))
    (hpre : ∀ vm₁, s.WarmedH vm₁ → Pre ⟨T.setVm vm₁, locs, cells, slots⟩ argsL.toArray) :
    ∃ (v : Option Value) (vm₁ : Vm) (B : Pt), s.WarmedH vm₁ ∧ Stand p l e R s m args below meth c B.U B.locs B.cells B.slots ∧ Post ⟨T.setVm vm₁, locs, cells, slots⟩ argsL.toArray v B ∧
      ∀ target, Steps p.tables e below (B.U.setTop { g with pc := g.pc + 3, stack := v.toList ++ rest }) target → Steps p.tables e below (T.setTop g) target := by
  obtain ⟨mk, methM, cM, hnamed, hmethM, -, -, -, -, -, -, hsigM⟩ := Cond.codeWith_spec hcode
  have hstatic : methM.isStatic = true := Cond.static_spec hnamed hmethM hstat
  obtain ⟨kP, hkP, -⟩ := className_of_methodNamed hnamed
  have hinitP : kP.init = .initialized := Cond.initialized_spec (findClass_of_methodNamed hnamed) hkP hinit
  obtain ⟨vm₁, X₁, hstep₁⟩ := X.invokestatic hexec hown hlink hnamed hmethM hstatic hkP hinitP hy (g := g) hg (argsL := argsL) (rest := rest) (hlen _ hsigM) hstack hdg
  obtain ⟨v, B, X', hpost, hsteps⟩ := hK m meth c ⟨T.setVm vm₁, locs, cells, slots⟩ { g with stack := rest } (.invokestatic index) mk argsL.toArray X₁ hg hsize hdg hW (X₁.named hnamed) (hpre vm₁ X₁.warmed)
  exact ⟨v, vm₁, B, X₁.warmed, X', hpost, fun target h => hstep₁ _ fun acts => by rw [doInvoke_state]; exact hsteps.trans h⟩
end HELP
theorem z_owe4 {l : Launch} {sc : zC} : ∀ μ i n pc cl lv st h r y na pl v h1, zkd μ i = 5 → decode (zby μ) pc = .ok (i, n) → zln i n = true → zcs (zown μ) i = some (y, na, pl) → zmy y = false → zcok μ i y na st = true → zSok l sc y 0 true ((st.take na).reverse.map some) [] h (.inl v, h1) → h.1 ≤ h1.1 → h.2.1 ≤ h1.2.1 → zSok l sc μ (pc + n) (cl && zpu y) lv (v.toList ++ st.drop na) h1 r → h1.1 ≤ r.2.1 → h1.2.1 ≤ r.2.2.1 → zSok l sc μ pc cl lv st h r := by
  intro μ i n pc cl lv st h r y na pl v h1 hz d hl hcs hmy hok S1 m1 m2 S m3 m4 p e R s m args below meth c b sa D G n0 s0 X q0 q1 q2 q3 q4 H locs ls g1 g2 g3 g4
  obtain ⟨plc, nest⟩ := pl
  obtain ⟨j, ⟨n1, n2, n3⟩, hkd⟩ := zF_cs hcs
  have hcx : y < 124 ∧ 113 ≤ y ∧ nest = false := by
    have key : ∀ k, zcf k (zlk (zcsL (zown μ)) j) = some (y, na, plc, nest) → y < 124 ∧ 113 ≤ y ∧ nest = false := by
      intro k hk
      obtain ⟨w1, -⟩ := zcf_of hk
      have ho : zown μ < 11 := by
        by_cases q : zown μ < 11
        · exact q
        · exfalso
          have e0 : zcsL (zown μ) = [] := by
            generalize zown μ = o at q
            unfold zcsL
            split <;> first | omega | rfl
          rw [e0] at w1
          cases w1
      have w2 := List.all_eq_true.mp (zcx_ok _ ho) _ (zlk_mem w1)
      simp only [zcxC, hmy, Bool.false_or, Bool.and_eq_true, Bool.not_eq_true'] at w2
      exact ⟨Nat.le_of_ble_eq_true w2.2.1, Nat.le_of_ble_eq_true w2.1, w2.2.2⟩
    rcases hkd with ⟨w, -⟩ | ⟨w, -⟩ | ⟨w, -⟩ <;> rw [w] at hcs <;> exact key _ hcs
  obtain ⟨y1, y2, rfl⟩ := hcx
  obtain ⟨f1, f2, f3, f4, f5, f6, f7, f8⟩ := zW_m y1 y2
  have hiv : i = .invokestatic j := by
    rcases hkd with ⟨-, w⟩ | ⟨w, -⟩ | ⟨-, w⟩
    · rw [f7] at w; cases w
    · exact w
    · rw [f7] at w; cases w
  subst hiv
  obtain rfl := zln_n hl (fun _ _ _ _ q => by cases q)
  rw [f7, if_pos rfl] at n1
  simp only [zcok, Bool.and_eq_true] at hok
  obtain ⟨o1, o2, o3, o4, o5, o6⟩ := hok
  have hal : (st.take na).reverse.length = na := by
    rw [List.length_reverse, List.length_take]
    have := Nat.le_of_ble_eq_true o1
    omega
  have hM := z_metW (l := l) (sc := sc) y1 y2 o4 (by rw [hal]; exact n2) S1 b sa D G
  have hst : zst h.1 (st.take na).reverse := fun w hw => g4 w (List.mem_of_mem_take (List.mem_reverse.mp hw))
  have hR1 := X.2.2.2.2.2.2.2.2.2.1.2.1
  have hR2 := X.2.2.2.2.2.2.2.2.2.1.2.2.1
  have v5 := Nat.le_of_ble_eq_true o5
  have v6 := Nat.le_of_ble_eq_true o6
  have v2 := Nat.le_of_ble_eq_true o2
  have hws := pay_in X.2.2.2.2.1 (z_giW y1 y2)
  have hK : Back l R p e below s args (zyn y) 3 8 (PreOf R (h1.1 - h.1) (h1.2.1 - h.2.1) (zPc b sa D G sc h (st.take na).reverse)) (PostOf (zQc b sa D G y v h1) (h1.1 - h.1) (h1.2.1 - h.2.1) (zfree b y)) :=
    va_backW (hh := zhh y) (bytes := zby y) (maxL := zmax y) (ret := zrT y) hM zPc_blind rfl rfl (by rw [hR1]; exact v5) (by rw [hR2]; show 8 + (zmax y + 11) + zlw y ≤ _; omega) hws List.mem_cons_self (fun a' U hW => word_at hW (Or.inl (by first | rfl | simp [Cond.onTables, Cond.keeps, Cond.steady])) (X.2.2.2.2.1 _ f3))
  have hrun : va_Run p l e R s m args below meth c H locs (h.1 - n0) (h.2.1 - s0) (h1.1 - h.1) (h1.2.1 - h.2.1) (F0 m pc ls (st.map (zvl b sa))) ((st.drop na).map (zvl b sa)) (zQc b sa D G y v h1 ((st.take na).reverse.map (zvl b sa)).toArray) (zfree b y) := by
    intro T hT Xs
    obtain ⟨v', vm₁, ⟨U', l2, c2, s2⟩, hW₁, X', ⟨g', mk, t, L, e1, e2, hq, w1, hL, w2, w3⟩, stp⟩ := z_callSW Xs X.1 (hh := zhh y) X.2.2.2.1 (X.2.2.2.2.1 _ n3) (X.2.2.2.2.1 _ f8) (X.2.2.2.2.1 _ f3) (X.2.2.2.2.1 _ f1) f2.2 hK (g := F0 m pc ls (st.map (zvl b sa))) rfl (by show ls.size = _; rw [g3.1, X.2.2.1]) (argsL := (st.take na).reverse.map (zvl b sa)) (rest := (st.drop na).map (zvl b sa))
      (fun sig hsg => by
        rw [List.length_map, hal, n1]
        have h5 := f5
        rw [hsg] at h5
        exact (Option.some.inj h5).symm) (by
        show st.map (zvl b sa) = _
        conv => lhs; rw [← z_rest (na := na) (st := st)]
        simp) (by show 2 * 0 + _ ≤ 8; rw [zcat_sum]; omega) (by rw [X.2.1]; exact d)
      (fun vm₁ hW₁ => ⟨by show h.1 - n0 + _ ≤ _; omega, by show h.2.1 - s0 + _ ≤ _; omega, ⟨rfl, by show zP b sa D G h T.heap; rw [hT]; exact g1, z_env X g1 g2 (U := T.setVm vm₁) hT hW₁, hst⟩⟩)
    dsimp only [Pt.U, Pt.locs, Pt.cells, Pt.slots] at X' e1 e2 w1 w2 w3 stp
    subst w1; subst w2; subst w3
    exact ⟨v', (T.setVm vm₁).calling g' mk ((st.take na).reverse.map (zvl b sa)).toArray, t, U', L, hT, X', hL, e1, e2, hq, stp⟩
  refine z_go hrun g2 fun H1 locs1 k1 k2 k3 => ?_
  have hw := S p e R s m args below meth c b sa D G n0 s0 X q0 (by omega) (by omega) q3 q4 H1 locs1 ls k1 k3 (g3.up m1) (fun w hw => by
    rcases List.mem_append.mp hw with q | q
    · exact k2 w (by cases v with
        | none => cases q
        | some u => rw [Option.toList_some, List.mem_singleton] at q; rw [q])
    · exact zvk_up m1 (g4 w (List.mem_of_mem_drop q)))
  have e1 : h.1 - n0 + (h1.1 - h.1) = h1.1 - n0 := by omega
  have e2 : h.2.1 - s0 + (h1.2.1 - h.2.1) = h1.2.1 - s0 := by omega
  rw [e1, e2]
  have e3 : (v.toList ++ st.drop na).map (zvl b sa) = (v.map (zvl b sa)).toList ++ (st.drop na).map (zvl b sa) := by
    cases v <;> simp
  rw [e3] at hw
  exact hw
/-- the machine is sound, nothing owed -/
theorem z_owe {l : Launch} {sc : zC} (hfl : l.flags = flags0) : zOwe l sc := ⟨z_owe1 hfl, z_owe2, z_owe3, z_owe4⟩
