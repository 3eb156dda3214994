/-! The law's start: from the Statement's words to the pure machine -/
def zh00 : zS := (0, 0, false, fun _ _ => false, fun _ _ => 0, fun _ _ => 0)
def zlv0 : zL := [some (.inr (.inl (98, 0, 0)))]
/-- what the pure part has to give: the law's run, from the empty heap, to true, in its room -/
def zRun (l : Launch) (L : Nat) (xs : Nat → Int32) : Prop := ∃ r : zR, (r.1 = .inl (some (.inl 1)) ∧ r.2.1 ≤ 601024 ∧ r.2.2.1 ≤ 7293033) ∧ zSok l (some (L, xs)) 124 0 true zlv0 [] zh00 r
theorem zP00 {b sa : Nat} {D : va_G} {G : Nat → ClassId} {H : Heap} (hb : H.size = b) (hs : sa < b) : zP b sa D G zh00 H :=
  ⟨hb, hs, fun a ha => absurd ha.2.2 (Nat.not_lt_zero _), fun a ha => absurd ha.2.2 (Nat.not_lt_zero _), fun _ _ _ _ => ⟨rfl, rfl, rfl⟩⟩
section TOP
variable {args : Array Value} {s : State}
theorem zt_D (hts : ∀ w ∈ gW, w.before args s = true) : ∃ D : va_G, ∀ (c : Nat) (q : vw_C), z_cl[c]? = some q → u_Kn s q.1 q.2.1 q.2.2 (D.1 c) (D.2 c) := by
  have h : ∀ ci, ∃ (cC : ClassId) (iS : Nat → Nat), ci < 9 → u_Kn s (zTb ci).1 (zTb ci).2.1 (zTb ci).2.2 cC iS := by
    intro ci
    by_cases hc : ci < 9
    · obtain ⟨cC, iS, hk⟩ := u_known (C := (zTb ci).1) (T := (zTb ci).2.1) (N := (zTb ci).2.2) (n := (zTb ci).2.2) hts (zF_ws hc) (by rw [zF_nmC ci hc]; exact hts _ (zgd_in (zF_in ci hc).1))
      exact ⟨cC, iS, fun _ => hk⟩
    · exact ⟨0, fun _ => 0, fun q => absurd q hc⟩
  refine ⟨(fun ci => Classical.choose (h ci), fun ci => Classical.choose (Classical.choose_spec (h ci))), fun c q hq => ?_⟩
  have hc : c < 9 := (List.getElem?_eq_some_iff.mp hq).1
  rw [zF_cl hc] at hq
  cases hq
  exact Classical.choose_spec (Classical.choose_spec (h c)) hc
theorem zt_A1 {t : FieldType} (hr : ∀ cA, s.vm.findClass ("[" ++ t.toString) = some cA → (∀ C, t ≠ .object C) → va_RA s cA t) (hno : ∀ C, t ≠ .object C) (h : (Cond.arrayClass t).before args s = true) : ∃ cA : ClassId, ArrOfT s cA t ∧ va_RA s cA t := by
  obtain ⟨c, k, comp, h1, h2, h3⟩ := Cond.arrayClass_spec h
  exact ⟨c, fun n z => ⟨fun k h => (by cases h), k, h2, comp, h3⟩, hr c h1 hno⟩
theorem zt_A2 {C : String} (h : (Cond.arrayOver (.object C)).before args s = true) : ∃ cA : ClassId, ArrOfT s cA (.object C) ∧ va_RA s cA (.object C) := by
  obtain ⟨comp, c, k, h1, h2, h3, h4, h5⟩ := Cond.arrayOver_spec h
  exact ⟨c, fun n z => ⟨fun k h => (by cases h), k, h3, comp, h4⟩, k, comp, h3, h4, h1, h5⟩
theorem zt_A3 (h : (Cond.arrayOver (.array .int)).before args s = true) : ∃ cA : ClassId, ArrOfT s cA (.array .int) ∧ va_RA s cA (.array .int) := by
  obtain ⟨comp, c, k, h1, h2, h3, h4, h5⟩ := arrayOverA_spec h
  exact ⟨c, fun n z => ⟨fun k h => (by cases h), k, h3, comp, h4⟩, h5⟩
theorem zt_in {w : Cond} (h : decide (w ∈ lw_tbl) = true) (hts : ∀ w ∈ lw_tbl, w.before args s = true) : w.before args s = true := hts w (of_decide_eq_true h)
theorem zt_G (hts : ∀ w ∈ lw_tbl, w.before args s = true) : ∃ G : Nat → ClassId, ∀ (k : Nat) (q : ClassId × FieldType), (ztys G)[k]? = some q → ArrOfT s q.1 q.2 ∧ va_RA s q.1 q.2 := by
  obtain ⟨g0, h0⟩ := zt_A1 (args := args) (s := s) (t := .int) (fun _ h _ => h) (fun _ q => by cases q) (hts _ (by decide +kernel))
  obtain ⟨g1, h1⟩ := zt_A1 (args := args) (s := s) (t := .boolean) (fun _ h _ => h) (fun _ q => by cases q) (hts _ (by decide +kernel))
  obtain ⟨g2, h2⟩ := zt_A1 (args := args) (s := s) (t := .long) (fun _ h _ => h) (fun _ q => by cases q) (hts _ (by decide +kernel))
  obtain ⟨g3, h3⟩ := zt_A2 (args := args) (s := s) (C := R_TE) (hts _ (by decide +kernel))
  obtain ⟨g4, h4⟩ := zt_A2 (args := args) (s := s) (C := R_AC) (hts _ (by decide +kernel))
  obtain ⟨g5, h5⟩ := zt_A2 (args := args) (s := s) (C := R_BU) (hts _ (by decide +kernel))
  obtain ⟨g6, h6⟩ := zt_A2 (args := args) (s := s) (C := R_CE) (hts _ (by decide +kernel))
  obtain ⟨g7, h7⟩ := zt_A3 (args := args) (s := s) (hts _ (by decide +kernel))
  refine ⟨fun k => match k with | 20 => g0 | 21 => g1 | 22 => g2 | 23 => g3 | 24 => g4 | 25 => g5 | 26 => g6 | _ => g7, fun k q hq => ?_⟩
  match k, hq with
  | 0, hq => cases hq; exact h0
  | 1, hq => cases hq; exact h1
  | 2, hq => cases hq; exact h2
  | 3, hq => cases hq; exact h3
  | 4, hq => cases hq; exact h4
  | 5, hq => cases hq; exact h5
  | 6, hq => cases hq; exact h6
  | 7, hq => cases hq; exact h7
  | n + 8, hq => cases hq
theorem zt_St {C n d : String} (hl : (Cond.laysStatic C n d).before args s = true) (hr : (Cond.isRef (.static C n d)).before args s = true) : zSt s.heap.size C n d s := by
  obtain ⟨c, k, i, f, a, cell, hc, hi, hst, ha, hcell, hs, hcls, hlt, hty⟩ := Cond.laysStatic_spec hl
  obtain ⟨v, hv, hvr⟩ : ∃ v, (Term.static C n d).eval args s none [] s = some v ∧ v.isRef = true := by
    cases hv : (Term.static C n d).eval args s none [] s with
    | none => simp [Cond.before, Cond.holds, Cond.value, hv] at hr
    | some v =>
      refine ⟨v, rfl, ?_⟩
      simp only [Cond.before, Cond.holds, Cond.value, hv] at hr
      cases v <;> first | rfl | (simp at hr; done)
  obtain ⟨-, a', cell', ha', hcell', -, hslot⟩ := Term.static_spec hi hv
  cases ha.symm.trans ha'
  cases hcell.symm.trans hcell'
  exact ⟨c, k, i, f, a, cell, v, hc, hi, hst, ha, hcell, hs, hcls, hlt, hty, hslot, hvr, (Array.getElem?_eq_some_iff.mp hcell).1⟩
theorem zt_Str {C tx : String} {k : Nat} {cur : ClassId} (hcur : s.vm.findClass C = some cur) (h : (Cond.stringRef C k tx).before args s = true) : ∃ a, vk_R C k tx a s := by
  have h' : (Cond.stringRef C k tx).before #[] s = true := h
  obtain ⟨-, -, -, a, -, -, -, -, -, hv⟩ := Cond.stringRef_spec hcur h'
  exact ⟨a, h', hv⟩
theorem zstr_ok : zstrL.all (fun q => decide (Cond.stringRef R_SU q.1 q.2 ∈ lw_tbl)) = true := by decide +kernel
theorem zt_nW (hts : ∀ w ∈ lw_tbl, w.before args s = true) : ∀ w ∈ nW, w.before #[] s = true := by
  intro w hw
  have hb := (List.mem_filter.mp hw).2
  have h := hts w (List.mem_filter.mp hw).1
  cases w <;> first | (cases hb; done) | skip
  case methodLinkNest a i x hst => exact va_tabs rfl rfl h
  case castable C T => exact va_tabs rfl rfl h
  case declares x => exact va_tabs rfl rfl h
  case arrayOver t => exact h
end TOP

/-- what holds at the law's entry -/
def lw_At (p : Program) (s : State) (m : MethodId) (meth : Method) (c : Code) (b L : Nat) (xs : Nat → Int32) : Prop :=
  p.tables.exec = Jvm.exec ∧ c.code = code ∧ meth.sig.returnType = ret ∧ c.maxLocals = 7 ∧ s.vm.findClass R_LW = some m.cls ∧ (∀ w ∈ lw_tbl, w.before #[Value.ref b] s = true) ∧ va_X b L xs s s.heap ∧ b < s.heap.size ∧ meth.locks = false ∧ (Jvm.Cond.and given_1 narrow_1).before #[Value.ref b] s = true ∧ c.exceptionTable.isEmpty = true
theorem zt_X {p : Program} {s : State} {m : MethodId} {meth : Method} {c : Code} {b L : Nat} {xs : Nat → Int32} (C0 : lw_At p s m meth c b L xs) : ∃ (D : va_G) (G : Nat → ClassId), zX p room_1 s m #[Value.ref b] meth c 124 s.heap.size b D G (some (L, xs)) := by
  obtain ⟨hx, hb, hr, hml, hown, hts, hX, hbl, hlk, hgv, hex⟩ := C0
  have hg : ∀ w ∈ gW, w.before #[Value.ref b] s = true := fun w hw => hts w (gW_in w hw)
  obtain ⟨D, hD⟩ := zt_D hg
  obtain ⟨G, hG⟩ := zt_G hts
  have hs := flat_of_before _ hgv
  have hsu := (hD 0 _ rfl).2.1
  refine ⟨D, G, hx, hb, hml, hown, hg, ⟨hD, hG⟩, ?_, hbl, ?_, ⟨hlk, rfl, rfl, hr, ⟨?_, ?_, ?_, ?_, ?_⟩, ?_⟩, zt_nW hts⟩
  · intro L' xs' e
    cases e
    exact hX
  · intro q
    cases q
  · intro q hq
    exact zt_Str hsu (hts _ (of_decide_eq_true (List.all_eq_true.mp zstr_ok q hq)))
  · exact zt_St (hts _ (by decide +kernel)) (hs _ (by decide +kernel))
  · exact zt_St (hts _ (by decide +kernel)) (hs _ (by decide +kernel))
  · exact va_Nc.of (args := #[Value.ref b]) (hs _ (by decide +kernel))
  · exact va_Nc.of (args := #[Value.ref b]) (hs _ (by decide +kernel))
  · exact zlist_nil hex
def lw_P (b : Addr) (xs : List Int32) (args : Array Value) (s : State) : Prop := args = #[.ref b] ∧ s.IntsAt b xs ∧ xs.length ≤ 2048 ∧ (Jvm.Cond.and given_1 narrow_1).before args s = true
def lw_Q (_ : Array Value) (s : State) (o : Outcome) (t : State) : Prop := o = .returned (some (.int 1)) ∧ Framed s o t [] 601024 7293033
def lw_Z (below : List Frame) (a : Array Value) (s : State) : State → Prop := fun t => ∃ o, t.status = .running ∧ Ended t below o ∧ lw_Q a s o t
theorem whole_start {p : Program} {e : Env} {s : State} {m : MethodId} {below : List Frame} {meth : Method} {c : Code} (l : Launch) {b L : Nat} {xs : Nat → Int32} (hz : zRun l L xs) (C0 : lw_At p s m meth c b L xs) : W p l e room_1 s m #[Value.ref b] below meth c s.heap [] 0 0 (lw_Z below #[Value.ref b] s) (entryFrame m ([Value.ref b] : List Value).toArray 7) := by
  obtain ⟨D, G, X⟩ := zt_X C0
  obtain ⟨⟨r1, h'⟩, ⟨e1, e2, e3⟩, S⟩ := hz
  have e1 : r1 = .inl (some (.inl 1)) := e1
  subst e1
  have hbl : b < s.heap.size := C0.2.2.2.2.2.2.2.1
  have has : ([.inr (.inl (98, 0, 0))] : List zV).map (zvl s.heap.size b) = [Value.ref b] := rfl
  have hc : ∀ w ∈ ([.inr (.inl (98, 0, 0))] : List zV), ∀ q, w ≠ .inr (.inr q) := zno_of rfl
  have hl := lv_entry (([.inr (.inl (98, 0, 0))] : List zV).map (zvl s.heap.size b)) (n := zmax 124) (by rw [lg_len _ hc]; decide)
  rw [← has]
  show W p l e room_1 s m _ below meth c s.heap [] 0 0 _ (entryFrame m _ (zmax 124))
  rw [lg_entry_eq]
  generalize (lg_sl (([.inr (.inl (98, 0, 0))] : List zV).map (zvl s.heap.size b)) ++ List.replicate (zmax 124 - (lg_sl (([.inr (.inl (98, 0, 0))] : List zV).map (zvl s.heap.size b))).length) Slot.unset).toArray = ls at hl ⊢
  have hw := S p e room_1 s m #[Value.ref b] below meth c s.heap.size b D G 0 0 X rfl (Nat.zero_le _) (Nat.zero_le _) e2 e3 s.heap [] ls (zP00 rfl hbl) ⟨va_S.rf, fun _ => ⟨rfl, rfl⟩⟩
    ⟨hl.1, hl.2.1, fun j w hj => by
      have h1 := zget_map ([.inr (.inl (98, 0, 0))] : List zV) j w hj
      have h2 := lv_args_at (b := s.heap.size) (sa := b) _ 0 j w hc h1
      rw [Nat.zero_add] at h2
      exact ⟨hl.2.2 _ h2, zcat1 (hc w (List.mem_of_getElem? h1)), by
        rw [List.mem_singleton.mp (List.mem_of_getElem? h1)]
        exact Or.inr (by decide)⟩⟩ zst_n
  intro T hT Xs
  obtain ⟨t, a1, o, b1, b2, b3, Lc, b4, b5⟩ := hw T hT Xs
  refine ⟨t, a1, o, b1, b2, b3.1.1, ⟨b4.1, b4.2.1, ?_⟩⟩
  exact b4.2.2.weaken (fun q hq hlt => absurd hlt (Nat.not_lt.mpr (b5 q hq).1)) (by show h'.1 - 0 ≤ _; omega) (by show h'.2.1 - 0 ≤ _; omega)
