/-! The law's helpers: their catches, and calls of them -/
def zhC (μ : Nat) : Bool := decide (zown μ = 9) && (decide (zhdL μ = (zhh μ).map (fun q => (q.1, q.2.1, q.2.2.1, zcv q.2.2.2))) && (((zhh μ).all fun q => (Nat.beq q.2.2.2 13 || Nat.beq q.2.2.2 27) && Nat.ble q.2.1 20) && ((List.range 20).all fun pc => match decode (zby μ) pc with
  | .ok (.invokestatic _, _) => false
  | .ok (.invokespecial _, _) => false
  | _ => true)))
theorem zhC_ok : ∀ μ, μ < 124 → 113 ≤ μ → zhC μ = true := by decide +kernel
theorem zhd_lt {μ pc e hp : Nat} (h : zhd μ pc e = some hp) : μ < 124 ∧ 113 ≤ μ := by
  have h0 : ∀ l, zhdL μ = l → (μ < 124 ∧ 113 ≤ μ) ∨ l = [] := by
    intro l hl
    unfold zhdL at hl
    split at hl <;> first | (left; omega) | (right; exact hl.symm)
  rcases h0 _ rfl with q | q
  · exact q
  · unfold zhd at h
    rw [q] at h
    cases h
theorem zhdF_of {pc e hp : Nat} : ∀ (l : List (Nat × Nat × Nat × Nat)), (∀ q ∈ l, (q.2.2.2 = 13 ∨ q.2.2.2 = 27) ∧ q.2.1 ≤ 20) → zhdF pc e (l.map (fun q => (q.1, q.2.1, q.2.2.1, zcv q.2.2.2))) = some hp → pc < 20 ∧ (e = 0 ∨ e = 1)
  | [], _, h => by cases h
  | q :: l, hl, h => by
    rw [List.map_cons] at h
    unfold zhdF at h
    cases hb : Nat.ble q.1 pc && (Nat.blt pc q.2.1 && Nat.beq e (zcv q.2.2.2)) with
    | false =>
      rw [hb] at h
      exact zhdF_of l (fun x hx => hl x (List.mem_cons_of_mem _ hx)) h
    | true =>
      simp only [Bool.and_eq_true] at hb
      have h1 : pc < q.2.1 := Nat.le_of_ble_eq_true hb.2.1
      have h2 := Nat.eq_of_beq_eq_true hb.2.2
      obtain ⟨h3, h4⟩ := hl q List.mem_cons_self
      refine ⟨by omega, ?_⟩
      rw [h2]
      rcases h3 with w | w <;> rw [w] <;> decide
def zcwC (q : Nat × (Nat × Nat × Nat × Bool)) : Bool := !Nat.beq (zmk q.2.1) 1 || (zmy q.2.1 && !q.2.2.2.2)
theorem zcw9 : ((zcsL 9).all zcwC) = true := by decide +kernel
theorem zlw_wd : (zgd 334 (.classLink R_LW 13 (zxn 0)) && (zgd 443 (.classLink R_LW 27 (zxn 1)) && (decide (Cond.castable (zxn 0) (zxn 0) ∈ lw_tbl) && decide (Cond.castable (zxn 1) (zxn 1) ∈ lw_tbl)))) = true := by decide +kernel
theorem zLw_of {p : Program} {R : Room} {s : State} {m : MethodId} {args : Array Value} {meth : Method} {c : Code} {μ b sa : Nat} {D : va_G} {G : Nat → ClassId} {sc : zC} (X : zX p R s m args meth c μ b sa D G sc) (ho : zown μ = 9) : zLw s m args := by
  have hw := zlw_wd
  simp only [Bool.and_eq_true, decide_eq_true_eq] at hw
  have h1 := X.2.2.2.1
  rw [ho] at h1
  have hx := X.2.2.2.2.2.2.2.2.2.1.2.2.2.2.1
  have hn := X.2.2.2.2.2.2.2.2.2.2
  exact ⟨h1, X.2.2.2.2.1 _ (zgd_in hw.1), X.2.2.2.2.1 _ (zgd_in hw.2.1), va_tabs rfl rfl (hn _ (List.mem_filter.mpr ⟨hw.2.2.1, rfl⟩)), va_tabs rfl rfl (hn _ (List.mem_filter.mpr ⟨hw.2.2.2, rfl⟩)), hx.2.2.2.1, hx.2.2.2.2⟩
set_option maxHeartbeats 2000000 in
theorem z_owe3 {l : Launch} {sc : zC} : ∀ μ i n pc cl lv st h r y na pl e a h1 hp, zkd μ i = 5 → decode (zby μ) pc = .ok (i, n) → zln i n = true → zcs (zown μ) i = some (y, na, pl) → zcok μ i y na st = true → zSok l sc y 0 true ((st.take na).reverse.map some) [] h (.inr (e, a), h1) → h.1 ≤ h1.1 → h.2.1 ≤ h1.2.1 → zhd μ pc e = some hp → zSok l sc μ hp false lv [.inr (.inl a)] h1 r → h1.1 ≤ r.2.1 → h1.2.1 ≤ r.2.2.1 → zSok l sc μ pc cl lv st h r := by
  intro μ i n pc cl lv st h r y na pl ee aa h1 hp hz d hl hcs hok S1 k1 k2 hhd S k3 k4 p e R s m args below meth c b sa D G n0 s0 X q0 q1 q2 q3 q4 H locs ls g1 g2 g3 g4
  obtain ⟨m1, m2⟩ := zhd_lt hhd
  have hC := zhC_ok μ m1 m2
  simp only [zhC, Bool.and_eq_true, decide_eq_true_eq] at hC
  obtain ⟨ho, hL, hall, hdec⟩ := hC
  have hall' : ∀ q ∈ zhh μ, (q.2.2.2 = 13 ∨ q.2.2.2 = 27) ∧ q.2.1 ≤ 20 := fun q hq => by
    have w := List.all_eq_true.mp hall q hq
    simp only [Bool.and_eq_true, Bool.or_eq_true] at w
    exact ⟨w.1.imp Nat.eq_of_beq_eq_true Nat.eq_of_beq_eq_true, Nat.le_of_ble_eq_true w.2⟩
  have hhd' := hhd
  unfold zhd at hhd'
  rw [hL] at hhd'
  obtain ⟨hpc, hee⟩ := zhdF_of _ hall' hhd'
  have hdc := List.all_eq_true.mp hdec pc (List.mem_range.mpr hpc)
  rw [d] at hdc
  obtain ⟨plc, nest⟩ := pl
  obtain ⟨j, ⟨n1, n2, n3⟩, hkd⟩ := zF_cs hcs
  have hiv : i = .invokevirtual j ∧ zmk y = 1 := by
    rcases hkd with w | ⟨w, -⟩ | ⟨w, -⟩
    · exact w
    · rw [w] at hdc; cases hdc
    · rw [w] at hdc; cases hdc
  obtain ⟨rfl, hk1⟩ := hiv
  obtain rfl := zln_n hl (fun _ _ _ _ q => by cases q)
  have hcw : zmy y = true ∧ nest = false := by
    have hcs' := hcs
    rw [ho] at hcs'
    obtain ⟨w1, -⟩ := zcf_of hcs'
    have w2 := List.all_eq_true.mp zcw9 _ (zlk_mem w1)
    simp only [zcwC, hk1] at w2
    simpa using w2
  obtain ⟨hy, rfl⟩ := hcw
  obtain ⟨f1, f2, f3, f4, f5, f6, f7⟩ := zF_m hy
  obtain ⟨w1, w2, w3⟩ := f7.2.1 hk1
  rw [hk1, if_neg (by decide)] at n1
  simp only [zcok, Bool.and_eq_true] at hok
  obtain ⟨o1, o2, o3, o4, o5, o6⟩ := hok
  have hal : (st.take na).reverse.length = na := by
    rw [List.length_reverse, List.length_take]
    have := Nat.le_of_ble_eq_true o1
    omega
  have hMx := z_metX (l := l) (sc := sc) hy o4 (by rw [hal]; exact n2) S1 b sa D G
  have hst : zst h.1 (st.take na).reverse := fun w hw => g4 w (List.mem_of_mem_take (List.mem_reverse.mp hw))
  obtain ⟨ra, as', has, hza⟩ := zrec_v o3
  have hra := z_cell (a := ra) (zst_h (by rw [← has]; exact hst)) (by rw [hza]; omega)
  have hcell := g1.2.2.1 ra hra
  unfold zce at hcell
  rw [if_pos (by rw [hza]; omega)] at hcell
  obtain ⟨cell, c1, c2, c3, -⟩ := hcell
  have hcl : s.vm.findClass (zyn y).cls = some cell.cls := by
    rw [c2, f4, hza, ← zF_nmC _ w3]
    exact (X.2.2.2.2.2.1.1 (zown y) _ (zF_cl w3)).2.1
  have hstk : st.map (zvl b sa) = (as'.map (zvl b sa)).reverse ++ .ref (zad b sa ra) :: (st.drop na).map (zvl b sa) := by
    have e0 : st = (st.take na).reverse.reverse ++ st.drop na := z_rest.symm
    rw [has] at e0
    conv => lhs; rw [e0]
    simp [zvl]
  have hR1 := X.2.2.2.2.2.2.2.2.2.1.2.1
  have hR2 := X.2.2.2.2.2.2.2.2.2.1.2.2.1
  have v5 := Nat.le_of_ble_eq_true o5
  have v6 := Nat.le_of_ble_eq_true o6
  have v2 := Nat.le_of_ble_eq_true o2
  intro T hT Xs
  have hlen1 : as'.length = zpn y := by
    have := hal
    rw [has, List.length_cons] at this
    omega
  obtain ⟨U, st0, u1, XU, hqx, hsteps⟩ := z_callX Xs X.1 (y := y) (b := b) (sa := sa) (D := D) (G := G) (sc := sc) (h := h) (h' := h1) (as := (st.take na).reverse) (ea := (ee, aa)) (mc := h1.1 - h.1) (ms := h1.2.1 - h.2.1) (argsL := as'.map (zvl b sa)) (recv := zad b sa ra) X.2.2.2.1 (X.2.2.2.2.1 _ n3) (X.2.2.2.2.1 _ w1) (X.2.2.2.2.1 _ w2) (X.2.2.2.2.1 _ f1) f2.2 (X.2.2.2.2.1 _ f3) (pay_in X.2.2.2.2.1 (z_gi hy)) hMx
    (by rw [hR1]; exact v5) (by rw [hR2]; omega) (by omega) (by omega) (cellB := cell) (by rw [hT, zad_lv hra]; exact c1) (by rw [c3]; rfl) hcl (by rw [has]; rfl) (g := F0 m pc ls (st.map (zvl b sa))) rfl (by show ls.size = _; rw [g3.1, X.2.2.1])
    (rest := (st.drop na).map (zvl b sa)) (fun sig hsg => by
      rw [List.length_map, hlen1]
      have h5 := f5
      rw [hsg] at h5
      exact (Option.some.inj h5).symm) hstk (by show 2 * 0 + _ ≤ 8; rw [zcat_sum]; omega) (by rw [X.2.1]; exact d) (fun V hV hW => ⟨rfl, by rw [hV, hT]; exact g1, z_env X g1 g2 (by rw [hV, hT]) hW, hst⟩)
  obtain ⟨⟨-, p1, p2, ce, p3, p4, p5⟩, pF⟩ := hqx
  have hE := X.2.2.2.2.2.2.2.2.2.1.2.2.2.2.2
  have hents : (c.exceptionTable.toList.map (fun h => (h.startPc, h.endPc, h.handlerPc, zcv h.catchType))) = zhdL μ := by
    rw [hL, ← hE, List.map_map]
    rfl
  have hcts : ∀ x ∈ c.exceptionTable.toList, x.catchType = 13 ∨ x.catchType = 27 := fun x hx => by
    have hm : (x.startPc, x.endPc, x.handlerPc, x.catchType) ∈ zhh μ := by
      rw [← hE]
      exact List.mem_map.mpr ⟨x, hx, rfl⟩
    exact (hall' _ hm).1
  obtain ⟨vm', hWv, hfind⟩ := z_search (e := e) (f := F0 m pc ls ((st.drop na).map (zvl b sa))) (a := zad b sa aa) (hp := hp) (cell := ce) (by rw [XU.admits.platform]) (zLw_of X ho) rfl hee (by rw [← XU.warmed.alike.findClass]; exact p4) (fun k hk => by rw [p5] at hk; cases hk)
    c.exceptionTable.toList ((U.setTop (F0 m pc ls ((st.drop na).map (zvl b sa)))).pushFrame (.throwing (zad b sa aa))) (by rw [Stand.throwing_vm]; exact XU.warmed) (by rw [Stand.throwing_heap]; exact p3) hcts (by rw [hents]; exact hhd)
  have hSU : zSl b s false U.heap locs := by
    refine ⟨⟨?_, fun q w1 w2 => ?_, g2.1.2.2⟩, fun q => by cases q⟩
    · have := pF.1
      rw [u1, hT] at this
      exact Nat.le_trans g2.1.1 this
    · have := pF.2 q (by rw [u1, hT]; exact Nat.lt_of_lt_of_le w1 g2.1.1) w2
      rw [u1, hT] at this
      exact this.trans (g2.1.2.1 q w1 w2)
  have hw := S p e R s m args below meth c b sa D G n0 s0 X q0 (by omega) (by omega) q3 q4 U.heap locs ls p1 hSU (g3.up k1) (zst_c (Or.inr p2) zst_n)
  have e1 : h.1 - n0 + (h1.1 - h.1) = h1.1 - n0 := by omega
  have e2 : h.2.1 - s0 + (h1.2.1 - h.2.1) = h1.2.1 - s0 := by omega
  rw [e1, e2] at XU
  obtain ⟨t, a1, b1⟩ := hw (U.setVm vm') rfl (XU.noted hWv)
  refine ⟨t, hsteps t ?_, b1⟩
  refine z_caught (g := F0 m pc ls ((st.drop na).map (zvl b sa))) XU.here (fun Q E d acts => ?_) a1
  rw [W.findHandler_eq (meth := meth) (code := c) (by rw [Stand.throwing_vm]; exact XU.method') XU.code]
  exact hfind Q E d acts
