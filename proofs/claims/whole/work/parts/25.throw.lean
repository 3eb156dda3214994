/-! A throw: new, dup, ldc, <init>, athrow -/
def zsta (a : Cond) : Bool := decide (a = .isRef (.static "java/lang/Throwable" "UNASSIGNED_STACK" "[Ljava/lang/StackTraceElement;")) || decide (a = .isRef (.static "java/lang/Throwable" "SUPPRESSED_SENTINEL" "Ljava/util/List;"))
def znms : List String := ["java/lang/RuntimeException", "java/lang/Exception"]
def zawC (a : Cond) : Bool := (zsta a || (decide (a = .laysStatic "java/lang/Throwable" "UNASSIGNED_STACK" "[Ljava/lang/StackTraceElement;") || decide (a = .laysStatic "java/lang/Throwable" "SUPPRESSED_SENTINEL" "Ljava/util/List;"))) || (decide (a ∈ lw_tbl) && (goodWord a || zbadW a))
theorem zaw0 : (Bundle.ownAtoms R_SU 64 (zxn 0) znms).all zawC = true := by decide +kernel
theorem zaw1 : (Bundle.ownAtoms R_SU 109 (zxn 1) znms).all zawC = true := by decide +kernel
/-- the rows of a throw, and its words -/
def zthC (μ : Nat) (q : Nat × (Nat × Nat × Nat × Nat × Nat)) : Bool :=
  decide (zown μ = 0) && (zmy μ && (decide (q.2.2.1 = 6) && (decide (6 ≤ zfr μ) && (decide (100 ≤ zlw μ) && (decide (decode (zby μ) q.1 = .ok (.new q.2.2.2.1, 3)) && (decide (decode (zby μ) (q.1 + 3) = .ok (.dup, 1)) && (decide (decode (zby μ) (q.1 + 4) = .ok (.ldc q.2.2.2.2.1, 2)) && (decide (decode (zby μ) (q.1 + 6) = .ok (.invokespecial q.2.2.2.2.2, 3)) && (decide (decode (zby μ) (q.1 + 9) = .ok (.athrow, 1)) &&
  ((zstrL.any fun w => Nat.beq w.1 q.2.2.2.2.1) && (decide (q.2.1 = 0 ∧ q.2.2.2.1 = 60 ∧ q.2.2.2.2.2 = 64) || decide (q.2.1 = 1 ∧ q.2.2.2.1 = 105 ∧ q.2.2.2.2.2 = 109))))))))))))
theorem zth_1 : ((zthL 1).all (zthC 1)) = true := by decide +kernel
theorem zth_2 : ((zthL 2).all (zthC 2)) = true := by decide +kernel
theorem zth_3 : ((zthL 3).all (zthC 3)) = true := by decide +kernel
theorem zth_4 : ((zthL 4).all (zthC 4)) = true := by decide +kernel
theorem zth_5 : ((zthL 5).all (zthC 5)) = true := by decide +kernel
theorem zth_6 : ((zthL 6).all (zthC 6)) = true := by decide +kernel
theorem zth_8 : ((zthL 8).all (zthC 8)) = true := by decide +kernel
theorem zth_9 : ((zthL 9).all (zthC 9)) = true := by decide +kernel
theorem zth_10 : ((zthL 10).all (zthC 10)) = true := by decide +kernel
theorem zth_11 : ((zthL 11).all (zthC 11)) = true := by decide +kernel
theorem zth_12 : ((zthL 12).all (zthC 12)) = true := by decide +kernel
theorem zth_all (μ : Nat) : ((zthL μ).all (zthC μ)) = true := by
  have h0 : ∀ l, zthL μ = l → (μ = 1 ∨ μ = 2 ∨ μ = 3 ∨ μ = 4 ∨ μ = 5 ∨ μ = 6 ∨ μ = 8 ∨ μ = 9 ∨ μ = 10 ∨ μ = 11 ∨ μ = 12) ∨ l = [] := by
    intro l hl
    unfold zthL at hl
    split at hl <;> first | (left; simp; done) | (right; exact hl.symm)
  rcases h0 _ rfl with q | q
  · rcases q with q | q | q | q | q | q | q | q | q | q | q <;> subst q
    · exact zth_1
    · exact zth_2
    · exact zth_3
    · exact zth_4
    · exact zth_5
    · exact zth_6
    · exact zth_8
    · exact zth_9
    · exact zth_10
    · exact zth_11
    · exact zth_12
  · rw [q]; rfl
theorem zex_wd : (zgd 345 (.classLink R_SU 60 (zxn 0)) && (zgd 453 (.classLink R_SU 105 (zxn 1)) && true)) = true := by decide +kernel
def zxwC (e : Nat) : Bool := decide (Cond.instantiable (zxn e) 6 ∈ lw_tbl) && (decide (Cond.initialized (zxn e) ∈ lw_tbl) && (Bundle.fit (zxn e) && (znms.all Bundle.fit)))
theorem zxw0 : zxwC 0 = true := by decide +kernel
theorem zxw1 : zxwC 1 = true := by decide +kernel
theorem zsame {s t : State} {k n : Nat} (h : s.sameButNew t [] k n) : ∀ q, q < s.heap.size → t.heap[q]? = s.heap[q]? := by
  intro q hq
  obtain ⟨c, hc⟩ : ∃ c, s.heap[q]? = some c := ⟨s.heap[q], Array.getElem?_eq_getElem hq⟩
  obtain ⟨c', h1, h2, h3, h4⟩ := h.2.2.2.2.2 q c hc
  rw [h1, hc, h2]
  congr 1
  have : c'.slots = c.slots := by
    apply Array.ext_getElem?
    intro i
    exact h4 i (fun w => by cases w)
  rw [this]
/-- statics that hold a reference or null -/
theorem zsta_of {args : Array Value} {s : State} {C n d : String} {b : Nat} (h : zSt b C n d s) : (Cond.isRef (.static C n d)).before args s = true ∧ (Cond.laysStatic C n d).before args s = true := by
  obtain ⟨c, k, i, f, a, ce, v, h1, h2, h3, h4, h5, h6, h7, h8, h9, h10, h11, h12⟩ := h
  refine ⟨?_, Cond.laysStatic_of h1 h2 h3 h4 h5 h6 h7 h8 h9⟩
  have he : (Term.static C n d).eval args s none [] s = some v := by
    simp [Term.eval, State.fieldNamed?, h2, h3, h4, h5, h6, h10]
  cases v <;> first | (cases h11; done) | simp [Cond.before, Cond.holds, Cond.value, he]
theorem zaw_of {args : Array Value} {s : State} {b : Nat} (hts : ∀ w ∈ gW, w.before args s = true) (hn : ∀ w ∈ nW, w.before #[] s = true) (hx : zEx b s) {l : List Cond} (h : l.all zawC = true) : ∀ a ∈ l, a.before args s = true := by
  intro a ha
  have hc := List.all_eq_true.mp h a ha
  simp only [zawC, zsta, Bool.or_eq_true, Bool.and_eq_true, decide_eq_true_eq] at hc
  rcases hc with ((q | q) | (q | q)) | ⟨q1, q2⟩
  · subst q; exact (zsta_of hx.2.1).1
  · subst q; exact (zsta_of hx.2.2.1).1
  · subst q; exact (zsta_of hx.2.1).2
  · subst q; exact (zsta_of hx.2.2.1).2
  · rcases q2 with q2 | q2
    · exact hts a (List.mem_filter.mpr ⟨q1, q2⟩)
    · have hm : a ∈ nW := List.mem_filter.mpr ⟨q1, q2⟩
      have hb := hn a hm
      cases a <;> first | (cases q2; done) | skip
      case methodLinkNest a i x hst => exact va_tabs rfl rfl hb
      case castable C T => exact va_tabs rfl rfl hb
      case declares x => exact va_tabs rfl rfl hb
      case arrayOver t => exact hb
theorem znm_hi {n : Nat} (h : 258 ≤ n) : znm n = (99, n, 0) := by
  have b1 : Nat.blt n 3 = false := by cases q : Nat.blt n 3 with | false => rfl | true => exact absurd (Nat.le_of_ble_eq_true q) (by omega)
  have b2 : Nat.blt n 183 = false := by cases q : Nat.blt n 183 with | false => rfl | true => exact absurd (Nat.le_of_ble_eq_true q) (by omega)
  have b3 : Nat.blt n 187 = false := by cases q : Nat.blt n 187 with | false => rfl | true => exact absurd (Nat.le_of_ble_eq_true q) (by omega)
  have b4 : Nat.blt n 189 = false := by cases q : Nat.blt n 189 with | false => rfl | true => exact absurd (Nat.le_of_ble_eq_true q) (by omega)
  have b5 : Nat.beq n 189 = false := by cases q : Nat.beq n 189 with | false => rfl | true => exact absurd (Nat.eq_of_beq_eq_true q) (by omega)
  have b6 : Nat.blt n 220 = false := by cases q : Nat.blt n 220 with | false => rfl | true => exact absurd (Nat.le_of_ble_eq_true q) (by omega)
  have b7 : Nat.blt n 222 = false := by cases q : Nat.blt n 222 with | false => rfl | true => exact absurd (Nat.le_of_ble_eq_true q) (by omega)
  have b8 : Nat.blt n 257 = false := by cases q : Nat.blt n 257 with | false => rfl | true => exact absurd (Nat.le_of_ble_eq_true q) (by omega)
  have b9 : Nat.beq n 257 = false := by cases q : Nat.beq n 257 with | false => rfl | true => exact absurd (Nat.eq_of_beq_eq_true q) (by omega)
  unfold znm
  rw [b1, b2, b3, b4, b5, b6, b7, b8, b9]
  rfl
set_option maxHeartbeats 4000000 in
theorem z_owe1 {l : Launch} {sc : zC} (hfl : l.flags = flags0) : ∀ μ i n is pc lv st h e N x, zkd μ i = 7 → zth μ pc = some (e, N, x) → 258 ≤ h.1 → zcat st ≤ 8 → zbk (zby μ) pc ((i, n) :: is) = true → zSok l sc μ pc true lv st h (.inr (e, (99, h.1, 0)), zal h N) := by
  intro μ i n is pc lv st h ee N x hz hth h300 hcat hbk p e R s m args below meth c b sa D G n0 s0 X q0 q1 q2 q3 q4 H locs ls g1 g2 g3 g4
  obtain ⟨j, sx, ic⟩ := x
  have hC := List.all_eq_true.mp (zth_all μ) _ (zlk_mem hth)
  simp only [zthC, Bool.and_eq_true, decide_eq_true_eq] at hC
  obtain ⟨ho, hmy, rfl, hf6, hl100, d0, d3, d4, d6, d9, hstr, hcs⟩ := hC
  obtain ⟨rfl, rfl⟩ := g2.2 rfl
  have hn0 : n0 = h.1 := by have := g1.1; omega
  have hown : s.vm.findClass R_SU = some m.cls := by have := X.2.2.2.1; rw [ho] at this; exact this
  obtain ⟨w, hw1, hw2⟩ := List.any_eq_true.mp hstr
  have hw2 := Nat.eq_of_beq_eq_true hw2
  obtain ⟨qs, hq⟩ := X.2.2.2.2.2.2.2.2.2.1.2.2.2.2.1.1 w hw1
  rw [hw2] at hq
  have hzd := zex_wd
  simp only [Bool.and_eq_true] at hzd
  obtain ⟨hcl, hat, hxw⟩ : Cond.classLink R_SU j (zxn ee) ∈ gW ∧ (Bundle.ownAtoms R_SU ic (zxn ee) znms).all zawC = true ∧ zxwC ee = true := by
    rw [Bool.or_eq_true, decide_eq_true_eq, decide_eq_true_eq] at hcs
    rcases hcs with ⟨rfl, rfl, rfl⟩ | ⟨rfl, rfl, rfl⟩
    · exact ⟨zgd_in hzd.1, zaw0, zxw0⟩
    · exact ⟨zgd_in hzd.2.1, zaw1, zxw1⟩
  simp only [zxwC, Bool.and_eq_true, decide_eq_true_eq] at hxw
  obtain ⟨x1, x2, x3, x4⟩ := hxw
  have hin : (Cond.instantiable (zxn ee) 6).before args s = true := X.2.2.2.2.1 _ (List.mem_filter.mpr ⟨x1, rfl⟩)
  have hii : (Cond.initialized (zxn ee)).before args s = true := X.2.2.2.2.1 _ (List.mem_filter.mpr ⟨x2, rfl⟩)
  obtain ⟨cX, kX, hfX, hkX, -⟩ := Cond.instantiable_spec hin
  have hat' := zaw_of X.2.2.2.2.1 X.2.2.2.2.2.2.2.2.2.2 X.2.2.2.2.2.2.2.2.2.1.2.2.2.2.1 hat
  have r1 : (zal h 6).1 - n0 = 1 := by show h.1 + 1 - n0 = 1; omega
  have r2 : (zal h 6).2.1 - s0 = h.2.1 - s0 + 6 := by show h.2.1 + 6 - s0 = _; omega
  have q3 : 1 ≤ R.cells := by rw [← r1]; exact q3
  have q4 : h.2.1 - s0 + 6 ≤ R.slots := by rw [← r2]; exact q4
  have hz0 : h.1 - n0 = 0 := by omega
  rw [hz0]
  refine W.newcK X.1 X.2.1 hown (X.2.2.2.2.1 _ hcl) hin hii rfl d0 (by omega) q4 hfX g1.1 fun H1 kC hkC e1 z1 o1 => ?_
  have hkC' : kC = kX := Option.some.inj (hkC.symm.trans hkX)
  subst hkC'
  refine lv_dup X.1 X.2.1 d3 rfl ?_
  refine va_ldcS X.1 X.2.1 hown hq d4 ?_
  intro T hT Xs
  have hbl : b ≤ s.heap.size := by omega
  have hsz : s.heap.size = b + h.1 := g1.1
  obtain ⟨U, u1, u2, u3, u4, u5, ce, u6, u7⟩ := Xs.ctorThrowS X.1 (Launch.traces_off hfl Xs.admits) (own := R_SU) (cls := zxn ee) (names := znms) (ic := ic) hown x3 (List.all_eq_true.mp x4) hat' (fun x hx => by cases hx) (a := b + h.1) hfX hkX (by rw [hT]; exact e1) (by omega) (msg := .ref qs) rfl
    (g := F0 m (pc + 3 + 1 + 2) ls (.ref qs :: .ref (b + h.1) :: .ref (b + h.1) :: st.map (zvl b sa))) rfl (by show ls.size = _; rw [g3.1, X.2.2.1]) rfl rfl (rest := st.map (zvl b sa)) rfl (by rw [X.2.1]; exact d6) (by rw [X.2.1]; exact d9)
    (fun x hx => by
      have hh := X.2.2.2.2.2.2.2.2.2.1.2.2.2.2.2
      rw [zHn, zhh_no hmy] at hh
      have hnil := List.map_eq_nil_iff.mp hh
      rw [hnil] at hx
      cases hx)
    (by rw [X.2.2.2.2.2.2.2.2.2.1.2.1]; show 2 + 3 < _; omega) (by
      rw [X.2.2.2.2.2.2.2.2.2.1.2.2.1]
      have h9 : ((st.map (zvl b sa)).map fun v => v.category).sum ≤ 8 := by rw [zcat_sum]; exact hcat
      have h8 : (List.map (fun v => v.category) (Value.ref (b + h.1) :: st.map (zvl b sa))).sum = 1 + ((st.map (zvl b sa)).map fun v => v.category).sum := by rw [List.map_cons, List.sum_cons]; rfl
      have h7 : 2 * 0 + (List.map (fun v => v.category) (Value.ref (b + h.1) :: st.map (zvl b sa))).sum + (13 * (2 + 1) + 42) ≤ zlw μ := by rw [h8]; omega
      exact h7) X.2.2.2.2.2.2.2.2.2.1.1
  refine ⟨U, u1, .threw (b + h.1), u2, u3, ?_, u4, ?_⟩
  · have hso := zsame u5
    have hus : U.heap.size = s.heap.size + 1 := by
      have k1 : U.heap.size ≤ s.heap.size + (0 + 1) := u5.2.2.1
      have k2 : b + h.1 < U.heap.size := (Array.getElem?_eq_some_iff.mp u6).1
      omega
    have had : zad b sa (99, h.1, 0) = b + h.1 := rfl
    refine ⟨⟨rfl, g1.hole (by rw [znm_hi h300]; exact fun q => absurd q (by decide : ¬ (99 : Nat) < 90)) hus (fun q hq => hso q hq), (by decide : (90 : Nat) ≤ 99), ce, by rw [had]; exact u6, ?_, u7.vm⟩, by rw [hus]; omega, fun q hq1 _ => hso q hq1⟩
    rw [u4.alike.findClass]
    exact u7.cls
  · show s.sameButNew _ [] ((zal h 6).1 - n0) ((zal h 6).2.1 - s0)
    rw [r1, r2]
    exact u5
