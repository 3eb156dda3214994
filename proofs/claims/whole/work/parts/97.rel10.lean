/-! Places agree -/
section PLC
theorem zgp_U {can : Nat → Bool} {D : Nat → Nat} : zgp can D = zbU (zltM D) (fun t => decide (0 < D t) && can t) := by
  funext b t
  unfold zgp zbU zgpm zltM
  cases b with
  | none =>
    show (bif decide (0 < D t) && (true && can t) then some t else none) = bif decide (0 < D t) && can t && true then some t else none
    cases decide (0 < D t) <;> cases can t <;> rfl
  | some x =>
    show (bif decide (0 < D t) && (decide (D x < D t) && can t) then some t else some x) = bif decide (0 < D t) && can t && decide (D x < D t) then some t else some x
    cases decide (0 < D t) <;> cases can t <;> cases decide (D x < D t) <;> rfl
theorem zgb_D {R : Nat → Int32} {D : Nat → Nat} {k : Nat} : zgb1 R D k = zbD (zltM D) (fun t => zcaB R D t k) := by
  funext b t
  unfold zgb1 zbD zgbc
  cases b with
  | none => rfl
  | some b =>
    have e : decide (D b ≤ D t) = !zltM D b t := by
      unfold zltM
      by_cases q : D b ≤ D t
      · rw [decide_eq_true q, decide_eq_false (by omega)]; rfl
      · rw [decide_eq_false q, decide_eq_true (by omega)]; rfl
    show (bif zcaB R D t k && decide (D b ≤ D t) then some t else some b) = bif zcaB R D t k && !zltM D b t then some t else some b
    rw [e]
theorem zgbN_DN {R : Nat → Int32} {D : Nat → Nat} {k : Nat} : ∀ (r : Nat) (b : Option Nat), zgbN R D k r b = zbDN (zltM D) (fun t => zcaB R D t k) r b
  | 0, _ => rfl
  | r + 1, b => by
    unfold zgbN zbDN
    rw [zgb_D, zgbN_DN r]
/-- the two rows, before place k is given -/
def zRw (k : Nat) (R R' : Nat → Int32) : Prop := (∀ j, j < k → R j = R' j) ∧ (∀ j, k ≤ j → j < 30 → R j = zK (-1)) ∧ R 0 = zK (-1)
theorem zcan_M {R R' : Nat → Int32} {D D' : Nat → Nat} {k t : Nat} (hk1 : 1 ≤ k) (hk : k < 30) (ht : t < 5) (hR : zRw k R R') (hD : zE5 D D') : (decide (0 < D t) && zcanB R (k / 3) (k % 3) t) = zcaB R' D' t k := by
  obtain ⟨r1, r2, r0⟩ := hR
  have hno : ∀ j, k ≤ j → j < 30 → R j ≠ nI t := fun j h1 h2 w => by
    rw [r2 j h1 h2] at w
    exact zK1 (by omega) w.symm
  have iff : (0 < D t ∧ ∀ o, 0 ≤ o → o < 3 → o ≠ k % 3 → zfreeR R t (k / 3) o) ↔ (0 < D' t ∧ zcaP R' t k (k - 1)) := by
    rw [hD t ht]
    constructor
    · rintro ⟨h1, h2⟩
      refine ⟨h1, fun j j1 j2 => ?_⟩
      rintro ⟨e1, e2⟩
      rw [← r1 j (by omega)] at e1
      rcases e2 with e2 | ⟨e2, e3⟩
      · have := (h2 (j % 3) (by omega) (by omega) (by omega)).1
        rw [show k / 3 * 3 + j % 3 = j by omega] at this
        exact this e1
      · have := (h2 (j % 3) (by omega) (by omega) e3).2 (by omega)
        rw [show (k / 3 - 1) * 3 + j % 3 = j by omega] at this
        exact this e1
    · rintro ⟨h1, h2⟩
      refine ⟨h1, fun o o1 o2 o3 => ⟨fun w => ?_, fun h0 w => ?_⟩⟩
      · by_cases q : k / 3 * 3 + o < k
        · by_cases q0 : k / 3 * 3 + o = 0
          · rw [q0, r0] at w
            exact zK1 (by omega) w.symm
          · rw [r1 _ q] at w
            exact h2 (k / 3 * 3 + o) (by omega) (by omega) ⟨w, Or.inl (by omega)⟩
        · exact hno _ (by omega) (by omega) w
      · by_cases q0 : (k / 3 - 1) * 3 + o = 0
        · rw [q0, r0] at w
          exact zK1 (by omega) w.symm
        · rw [r1 _ (by omega)] at w
          exact h2 ((k / 3 - 1) * 3 + o) (by omega) (by omega) ⟨w, Or.inr ⟨by omega, by omega⟩⟩
  unfold zcanB zcaB
  by_cases q : 0 < D' t ∧ zcaP R' t k (k - 1)
  · have q' := iff.mpr q
    rw [decide_eq_true q'.1, @decide_eq_true _ (Classical.propDecidable _) q'.2, @decide_eq_true _ (Classical.propDecidable _) q]
    rfl
  · rw [@decide_eq_false _ (Classical.propDecidable _) q]
    by_cases q1 : 0 < D t
    · rw [decide_eq_true q1, @decide_eq_false _ (Classical.propDecidable _) (fun w => q (iff.mp ⟨q1, w⟩))]
      rfl
    · rw [decide_eq_false q1]
      rfl
theorem zpick_M {R R' : Nat → Int32} {D D' : Nat → Nat} {k : Nat} (hk1 : 1 ≤ k) (hk : k < 30) (hR : zRw k R R') (hD : zE5 D D') : zpick R D (k / 3) (k % 3) = zgbN R' D' k 5 none := by
  unfold zpick
  rw [zgp_U, zgbN_DN]
  refine zmost.1.eq (zmost.2.cg (fun s t hs ht => ?_) (fun t ht => zcan_M hk1 hk ht hR hD))
  unfold zltM
  rw [hD s hs, hD t ht]
theorem zgs_M {R R' : Nat → Int32} {D D' : Nat → Nat} {k : Nat} (hk1 : 1 ≤ k) (hk : k < 30) (hR : zRw k R R') (hD : zE5 D D') : zRw (k + 1) (zgs (R, D) k).1 (zgM (R', D') k).1 ∧ zE5 (zgs (R, D) k).2 (zgM (R', D') k).2 := by
  have hp := zpick_M hk1 hk hR hD
  obtain ⟨r1, r2, r0⟩ := hR
  unfold zgs zgM
  show zRw (k + 1) (if k = 0 then (R, D) else (match zpick R D (k / 3) (k % 3) with | none => (R, D) | some x => ((fun j => if j = k then nI x else R j), zfu D x (D x - 1)))).1 (match zgbN R' D' k 5 none with | none => ((fun j => if j = k then zK (-1) else R' j), D') | some x => ((fun j => if j = k then nI x else R' j), zfu D' x (D' x - 1))).1 ∧ zE5 (if k = 0 then (R, D) else (match zpick R D (k / 3) (k % 3) with | none => (R, D) | some x => ((fun j => if j = k then nI x else R j), zfu D x (D x - 1)))).2 (match zgbN R' D' k 5 none with | none => ((fun j => if j = k then zK (-1) else R' j), D') | some x => ((fun j => if j = k then nI x else R' j), zfu D' x (D' x - 1))).2
  rw [if_neg (by omega), hp]
  cases hq : zgbN R' D' k 5 none with
  | none =>
    refine ⟨⟨fun j hj => ?_, fun j h1 h2 => r2 j (by omega) h2, r0⟩, hD⟩
    show R j = if j = k then zK (-1) else R' j
    by_cases e : j = k
    · rw [if_pos e, e]; exact r2 k (Nat.le_refl _) hk
    · rw [if_neg e]; exact r1 j (by omega)
  | some x =>
    have hx := (zgbN_lt 5 (by omega) (fun x w => by cases w) x hq).1
    refine ⟨⟨fun j hj => ?_, fun j h1 h2 => ?_, ?_⟩, hD.up (by rw [hD x hx])⟩
    · show (if j = k then nI x else R j) = if j = k then nI x else R' j
      by_cases e : j = k
      · rw [if_pos e, if_pos e]
      · rw [if_neg e, if_neg e]; exact r1 j (by omega)
    · show (if j = k then nI x else R j) = _
      rw [if_neg (by omega)]; exact r2 j (by omega) h2
    · show (if 0 = k then nI x else R 0) = _
      rw [if_neg (by omega)]; exact r0
theorem zgs_all : ∀ (n : Nat) {k : Nat} {w w' : zRD}, 1 ≤ k → k + n = 30 → zRw k w.1 w'.1 → zE5 w.2 w'.2 → zRw 30 ((List.range' k n).foldl zgs w).1 ((List.range' k n).foldl zgM w').1
  | 0, k, w, w', h1, hn, hR, _ => by
    have e : k = 30 := by omega
    subst e
    exact hR
  | n + 1, k, w, w', h1, hn, hR, hD => by
    rw [List.range'_succ, List.foldl_cons, List.foldl_cons]
    have h := zgs_M (R := w.1) (R' := w'.1) (D := w.2) (D' := w'.2) h1 (by omega) hR hD
    exact zgs_all n (by omega) (by omega) h.1 h.2
/-- the row, by both -/
theorem zrow_M {R R' : Nat → Int32} {D D' : Nat → Nat} (hD : zE5 D D') : zRw 30 (zgsAll R D).1 (zgMA R' D').1 := by
  unfold zgsAll zgMA
  have e : (List.range' 0 30).foldl zgs ((fun k => if k < 30 then zK (-1) else R k), D) = (List.range' 1 29).foldl zgs ((fun k => if k < 30 then zK (-1) else R k), D) := by
    rw [List.range'_succ, List.foldl_cons]
    rfl
  rw [e]
  refine zgs_all 29 (k := 1) (by omega) rfl ⟨fun j hj => ?_, fun j h1 h2 => ?_, ?_⟩ hD
  · show (if j < 30 then zK (-1) else R j) = if j = 0 then zK (-1) else R' j
    rw [if_pos (by omega), if_pos (by omega)]
  · show (if j < 30 then zK (-1) else R j) = _
    rw [if_pos h2]
  · show (if 0 < 30 then zK (-1) else R 0) = _
    rw [if_pos (by omega)]
/-- a plan's shape -/
def zRwS (k : Nat) (R : Nat → Int32) : Prop := R 0 = zK (-1) ∧ (∀ j, j < k → R j = zK (-1) ∨ ∃ t, t < 5 ∧ R j = nI t) ∧ ∀ i j t, i < k → j < k → t < 5 → i / 3 = j / 3 → R i = nI t → R j = nI t → i = j
theorem zgM_S {w : zRD} {k : Nat} (hk1 : 1 ≤ k) (h : zRwS k w.1) : zRwS (k + 1) (zgM w k).1 := by
  obtain ⟨h0, h1, h2⟩ := h
  unfold zgM
  cases hq : zgbN w.1 w.2 k 5 none with
  | none =>
    show zRwS (k + 1) (fun j => if j = k then zK (-1) else w.1 j)
    refine ⟨(if_neg (show ¬ 0 = k by omega)).trans h0, fun j hj => ?_, fun i j t hi hj ht e a b => ?_⟩
    · show (if j = k then zK (-1) else w.1 j) = zK (-1) ∨ ∃ t, t < 5 ∧ (if j = k then zK (-1) else w.1 j) = nI t
      by_cases q : j = k
      · rw [if_pos q]; exact Or.inl rfl
      · rw [if_neg q]; exact h1 j (by omega)
    · have a : (if i = k then zK (-1) else w.1 i) = nI t := a
      have b : (if j = k then zK (-1) else w.1 j) = nI t := b
      by_cases q : i = k
      · rw [if_pos q] at a; exact absurd a.symm (zK1 (by omega))
      · by_cases q2 : j = k
        · rw [if_pos q2] at b; exact absurd b.symm (zK1 (by omega))
        · rw [if_neg q] at a
          rw [if_neg q2] at b
          exact h2 i j t (by omega) (by omega) ht e a b
  | some x =>
    have hx := (zgbN_lt 5 (by omega) (fun x w => by cases w) x hq).1
    have hB := (zmost (cand := fun t => zcaB w.1 w.2 t k) (D := w.2)).2
    rw [← zgbN_DN, hq] at hB
    have hcan : zcaP w.1 x k (k - 1) := (@of_decide_eq_true _ (Classical.propDecidable _) hB.2.2.1).2
    show zRwS (k + 1) (fun j => if j = k then nI x else w.1 j)
    refine ⟨(if_neg (show ¬ 0 = k by omega)).trans h0, fun j hj => ?_, fun i j t hi hj ht e a b => ?_⟩
    · show (if j = k then nI x else w.1 j) = zK (-1) ∨ ∃ t, t < 5 ∧ (if j = k then nI x else w.1 j) = nI t
      by_cases q : j = k
      · rw [if_pos q]; exact Or.inr ⟨x, hx, rfl⟩
      · rw [if_neg q]; exact h1 j (by omega)
    · have a : (if i = k then nI x else w.1 i) = nI t := a
      have b : (if j = k then nI x else w.1 j) = nI t := b
      by_cases q : i = k
      · by_cases q2 : j = k
        · omega
        · rw [if_pos q] at a
          rw [if_neg q2, ← a] at b
          have j0 : j ≠ 0 := fun w0 => by
            rw [w0, h0] at b
            exact zK1 (by omega) b.symm
          exact absurd ⟨b, Or.inl (by omega)⟩ (hcan j (by omega) (by omega))
      · by_cases q2 : j = k
        · rw [if_pos q2] at b
          rw [if_neg q, ← b] at a
          have i0 : i ≠ 0 := fun w0 => by
            rw [w0, h0] at a
            exact zK1 (by omega) a.symm
          exact absurd ⟨a, Or.inl (by omega)⟩ (hcan i (by omega) (by omega))
        · rw [if_neg q] at a
          rw [if_neg q2] at b
          exact h2 i j t (by omega) (by omega) ht e a b
theorem zgM_Sall : ∀ (n : Nat) {k : Nat} {w : zRD}, 1 ≤ k → zRwS k w.1 → zRwS (k + n) ((List.range' k n).foldl zgM w).1
  | 0, k, w, _, h => h
  | n + 1, k, w, h1, h => by
    rw [List.range'_succ, List.foldl_cons, show k + (n + 1) = k + 1 + n by omega]
    exact zgM_Sall n (by omega) (zgM_S h1 h)
theorem zgMA_S {R : Nat → Int32} {D : Nat → Nat} : zRwS 30 (zgMA R D).1 := by
  unfold zgMA
  refine zgM_Sall 29 (k := 1) (by omega) ⟨rfl, fun j hj => Or.inl ?_, fun i j t hi hj _ _ _ _ => by omega⟩
  show (if j = 0 then zK (-1) else R j) = _
  rw [if_pos (by omega)]
end PLC
