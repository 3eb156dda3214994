/-! A superframe's upkeep: the levels -/
theorem zcoin_e : ∀ N, N < 501 → ∀ t, t < 5 → zcoin (nI N) (nI t) = (nI 37 * nI N + nI 101 * nI t + nI 11) / nI 8 - (nI 37 * nI N + nI 101 * nI t + nI 11) / nI 8 / nI 2 * nI 2 ∧ (zcoin (nI N) (nI t) = nI 0 ∨ zcoin (nI N) (nI t) = nI 1) := by decide +kernel
theorem zsl_ne {f : zM} {h : Int32} {t j : Nat} {x : zA} (hj : ¬ (x = (31, 0, 0) ∧ j = t)) (hj' : ¬ (x = (32, 0, 0) ∧ j = t)) : zsl f h t x j = f x j := by
  unfold zsl
  split
  · split
    · split
      · exact zup_ne hj
      · exact zup_ne hj'
    · exact zup_ne hj'
  · rfl
theorem zsl_cg {f f' : zM} {h : Int32} {t : Nat} (h1 : f' (31, 0, 0) t = f (31, 0, 0) t) (h2 : f' (32, 0, 0) t = f (32, 0, 0) t) (h3 : ∀ j, f' (30, 0, 0) j = f (30, 0, 0) j) : zsl f' h t (31, 0, 0) t = zsl f h t (31, 0, 0) t ∧ zsl f' h t (32, 0, 0) t = zsl f h t (32, 0, 0) t := by
  unfold zsl
  rw [h1, h2, h3, h3]
  by_cases q : f (31, 0, 0) t = nI 1
  · rw [if_pos q, if_pos q]
    by_cases q2 : f (32, 0, 0) t = 0
    · rw [if_pos q2, if_pos q2]
      by_cases q3 : f (30, 0, 0) 35 = nI 1
      · rw [if_pos q3, if_pos q3, zup_eq, zup_eq, zup_nk (by decide), zup_nk (by decide)]
        exact ⟨rfl, h2⟩
      · rw [if_neg q3, if_neg q3, zup_eq, zup_eq, zup_nk (by decide), zup_nk (by decide)]
        exact ⟨h1, rfl⟩
    · rw [if_neg q2, if_neg q2, zup_eq, zup_eq, zup_nk (by decide), zup_nk (by decide)]
      exact ⟨h1, rfl⟩
  · rw [if_neg q, if_neg q]
    exact ⟨h1, h2⟩
theorem zslN_t {f : zM} {h : Int32} : ∀ n t, (zslN f h n (31, 0, 0) t = if t < n then zsl f h t (31, 0, 0) t else f (31, 0, 0) t) ∧ (zslN f h n (32, 0, 0) t = if t < n then zsl f h t (32, 0, 0) t else f (32, 0, 0) t)
  | 0, t => ⟨by rw [if_neg (by omega)]; rfl, by rw [if_neg (by omega)]; rfl⟩
  | n + 1, t => by
    obtain ⟨i1, i2⟩ := zslN_t (f := f) (h := h) n t
    have e : zslN f h (n + 1) = zsl (zslN f h n) h n := rfl
    rw [e]
    by_cases q : t = n
    · subst q
      rw [if_neg (by omega)] at i1 i2
      have := zsl_cg (h := h) i1 i2 (fun j => zslN_ne (f := f) (h := h) (j := j) (by decide) (by decide) t)
      rw [if_pos (by omega), if_pos (by omega)]
      exact this
    · rw [zsl_ne (fun w => q w.2) (fun w => q w.2), zsl_ne (fun w => q w.2) (fun w => q w.2), i1, i2]
      by_cases q2 : t < n
      · rw [if_pos q2, if_pos q2, if_pos (by omega), if_pos (by omega)]
        exact ⟨rfl, rfl⟩
      · rw [if_neg q2, if_neg q2, if_neg (by omega), if_neg (by omega)]
        exact ⟨rfl, rfl⟩
/-- the door's bursts -/
theorem zdoor {s : zM} : ∃ A w, (List.range' 0 5).foldl (zdm s) (none, 0) = (w, A) ∧ A ≤ 5 ∧ (∀ t, w = some t → t < 5 ∧ zaq s t = true) ∧ (∀ t, t < 5 → zaq s t = true → 1 ≤ A ∧ (A = 1 → w = some t)) := by
  refine ⟨_, _, rfl, ?_, ?_, ?_⟩
  · show (zdm s (zdm s (zdm s (zdm s (zdm s (none, 0) 0) 1) 2) 3) 4).2 ≤ 5
    unfold zdm
    cases zaq s 0 <;> cases zaq s 1 <;> cases zaq s 2 <;> cases zaq s 3 <;> cases zaq s 4 <;> decide
  · intro t ht
    have ht : (zdm s (zdm s (zdm s (zdm s (zdm s (none, 0) 0) 1) 2) 3) 4).1 = some t := ht
    unfold zdm at ht
    cases h4 : zaq s 4 with
    | true =>
      rw [h4] at ht
      cases ht
      exact ⟨by omega, h4⟩
    | false =>
      rw [h4] at ht
      cases h3 : zaq s 3 with
      | true => rw [h3] at ht; cases ht; exact ⟨by omega, h3⟩
      | false =>
        rw [h3] at ht
        cases h2 : zaq s 2 with
        | true => rw [h2] at ht; cases ht; exact ⟨by omega, h2⟩
        | false =>
          rw [h2] at ht
          cases h1 : zaq s 1 with
          | true => rw [h1] at ht; cases ht; exact ⟨by omega, h1⟩
          | false =>
            rw [h1] at ht
            cases h0 : zaq s 0 with
            | true => rw [h0] at ht; cases ht; exact ⟨by omega, h0⟩
            | false => rw [h0] at ht; cases ht
  · intro t ht hq
    show 1 ≤ (zdm s (zdm s (zdm s (zdm s (zdm s (none, 0) 0) 1) 2) 3) 4).2 ∧ ((zdm s (zdm s (zdm s (zdm s (zdm s (none, 0) 0) 1) 2) 3) 4).2 = 1 → (zdm s (zdm s (zdm s (zdm s (zdm s (none, 0) 0) 1) 2) 3) 4).1 = some t)
    unfold zdm
    have : t = 0 ∨ t = 1 ∨ t = 2 ∨ t = 3 ∨ t = 4 := by omega
    rcases this with rfl | rfl | rfl | rfl | rfl
    · rw [hq]
      cases zaq s 1 <;> cases zaq s 2 <;> cases zaq s 3 <;> cases zaq s 4 <;> decide
    · rw [hq]
      cases zaq s 0 <;> cases zaq s 2 <;> cases zaq s 3 <;> cases zaq s 4 <;> decide
    · rw [hq]
      cases zaq s 0 <;> cases zaq s 1 <;> cases zaq s 3 <;> cases zaq s 4 <;> decide
    · rw [hq]
      cases zaq s 0 <;> cases zaq s 1 <;> cases zaq s 2 <;> cases zaq s 4 <;> decide
    · rw [hq]
      cases zaq s 0 <;> cases zaq s 1 <;> cases zaq s 2 <;> cases zaq s 3 <;> decide
theorem zwt_at {f : zM} {o : Option Nat} {t j : Nat} : zwt f o (3, t, 0) j = if o = some t ∧ j = 4 then nI 2 else f (3, t, 0) j := by
  unfold zwt
  cases o with
  | none => rw [if_neg (fun w => by cases w.1)]
  | some x =>
    show zup f (3, x, 0) 4 (nI 2) (3, t, 0) j = _
    rw [zup_at]
    by_cases q : x = t ∧ j = 4
    · rw [if_pos ⟨by rw [q.1], q.2⟩, if_pos ⟨by rw [q.1], q.2⟩]
    · rw [if_neg (fun w => q ⟨by have := congrArg (fun y => y.2.1) w.1; simpa using this.symm, w.2⟩), if_neg (fun w => q ⟨Option.some.inj w.1, w.2⟩)]
theorem zwt_ne {f : zM} {o : Option Nat} {x : zA} {j : Nat} (h : x.1 ≠ 3) : zwt f o x j = f x j := by
  unfold zwt
  cases o with
  | none => rfl
  | some t => exact zup_nk (fun w => h (by rw [w]))
/-- the levels, by both -/
theorem zlvl {f s : zM} {N t A : Nat} {o : Option Nat} {h : Int32} (ht : t < 5) (hN : N < 501) (h4 : f (3, t, 0) 4 = s (31, 0, 0) t) (h5 : s (31, 0, 0) t = nI 1 → f (3, t, 0) 5 = s (32, 0, 0) t) (hv : zLv s N t) (h7 : f (0, 0, 0) 7 = nI A) (hA : s (30, 0, 0) 35 = nI A) (hA5 : A ≤ 5) (hn : s (30, 0, 0) 1 = nI N)
    (d1 : o = some t → s (31, 0, 0) t = nI 1 ∧ s (32, 0, 0) t = 0 ∧ A = 1) (d2 : s (31, 0, 0) t = nI 1 → s (32, 0, 0) t = 0 → 1 ≤ A ∧ (A = 1 → ((o = some t ∧ ¬ h = 0) ∨ (o ≠ some t ∧ h = 0)))) :
    zml (zwt f o) (nI N) 5 (3, t, 0) 4 = zsl s h t (31, 0, 0) t ∧ (zsl s h t (31, 0, 0) t = nI 1 → zml (zwt f o) (nI N) 5 (3, t, 0) 5 = zsl s h t (32, 0, 0) t) ∧ ((zsl s h t (31, 0, 0) t = nI 0 ∨ zsl s h t (31, 0, 0) t = nI 1 ∨ zsl s h t (31, 0, 0) t = nI 2 ∨ zsl s h t (31, 0, 0) t = nI 3) ∧ (zsl s h t (31, 0, 0) t = nI 1 → ∃ v, v ≤ N + 1 ∧ zsl s h t (32, 0, 0) t = nI v)) := by
  have m4 : zml (zwt f o) (nI N) 5 (3, t, 0) 4 = zwt f o (3, t, 0) 4 := zml_ne (fun w => absurd w.2.2.2.1 (by decide))
  have m5 : zml (zwt f o) (nI N) 5 (3, t, 0) 5 = if zwt f o (3, t, 0) 4 = nI 1 then zlev (zwt f o) (nI N) t else zwt f o (3, t, 0) 5 := by
    unfold zml
    by_cases q : zwt f o (3, t, 0) 4 = nI 1
    · rw [if_pos ⟨rfl, ht, rfl, rfl, q⟩, if_pos q]
    · rw [if_neg (fun w => q w.2.2.2.2), if_neg q]
  rw [m4, m5]
  have w4 : zwt f o (3, t, 0) 4 = if o = some t then nI 2 else s (31, 0, 0) t := by
    rw [zwt_at, h4]
    by_cases q : o = some t
    · rw [if_pos q, if_pos ⟨q, rfl⟩]
    · rw [if_neg q, if_neg (fun w => q w.1)]
  have w5 : zwt f o (3, t, 0) 5 = f (3, t, 0) 5 := by
    rw [zwt_at, if_neg (fun w => absurd w.2 (by decide))]
  have w7 : zwt f o (0, 0, 0) 7 = nI A := (zwt_ne (by decide)).trans h7
  rw [w4]
  obtain ⟨ec, ec2⟩ := zcoin_e N hN t ht
  by_cases hs : s (31, 0, 0) t = nI 1
  · obtain ⟨v, hvN, hv2⟩ := hv.2 hs
    have h5 := h5 hs
    by_cases hl : s (32, 0, 0) t = 0
    · obtain ⟨a1, a2⟩ := d2 hs hl
      have v0 : v = 0 := by
        rw [hv2] at hl
        exact (nI_eq (a := v) (b := 0) (by omega) (by decide)).mp (hl.trans nI_0.symm)
      by_cases hA1 : A = 1
      · have e31 : zsl s h t (31, 0, 0) t = if h = 0 then nI 1 else nI 2 := by
          unfold zsl
          rw [if_pos hs, if_pos hl, if_pos (by rw [hA, hA1]), zup_eq]
        have e32 : zsl s h t (32, 0, 0) t = nI 0 := by
          unfold zsl
          rw [if_pos hs, if_pos hl, if_pos (by rw [hA, hA1]), zup_nk (by decide), hv2, v0]
        rw [e31, e32]
        rcases a2 hA1 with ⟨b1, b2⟩ | ⟨b1, b2⟩
        · rw [if_pos b1, if_neg b2]
          exact ⟨rfl, fun w => absurd w (by decide), Or.inr (Or.inr (Or.inl rfl)), fun w => absurd w (by decide)⟩
        · rw [if_neg b1, if_pos b2, hs, if_pos rfl]
          refine ⟨rfl, fun _ => ?_, Or.inr (Or.inl rfl), fun _ => ⟨0, by omega, rfl⟩⟩
          unfold zlev
          rw [w7, hA1, if_pos (by decide), w5, h5, hv2, v0]
          decide
      · have e31 : zsl s h t (31, 0, 0) t = nI 1 := by
          unfold zsl
          rw [if_pos hs, if_pos hl, if_neg (by rw [hA]; exact fun w => hA1 ((nI_eq (by omega) (by decide)).mp w)), zup_nk (by decide), hs]
        have e32 : zsl s h t (32, 0, 0) t = zcoin (nI N) (nI t) := by
          unfold zsl
          rw [if_pos hs, if_pos hl, if_neg (by rw [hA]; exact fun w => hA1 ((nI_eq (by omega) (by decide)).mp w)), zup_eq, hn, ec]
        have hno : o ≠ some t := fun w => hA1 (d1 w).2.2
        rw [e31, e32, if_neg hno, hs, if_pos rfl]
        refine ⟨rfl, fun _ => ?_, Or.inr (Or.inl rfl), fun _ => ?_⟩
        · unfold zlev
          rw [w7, if_neg (nI_ge (a := 1) (b := A) (by omega) (by omega)), w5, h5, hv2, v0]
          unfold zlu
          rw [if_pos (by decide)]
        · rcases ec2 with w | w
          · exact ⟨0, by omega, w⟩
          · exact ⟨1, by omega, w⟩
    · have v1 : 1 ≤ v := by
        rcases Nat.eq_zero_or_pos v with r | r
        · rw [r] at hv2; exact absurd (hv2.trans nI_0) hl
        · exact r
      have e31 : zsl s h t (31, 0, 0) t = nI 1 := by
        unfold zsl
        rw [if_pos hs, if_neg hl, zup_nk (by decide), hs]
      have e32 : zsl s h t (32, 0, 0) t = if nI A ≤ nI 1 then nI v - nI 1 else nI v + nI 1 := by
        unfold zsl
        rw [if_pos hs, if_neg hl, zup_eq, hA, hv2]
      have hno : o ≠ some t := fun w => hl (d1 w).2.1
      rw [e31, e32, if_neg hno, hs, if_pos rfl]
      unfold zlev
      rw [w7, w5, h5, hv2]
      by_cases hA1 : nI A ≤ nI 1
      · rw [if_pos hA1, if_pos hA1, nI_sub v1, if_neg (nI_nlt (by omega) (by omega))]
        exact ⟨rfl, fun _ => rfl, Or.inr (Or.inl rfl), fun _ => ⟨v - 1, by omega, rfl⟩⟩
      · rw [if_neg hA1, if_neg hA1]
        unfold zlu
        rw [if_neg (nI_nle v1 (by omega))]
        exact ⟨rfl, fun _ => rfl, Or.inr (Or.inl rfl), fun _ => ⟨v + 1, by omega, nI_add v 1⟩⟩
  · have e31 : zsl s h t (31, 0, 0) t = s (31, 0, 0) t := by
      unfold zsl
      rw [if_neg hs]
    have hno : o ≠ some t := fun w => hs (d1 w).1
    rw [e31, if_neg hno]
    exact ⟨rfl, fun w => absurd w hs, hv.1, fun w => absurd w hs⟩
