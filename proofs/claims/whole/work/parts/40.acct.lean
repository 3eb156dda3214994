/-! Accounts: complete datagrams, passing, noting; reports -/
theorem nI_and (a b : Nat) : nI a &&& nI b = nI (a &&& b) := by
  apply Int32.toBitVec_inj.mp
  show BitVec.ofNat 32 a &&& BitVec.ofNat 32 b = BitVec.ofNat 32 (a &&& b)
  apply BitVec.eq_of_toNat_eq
  simp [Nat.and_mod_two_pow]
theorem nI_par (n : Nat) : nI n &&& nI 1 = nI (n % 2) := by
  rw [nI_and, Nat.and_one_is_mod]
/-- a datagram is complete -/
def zcp (f : zM) (t e : Nat) : Bool := decide (1 ≤ e ∧ e ≤ 60) && (!decide (f (9, t, 0) e = 0) && decide (f (8, t, 0) e = f (9, t, 0) e))
/-- a datagram is passed -/
def zpass (f : zM) (t e : Nat) : zM := zup (bif zcp f t e then zup (zup f (7, t, 0) 3 (f (7, t, 0) 3 + nI 1)) (7, t, 0) 4 (nI e) else f) (7, t, 0) 2 (nI (e + 1))
def zpassN (f : zM) (t e : Nat) : Nat → zM
  | 0 => f
  | n + 1 => zpassN (zpass f t e) t (e + 1) n
theorem zpass_ne {f : zM} {t e : Nat} {a : zA} {k : Nat} (h : a ≠ (7, t, 0) ∨ (k ≠ 2 ∧ k ≠ 3 ∧ k ≠ 4)) : zpass f t e a k = f a k := by
  have h2 : ¬ (a = (7, t, 0) ∧ k = 2) := fun w => h.elim (fun q => q w.1) (fun q => q.1 w.2)
  have h3 : ¬ (a = (7, t, 0) ∧ k = 3) := fun w => h.elim (fun q => q w.1) (fun q => q.2.1 w.2)
  have h4 : ¬ (a = (7, t, 0) ∧ k = 4) := fun w => h.elim (fun q => q w.1) (fun q => q.2.2 w.2)
  unfold zpass
  rw [zup_ne h2]
  cases zcp f t e
  · rfl
  · show zup (zup f (7, t, 0) 3 _) (7, t, 0) 4 _ a k = _
    rw [zup_ne h4, zup_ne h3]
theorem zpass_2 {f : zM} {t e : Nat} : zpass f t e (7, t, 0) 2 = nI (e + 1) := zup_eq
theorem zcp_pass {f : zM} {t e x : Nat} : zcp (zpass f t e) t x = zcp f t x := by
  unfold zcp
  rw [zpass_ne (Or.inl (fun w => by cases w)), zpass_ne (Or.inl (fun w => by cases w))]
section AC
variable {sc : zC} {c s t : Nat} {f : zM} {g : zW} {K : zR → Prop}
abbrev zac (t : Nat) : Option zV := some (.inr (.inl (7, t, 0)))
theorem p_isComplete {e : Nat} (he : e ≤ 61) (k1 : zcp f t e = true → K (.inl (some (.inl (nI 1))), zN c s f g)) (k0 : zcp f t e = false → K (.inl (some (.inl (nI 0))), zN c s f g)) : zT sc 77 0 true [zac t, some (.inl (nI e))] [] (zN c s f g) K := by
  have hno : zcp f t e = false → zT sc 77 38 true [zac t, some (.inl (nI e))] [] (zN c s f g) K := fun w => by
    refine zb ?_
    refine zb ?_
    exact k0 w
  refine zb ?_
  refine p_isWithin (fun a b => ?_) (fun a => ?_)
  · have ha : 1 ≤ e := (nI_leI (by decide) (by omega)).mp a
    have hb : e ≤ 60 := (nI_leI (by omega) (by decide)).mp b
    refine zin (nI_in (N := 61) (by omega) (by decide)) ?_
    rw [nI_clamp (by omega)]
    refine zif (fun q => ?_) (fun q => ?_)
    · have q : f (9, t, 0) e = 0 := q
      exact hno (by unfold zcp; rw [decide_eq_true q]; simp)
    · have q : ¬ f (9, t, 0) e = 0 := q
      refine zin (nI_in (N := 61) (by omega) (by decide)) ?_
      rw [nI_clamp (by omega)]
      refine zin (nI_in (N := 61) (by omega) (by decide)) ?_
      rw [nI_clamp (by omega)]
      refine zif (fun q2 => ?_) (fun q2 => ?_)
      · have q2 : f (8, t, 0) e = f (9, t, 0) e := q2
        refine zb ?_
        exact k1 (by unfold zcp; rw [decide_eq_true ⟨ha, hb⟩, decide_eq_false q, decide_eq_true q2]; rfl)
      · have q2 : ¬ f (8, t, 0) e = f (9, t, 0) e := q2
        exact hno (by unfold zcp; rw [decide_eq_false q2]; simp)
  · refine hno ?_
    unfold zcp
    rw [decide_eq_false]
    · rfl
    · rintro ⟨x, y⟩
      exact a ⟨(nI_leI (by decide) (by omega)).mpr x, (nI_leI (by omega) (by decide)).mpr y⟩
theorem p_countArrived {x : Int32} (k1 : K (.inl none, zN c s (zup (zup f (7, t, 0) 3 (f (7, t, 0) 3 + nI 1)) (7, t, 0) 4 x) g)) : zT sc 75 0 true [zac t, some (.inl x)] [] (zN c s f g) K := by
  refine zb ?_
  exact k1
theorem p_passBelow_loop {b : Nat} (hb : b ≤ 61) (n : Nat) : ∀ {f : zM} {e : Nat} {cl : Bool}, e + n = max e b → f (7, t, 0) 2 = nI e → e ≤ 61 → K (.inl none, zN c s (zpassN f t e n) g) → zT sc 73 0 cl [zac t, some (.inl (nI b))] [] (zN c s f g) K := by
  induction n with
  | zero =>
    intro f e cl hn he h61 hK
    refine zb ?_
    refine zip (show nI b ≤ f (7, t, 0) 2 by rw [he]; exact nI_le (by omega) (by omega)) ?_
    refine zb ?_
    exact hK
  | succ n ih =>
    intro f e cl hn he h61 hK
    have hstep : ∀ b' (f1 : zM), f1 = (bif zcp f t e then zup (zup f (7, t, 0) 3 (f (7, t, 0) 3 + nI 1)) (7, t, 0) 4 (nI e) else f) → zT sc 73 36 b' [zac t, some (.inl (nI b))] [] (zN c s f1 g) K := fun b' f1 e1 => by
      refine zb ?_
      have e2 : f1 (7, t, 0) 2 = nI e := by
        rw [e1]
        cases zcp f t e
        · exact he
        · show zup (zup f (7, t, 0) 3 (f (7, t, 0) 3 + nI 1)) (7, t, 0) 4 (nI e) (7, t, 0) 2 = _
          rw [zup_ne (fun w => by cases w.2), zup_ne (fun w => by cases w.2)]
          exact he
      show zT sc 73 0 false [zac t, some (.inl (nI b))] [] (zN c s (zup f1 (7, t, 0) 2 (f1 (7, t, 0) 2 + nI 1)) g) K
      rw [e2, nI_add, e1]
      exact ih (f := zpass f t e) (e := e + 1) (by omega) zpass_2 (by omega) hK
    refine zb ?_
    refine zin (show ¬ nI b ≤ f (7, t, 0) 2 by rw [he]; exact nI_ge (by omega) (by omega)) ?_
    refine zin (show ¬ (60 : Int32) < f (7, t, 0) 2 by rw [he]; exact nI_nlt (a := 60) (b := e) (by omega) (by decide)) ?_
    show zT sc 77 0 true [zac t, some (.inl (f (7, t, 0) 2))] [] (zN c s f g) _
    rw [he]
    refine p_isComplete (by omega) (fun w => ?_) (fun w => ?_)
    · refine p_countArrived (t := t) ?_
      refine hstep _ _ ?_
      rw [w]
      show zup (zup f (7, t, 0) 3 (f (7, t, 0) 3 + nI 1)) (7, t, 0) 4 (f (7, t, 0) 2) = _
      rw [he]
      rfl
    · refine hstep _ _ ?_
      rw [w]
      rfl
theorem p_passComplete_loop (n : Nat) : ∀ {f : zM} {e : Nat} {cl : Bool}, e + n = 61 → f (7, t, 0) 2 = nI e → (∀ m, e + m ≤ 61 → (∀ j, j < m → zcp f t (e + j) = true) → zcp f t (e + m) = false → K (.inl none, zN c s (zpassN f t e m) g)) → zT sc 74 0 cl [zac t] [] (zN c s f g) K := by
  induction n with
  | zero =>
    intro f e cl hn he hK
    refine zb ?_
    refine zip (show (60 : Int32) < f (7, t, 0) 2 by rw [he]; exact nI_lt (a := 60) (b := e) (by omega) (by omega)) ?_
    refine zb ?_
    refine hK 0 (by omega) (fun j hj => absurd hj (Nat.not_lt_zero _)) ?_
    unfold zcp
    rw [decide_eq_false (by omega)]
    rfl
  | succ n ih =>
    intro f e cl hn he hK
    refine zb ?_
    refine zin (show ¬ (60 : Int32) < f (7, t, 0) 2 by rw [he]; exact nI_nlt (a := 60) (b := e) (by omega) (by decide)) ?_
    show zT sc 77 0 true [zac t, some (.inl (f (7, t, 0) 2))] [] (zN c s f g) _
    rw [he]
    refine p_isComplete (by omega) (fun w => ?_) (fun w => ?_)
    · refine p_countArrived (t := t) ?_
      show zT sc 74 0 false [zac t] [] (zN c s (zup (zup (zup f (7, t, 0) 3 (f (7, t, 0) 3 + nI 1)) (7, t, 0) 4 (f (7, t, 0) 2)) (7, t, 0) 2 (zup (zup f (7, t, 0) 3 (f (7, t, 0) 3 + nI 1)) (7, t, 0) 4 (f (7, t, 0) 2) (7, t, 0) 2 + nI 1)) g) K
      have e2 : zup (zup (zup f (7, t, 0) 3 (f (7, t, 0) 3 + nI 1)) (7, t, 0) 4 (f (7, t, 0) 2)) (7, t, 0) 2 (zup (zup f (7, t, 0) 3 (f (7, t, 0) 3 + nI 1)) (7, t, 0) 4 (f (7, t, 0) 2) (7, t, 0) 2 + nI 1) = zpass f t e := by
        rw [zup_ne (fun w => by cases w.2), zup_ne (fun w => by cases w.2), he, nI_add]
        unfold zpass
        rw [w]
        rfl
      rw [e2]
      refine ih (by omega) zpass_2 (fun m hm h1 h2 => ?_)
      refine hK (m + 1) (by omega) (fun j hj => ?_) ?_
      · cases j with
        | zero => exact w
        | succ j =>
          have := h1 j (by omega)
          rw [zcp_pass] at this
          rw [show e + (j + 1) = e + 1 + j by omega]
          exact this
      · rw [zcp_pass] at h2
        rw [show e + (m + 1) = e + 1 + m by omega]
        exact h2
    · refine zb ?_
      exact hK 0 (by omega) (fun j hj => absurd hj (Nat.not_lt_zero _)) w
/-- a cell is noted -/
def znote (f : zM) (t q d : Nat) : zM := zup (zup f (8, t, 0) d (f (8, t, 0) d ||| (nI 1 <<< (f (19, q, 0) 4 &&& 31)))) (9, t, 0) d ((nI 1 <<< (f (19, q, 0) 5 &&& 31)) - nI 1)
theorem p_noteCell {q e : Nat} (he : f (7, t, 0) 2 = nI e) (h61 : e ≤ 61) (k1 : ∀ d, f (19, q, 0) 3 = nI d → e ≤ d → d ≤ 60 → K (.inl none, zN c s (znote f t q d) g)) (k0 : (∀ d, f (19, q, 0) 3 = nI d → e ≤ d → ¬ d ≤ 60) → K (.inl none, zN c s f g)) : zT sc 76 0 true [zac t, zbu q] [] (zN c s f g) K := by
  refine zb ?_
  refine zif (fun w => ?_) (fun w => ?_)
  · have w : f (19, q, 0) 3 < f (7, t, 0) 2 := w
    rw [he] at w
    refine zb ?_
    refine k0 (fun d hd h1 h2 => ?_)
    rw [hd] at w
    exact nI_nlt h1 (by omega) w
  · have w : ¬ f (19, q, 0) 3 < f (7, t, 0) 2 := w
    rw [he] at w
    refine zif (fun w2 => ?_) (fun w2 => ?_)
    · have w2 : (60 : Int32) < f (19, q, 0) 3 := w2
      refine zb ?_
      refine k0 (fun d hd h1 h2 => ?_)
      rw [hd] at w2
      exact nI_nlt (a := 60) h2 (by decide) w2
    · have w2 : ¬ (60 : Int32) < f (19, q, 0) 3 := w2
      obtain ⟨d, hd, h1, h2⟩ : ∃ d, f (19, q, 0) 3 = nI d ∧ e ≤ d ∧ d ≤ 60 := by
        rw [Int32.lt_iff_toInt_lt] at w w2
        rw [nI_toInt (by omega)] at w
        have e60 : (60 : Int32).toInt = 60 := rfl
        rw [e60] at w2
        refine ⟨(f (19, q, 0) 3).toInt.toNat, ?_, by omega, by omega⟩
        rw [← Int32.toInt_inj, nI_toInt (by omega)]
        omega
      have hin : ¬ (f (19, q, 0) 3 < 0 ∨ 61 ≤ (f (19, q, 0) 3).toNatClampNeg) := by
        rw [hd]; exact nI_in (by omega) (by decide)
      refine zin hin ?_
      refine zin hin ?_
      refine zin hin ?_
      refine zb ?_
      have hcl : (f (19, q, 0) 3).toNatClampNeg = d := by rw [hd, nI_clamp (by omega)]
      have key := k1 d hd h1 h2
      rw [← hcl] at key
      have e3 : zup f (8, t, 0) (f (19, q, 0) 3).toNatClampNeg (f (8, t, 0) (f (19, q, 0) 3).toNatClampNeg ||| (nI 1 <<< (f (19, q, 0) 4 &&& 31))) (19, q, 0) 5 = f (19, q, 0) 5 := zup_ne (fun w => by cases w.1)
      unfold znote at key
      rw [← e3] at key
      exact key
/-- which report -/
theorem p_reportOf {x : Int32} {h : zS} (hh : h.2.2.2.1 = fun _ _ => true) {p : Nat} (hp : p < 2) (hx : x &&& nI 1 = nI p) (k : K (.inl (some (.inr (.inl (10, t, p)))), h)) : zT sc 68 0 true [zac t, some (.inl x)] [] h K := by
  obtain ⟨h1, h2, h3, h4, h5, h6⟩ := h
  have hh : h4 = fun _ _ => true := hh
  subst hh
  refine zb ?_
  refine zif (fun w => ?_) (fun w => ?_)
  · have w : x &&& nI 1 = 0 := w
    rw [hx] at w
    have : p = 0 := (nI_eq (by omega) (by decide)).mp (w.trans nI_0.symm)
    subst this
    refine zb ?_
    exact k
  · have w : ¬ x &&& nI 1 = 0 := w
    rw [hx] at w
    have : p = 1 := by
      rcases Nat.lt_or_ge p 1 with q | q
      · exact absurd (by rw [show p = 0 by omega]; exact nI_0) w
      · omega
    subst this
    refine zb ?_
    refine zb ?_
    exact k
end AC
