/-! A burst in a place is noted; the door -/
theorem zpassN_ne {t : Nat} {a : zA} {k : Nat} (h : a ≠ (7, t, 0) ∨ (k ≠ 2 ∧ k ≠ 3 ∧ k ≠ 4)) : ∀ (n : Nat) {f : zM} {e : Nat}, zpassN f t e n a k = f a k
  | 0, _, _ => rfl
  | n + 1, f, e => (zpassN_ne h n).trans (zpass_ne h)
theorem zpassN_2 {t : Nat} : ∀ (n : Nat) {f : zM} {e : Nat}, f (7, t, 0) 2 = nI e → zpassN f t e n (7, t, 0) 2 = nI (e + n)
  | 0, _, _, h => h
  | n + 1, f, e, _ => by
    have := zpassN_2 n (f := zpass f t e) (e := e + 1) zpass_2
    rw [show e + (n + 1) = e + 1 + n by omega]
    exact this
section NP
variable {sc : zC} {c s t q : Nat} {f : zM} {g : zW} {K : zR → Prop} {k : Int32}
def znp1 (f : zM) (t q : Nat) (k : Int32) : zM := zup (zup f (7, t, 0) 5 k) (7, t, 0) 1 (f (19, q, 0) 1)
theorem p_noteInPlace {b e : Nat} (hb : f (19, q, 0) 2 = nI b) (hb61 : b ≤ 61) (he : f (7, t, 0) 2 = nI e) (he61 : e ≤ 61)
    (hK : ∀ f3 m, ((∃ d, f (19, q, 0) 3 = nI d ∧ max e b ≤ d ∧ d ≤ 60 ∧ f3 = znote (zpassN (znp1 f t q k) t e (max e b - e)) t q d) ∨ ((∀ d, f (19, q, 0) 3 = nI d → max e b ≤ d → ¬ d ≤ 60) ∧ f3 = zpassN (znp1 f t q k) t e (max e b - e))) → max e b + m ≤ 61 → (∀ j, j < m → zcp f3 t (max e b + j) = true) → zcp f3 t (max e b + m) = false → K (.inl none, zN c s (zpassN f3 t (max e b) m) g)) :
    zT sc 71 0 true [zac t, zbu q, some (.inl k)] [] (zN c s f g) K := by
  have e1 : znp1 f t q k (7, t, 0) 2 = nI e := by
    unfold znp1
    rw [zup_ne (fun w => by cases w.2), zup_ne (fun w => by cases w.2)]
    exact he
  have eb : ∀ j, znp1 f t q k (19, q, 0) j = f (19, q, 0) j := fun j => by
    unfold znp1
    rw [zup_ne (fun w => by cases w.1), zup_ne (fun w => by cases w.1)]
  have e0 : zup f (7, t, 0) 5 k (19, q, 0) 1 = f (19, q, 0) 1 := zup_ne (fun w => by cases w.1)
  refine zb ?_
  show zT sc 73 0 true [zac t, some (.inl (zup (zup f (7, t, 0) 5 k) (7, t, 0) 1 (zup f (7, t, 0) 5 k (19, q, 0) 1) (19, q, 0) 2))] [] (zN c s (zup (zup f (7, t, 0) 5 k) (7, t, 0) 1 (zup f (7, t, 0) 5 k (19, q, 0) 1)) g) _
  rw [e0]
  show zT sc 73 0 true [zac t, some (.inl (znp1 f t q k (19, q, 0) 2))] [] (zN c s (znp1 f t q k) g) _
  rw [eb, hb]
  refine p_passBelow_loop hb61 (max e b - e) (e := e) (by omega) e1 he61 ?_
  have e2 : zpassN (znp1 f t q k) t e (max e b - e) (7, t, 0) 2 = nI (max e b) := by
    rw [zpassN_2 _ e1]
    congr 1
    omega
  have e3 : zpassN (znp1 f t q k) t e (max e b - e) (19, q, 0) 3 = f (19, q, 0) 3 := (zpassN_ne (Or.inl (fun w => by cases w)) _).trans (eb 3)
  have h61 : max e b ≤ 61 := by omega
  refine p_noteCell (q := q) e2 h61 (fun d w1 w2 w3 => ?_) (fun w => ?_)
  · have e4 : znote (zpassN (znp1 f t q k) t e (max e b - e)) t q d (7, t, 0) 2 = nI (max e b) := by
      unfold znote
      rw [zup_ne (fun w => by cases w.1), zup_ne (fun w => by cases w.1)]
      exact e2
    refine p_passComplete_loop (61 - max e b) (e := max e b) (by omega) e4 (fun m m1 m2 m3 => ?_)
    exact hK _ m (Or.inl ⟨d, e3.symm.trans w1, w2, w3, rfl⟩) m1 m2 m3
  · refine p_passComplete_loop (61 - max e b) (e := max e b) (by omega) e2 (fun m m1 m2 m3 => ?_)
    exact hK _ m (Or.inr ⟨fun d h1 h2 => w d (e3.trans h1) h2, rfl⟩) m1 m2 m3
/-- a terminal asks in the door -/
def zask (f : zM) (t : Nat) : Bool := decide (f (3, t, 0) 4 = nI 1) && decide (f (3, t, 0) 5 = 0)
def zdo (f : zM) (w : Option Nat × Nat) (t : Nat) : Option Nat × Nat := bif zask f t then (some t, w.2 + 1) else w
/-- the door's heap -/
def zdh (f : zM) (w : Option Nat × Nat) : zM := zup (zup f (0, 0, 0) 7 (nI w.2)) (19, 0, 0) 0 (zopt w.1)
theorem zdh_3 {f : zM} {w : Option Nat × Nat} {t j : Nat} : zdh f w (3, t, 0) j = f (3, t, 0) j := by
  unfold zdh
  rw [zup_ne (fun w => by cases w.1), zup_ne (fun w => by cases w.1)]
theorem zdh_st {f : zM} {w : Option Nat × Nat} {t : Nat} : zup (zup (zdh f w) (19, 0, 0) 0 (nI t)) (0, 0, 0) 7 (nI (w.2 + 1)) = zdh f (some t, w.2 + 1) := by
  funext x j
  unfold zdh
  rw [zup_at, zup_at, zup_at, zup_at, zup_at, zup_at]
  by_cases a : x = (0, 0, 0) ∧ j = 7
  · have b : ¬ (x = (19, 0, 0) ∧ j = 0) := fun w => by have := a.1.symm.trans w.1; cases this
    rw [if_pos a, if_neg b, if_pos a]
  · rw [if_neg a]
    by_cases b : x = (19, 0, 0) ∧ j = 0
    · rw [if_pos b, if_pos b]
      rfl
    · rw [if_neg b, if_neg b, if_neg b, if_neg a, if_neg a]
theorem p_door_loop (n : Nat) : ∀ {i : Nat} {w : Option Nat × Nat} {cl : Bool}, i + n = 5 → K (.inl none, zN c s (zdh f ((List.range' i n).foldl (zdo f) w)) g) → zT sc 24 17 cl [zsu, some (.inl (nI i))] [] (zN c s (zdh f w) g) K := by
  induction n with
  | zero =>
    intro i w cl hi hK
    refine zb ?_
    refine zip (nI_le (a := 5) (b := i) (by omega) (by omega)) ?_
    refine zb ?_
    exact hK
  | succ n ih =>
    intro i w cl hi hK
    have hi5 : i < 5 := by omega
    rw [List.range'_succ, List.foldl_cons] at hK
    have hno : ∀ b, zask f i = false → zT sc 24 67 b [zsu, some (.inl (nI i))] [] (zN c s (zdh f w) g) K := fun b h => by
      have e : zdo f w i = w := by unfold zdo; rw [h]; rfl
      rw [e] at hK
      refine zb ?_
      show zT sc 24 17 b [zsu, some (.inl (nI i + nI 1))] [] (zN c s (zdh f w) g) K
      rw [nI_add]
      exact ih (by omega) hK
    refine zb ?_
    refine zin (nI_ge (a := i) (b := 5) (by omega) (by decide)) ?_
    refine zin (nI_in (N := 5) hi5 (by decide)) ?_
    rw [nI_clamp (show i < 2 ^ 31 by omega)]
    refine zif (fun q => ?_) (fun q => ?_)
    · have q : zdh f w (3, i, 0) 4 = nI 1 := q
      rw [zdh_3] at q
      refine zin (nI_in (N := 5) hi5 (by decide)) ?_
      rw [nI_clamp (show i < 2 ^ 31 by omega)]
      refine zif (fun q2 => ?_) (fun q2 => ?_)
      · have q2 : zdh f w (3, i, 0) 5 = 0 := q2
        rw [zdh_3] at q2
        have e : zdo f w i = (some i, w.2 + 1) := by
          unfold zdo zask
          rw [decide_eq_true q, decide_eq_true q2]
          rfl
        rw [e] at hK
        refine zb ?_
        show zT sc 24 17 false [zsu, some (.inl (nI i + nI 1))] [] (zN c s (zup (zup (zdh f w) (19, 0, 0) 0 (nI i)) (0, 0, 0) 7 (zup (zdh f w) (19, 0, 0) 0 (nI i) (0, 0, 0) 7 + nI 1)) g) K
        have e7 : zup (zdh f w) (19, 0, 0) 0 (nI i) (0, 0, 0) 7 = nI w.2 := by
          unfold zdh
          rw [zup_ne (fun w => by cases w.1), zup_ne (fun w => by cases w.1), zup_eq]
        rw [e7, nI_add, nI_add, zdh_st]
        exact ih (by omega) hK
      · have q2 : ¬ zdh f w (3, i, 0) 5 = 0 := q2
        rw [zdh_3] at q2
        exact hno _ (by unfold zask; rw [decide_eq_false q2]; simp)
    · have q : ¬ zdh f w (3, i, 0) 4 = nI 1 := q
      rw [zdh_3] at q
      exact hno _ (by unfold zask; rw [decide_eq_false q]; rfl)
theorem p_door (hK : K (.inl none, zN c s (zdh f ((List.range' 0 5).foldl (zdo f) (none, 0))) g)) : zT sc 24 0 true [zsu] [] (zN c s f g) K := by
  refine zb ?_
  exact p_door_loop (f := f) 5 (i := 0) (w := (none, 0)) rfl hK
end NP
