/-! The reference: slots, positions, counting, the base -/
section MO4
variable {sc : zC} {c s : Nat} {f : zM} {g : zW} {K : zR → Prop} {x y z : Int32} {h : zS}
theorem zslo_iff {x y : Int32} : zslo x y ↔ (¬ x < 0 ∧ ¬ nI 10 ≤ x) ∧ ¬ y < 0 ∧ ¬ nI 3 ≤ y := by
  unfold zslo
  rw [Int32.le_iff_toInt_le, Int32.le_iff_toInt_le, Int32.le_iff_toInt_le, Int32.le_iff_toInt_le, Int32.le_iff_toInt_le, Int32.le_iff_toInt_le, Int32.lt_iff_toInt_lt, Int32.lt_iff_toInt_lt, nI_toInt (by decide), nI_toInt (by decide)]
  have e0 : (0 : Int32).toInt = 0 := rfl
  have e9 : (9 : Int32).toInt = 9 := rfl
  have e2 : (2 : Int32).toInt = 2 := rfl
  rw [e0, e9, e2]
  omega
theorem q_isSlot (h1 : zslo x y → K (.inl (some (.inl (nI 1))), h)) (h0 : ¬ zslo x y → K (.inl (some (.inl (nI 0))), h)) : zT sc 36 0 true [some (.inl x), some (.inl y)] [] h K := by
  have hno : ¬ zslo x y → zT sc 36 23 true [some (.inl x), some (.inl y)] [] h K := fun w => by
    refine zb ?_
    refine zb ?_
    exact h0 w
  refine zb ?_
  refine zif (fun q => hno (fun w => (zslo_iff.mp w).1.1 q)) (fun q => ?_)
  refine zif (fun q2 => hno (fun w => (zslo_iff.mp w).1.2 q2)) (fun q2 => ?_)
  refine zif (fun q3 => hno (fun w => (zslo_iff.mp w).2.1 q3)) (fun q3 => ?_)
  refine zif (fun q4 => hno (fun w => (zslo_iff.mp w).2.2 q4)) (fun q4 => ?_)
  refine zb ?_
  exact h1 (zslo_iff.mpr ⟨⟨q, q2⟩, q3, q4⟩)
theorem q_atI (hK : K (.inl (some (.inl (nI 6 * (nI 61 * x + y) + z))), h)) : zT sc 37 0 true [some (.inl x), some (.inl y), some (.inl z)] [] h K := by
  refine zb ?_
  exact hK
theorem zat_e (a b d : Nat) : nI 6 * (nI 61 * nI a + nI b) + nI d = nI (366 * a + 6 * b + d) := by
  rw [nI_mul, nI_add, nI_mul, nI_add]
  congr 1; omega
theorem zat_1 (a : Nat) : nI 6 * (nI 61 * (nI a + nI 1) + nI 0) + nI 0 = nI (366 * a + 366) := by
  rw [nI_add, zat_e]
  congr 1
/-- how many of the n values from a on are v -/
def zmc (R : Nat → Int32) (v : Int32) (a : Nat) : Nat → Nat
  | 0 => 0
  | k + 1 => zmc R v a k + (if R (a + k) = v then 1 else 0)
theorem zmc_le (R : Nat → Int32) (v : Int32) (a : Nat) : ∀ n, zmc R v a n ≤ n
  | 0 => Nat.le_refl _
  | n + 1 => by
    have := zmc_le R v a n
    unfold zmc
    split <;> omega
theorem q_count_loop {t : Nat} {v : Int32} (ht : t < 5) (n : Nat) : ∀ {i : Nat}, i + n = 366 → K (.inl (some (.inl (nI (zmc (f (41, 0, 0)) v (366 * t) 366)))), zN c s f g) → zT sc 38 10 true [zmo, some (.inl (nI t)), some (.inl v), some (.inl (nI (zmc (f (41, 0, 0)) v (366 * t) i))), some (.inl (nI (366 * t + i)))] [] (zN c s f g) K := by
  induction n with
  | zero =>
    intro i hi hK
    have e : i = 366 := by omega
    subst e
    refine zb ?_
    refine q_atI ?_
    refine zip (show nI 6 * (nI 61 * (nI t + nI 1) + nI 0) + nI 0 ≤ nI (366 * t + 366) from ?_) ?_
    · rw [zat_1]
      exact nI_le (Nat.le_refl _) (by omega)
    · refine zb ?_
      exact hK
  | succ n ih =>
    intro i hi hK
    have e : zmc (f (41, 0, 0)) v (366 * t) (i + 1) = zmc (f (41, 0, 0)) v (366 * t) i + (if f (41, 0, 0) (366 * t + i) = v then 1 else 0) := rfl
    have h := ih (i := i + 1) (by omega) hK
    rw [← Nat.add_assoc] at h
    refine zb ?_
    refine q_atI ?_
    refine zin (show ¬ nI 6 * (nI 61 * (nI t + nI 1) + nI 0) + nI 0 ≤ nI (366 * t + i) from ?_) ?_
    · rw [zat_1]
      exact nI_ge (by omega) (by omega)
    refine zin (nI_in (N := 1830) (by omega) (by decide)) ?_
    rw [nI_clamp (show 366 * t + i < 2 ^ 31 by omega)]
    refine zif (fun q => ?_) (fun q => ?_)
    · have q : f (41, 0, 0) (366 * t + i) = v := q
      rw [e, if_pos q, ← nI_add, ← nI_add] at h
      refine zb ?_
      exact h
    · have q : ¬ f (41, 0, 0) (366 * t + i) = v := q
      rw [e, if_neg q, Nat.add_zero, ← nI_add] at h
      refine zb ?_
      refine zb ?_
      exact h
theorem q_count {t : Nat} {v : Int32} (ht : t < 5) (hK : K (.inl (some (.inl (nI (zmc (f (41, 0, 0)) v (366 * t) 366)))), zN c s f g)) : zT sc 38 0 true [zmo, some (.inl (nI t)), some (.inl v)] [] (zN c s f g) K := by
  refine zb ?_
  refine q_atI ?_
  have h := q_count_loop (sc := sc) (K := K) (v := v) (f := f) (c := c) (s := s) (g := g) ht 366 (i := 0) rfl hK
  rw [show nI (366 * t + 0) = nI 6 * (nI 61 * nI t + nI 0) + nI 0 by rw [zat_e]] at h
  exact h
end MO4
