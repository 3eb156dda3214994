/-! The reference: small methods -/
section MO
variable {sc : zC} {c s : Nat} {f : zM} {g : zW} {K : zR → Prop} {x y : Int32} {h : zS}
abbrev zmo : Option zV := some (.inr (.inl (30, 0, 0)))
theorem q_thrown (hK : K (.inl (some (.inl (f (30, 0, 0) 0))), zN c s f g)) : zT sc 34 0 true [zmo] [] (zN c s f g) K := by
  refine zb ?_
  exact hK
theorem q_at {a b d : Nat} (hK : K (.inl (some (.inl (nI (6 * (61 * a + b) + d)))), h)) : zT sc 37 0 true [some (.inl (nI a)), some (.inl (nI b)), some (.inl (nI d))] [] h K := by
  rw [← nI_add, ← nI_mul, ← nI_add, ← nI_mul] at hK
  refine zb ?_
  exact hK
theorem zter_iff {x : Int32} : zter x ↔ ¬ x < 0 ∧ ¬ nI 5 ≤ x := by
  unfold zter
  rw [Int32.le_iff_toInt_le, Int32.le_iff_toInt_le, Int32.le_iff_toInt_le, Int32.lt_iff_toInt_lt, nI_toInt (by decide)]
  have e0 : (0 : Int32).toInt = 0 := rfl
  have e4 : (4 : Int32).toInt = 4 := rfl
  rw [e0, e4]
  omega
theorem q_isTerminal (h1 : zter x → K (.inl (some (.inl (nI 1))), h)) (h0 : ¬ zter x → K (.inl (some (.inl (nI 0))), h)) : zT sc 35 0 true [some (.inl x)] [] h K := by
  refine zb ?_
  refine zif (fun q => ?_) (fun q => ?_)
  · refine zb ?_
    refine zb ?_
    exact h0 (fun w => (zter_iff.mp w).1 q)
  · refine zif (fun q2 => ?_) (fun q2 => ?_)
    · refine zb ?_
      refine zb ?_
      exact h0 (fun w => (zter_iff.mp w).2 q2)
    · refine zb ?_
      exact h1 (zter_iff.mpr ⟨q, q2⟩)
theorem q_played (hK : K (.inl (some (.inl (f (30, 0, 0) 1))), zN c s (zup f (30, 0, 0) 0 (nI 0)) g)) : zT sc 60 0 true [zmo] [] (zN c s f g) K := by
  refine zb ?_
  exact hK
theorem q_missed (hK : K (.inl (some (.inl (f (30, 0, 0) 2))), zN c s (zup f (30, 0, 0) 0 (nI 0)) g)) : zT sc 66 0 true [zmo] [] (zN c s f g) K := by
  refine zb ?_
  exact hK
end MO
