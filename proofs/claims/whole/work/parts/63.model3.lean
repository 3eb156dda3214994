/-! The reference: rates -/
section MO3
variable {sc : zC} {c s : Nat} {f : zM} {g : zW} {K : zR → Prop} {x y z : Int32}
theorem q_rates (k1 : ∀ t, t < 5 → x = nI t → (0 ≤ y ∧ y ≤ nI 5) → (nI 1 ≤ z ∧ z ≤ nI 4) → K (.inl none, zN c s (zup (zup (zup f (30, 0, 0) 0 (nI 0)) (38, 0, 0) t y) (39, 0, 0) t z) g)) (k0 : ¬ (zter x ∧ (0 ≤ y ∧ y ≤ nI 5) ∧ (nI 1 ≤ z ∧ z ≤ nI 4)) → K (.inl none, zN c s (zup f (30, 0, 0) 0 (nI 1)) g)) : zT sc 55 0 true [zmo, some (.inl x), some (.inl y), some (.inl z)] [] (zN c s f g) K := by
  have hno : ¬ (zter x ∧ (0 ≤ y ∧ y ≤ nI 5) ∧ (nI 1 ≤ z ∧ z ≤ nI 4)) → zT sc 55 31 true [zmo, some (.inl x), some (.inl y), some (.inl z)] [.inr (.inl (30, 0, 0))] (zN c s f g) K := fun w => by
    refine zb ?_
    refine zb ?_
    refine zb ?_
    exact k0 w
  refine zb ?_
  refine q_isTerminal (fun a => ?_) (fun a => hno (fun w => a w.1))
  obtain ⟨t, ht, rfl⟩ := zter_n a
  refine zif (fun q => hno (fun w => ile.mp w.2.1.1 q)) (fun q => ?_)
  refine zif (fun q2 => hno (fun w => ile.mp w.2.1.2 q2)) (fun q2 => ?_)
  refine zif (fun q3 => hno (fun w => ile.mp w.2.2.1 q3)) (fun q3 => ?_)
  refine zif (fun q4 => hno (fun w => ile.mp w.2.2.2 q4)) (fun q4 => ?_)
  refine zb ?_
  refine zin (nI_in (N := 5) ht (by decide)) ?_
  refine zin (nI_in (N := 5) ht (by decide)) ?_
  rw [nI_clamp (show t < 2 ^ 31 by omega)]
  refine zb ?_
  exact k1 t ht rfl ⟨ile.mpr q, ile.mpr q2⟩ ⟨ile.mpr q3, ile.mpr q4⟩
end MO3
