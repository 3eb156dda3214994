/-! The planner: places -/
section PL4
variable {sc : zC} {c s : Nat} {g : zW} {K : zR → Prop}
theorem p_sg {Q : Nat → Nat} {f : zM} {D G : Nat → Nat} {S : Nat} (hP : zPR f D G S) (hQ : zPQ f Q) (hK : ∀ f', zPf f f' → zPR f' ((List.range' 0 5).foldl (zsg f Q) (D, G, 0)).1 ((List.range' 0 5).foldl (zsg f Q) (D, G, 0)).2.1 ((List.range' 0 5).foldl (zsg f Q) (D, G, 0)).2.2 → K (.inl none, zN c s f' g)) : zT sc 95 0 true [zpl0, zte0, zac0] [] (zN c s f g) K := by
  refine zb ?_
  have hf : zPf f (zup f (13, 0, 0) 2 0) := zPf.up (Or.inl rfl)
  refine p_sg_loop (f := zup f (13, 0, 0) 2 0) (D := D) (G := G) (S := 0) 5 (i := 0) rfl ⟨fun x hx => ?_, zup_eq.trans nI_0.symm, by omega⟩ (hQ.pf hf) (by omega) (fun f' k1 k2 => ?_)
  · rw [zup_ne (fun w => by cases w.1), zup_ne (fun w => by cases w.1)]
    exact hP.1 x hx
  · rw [zsg_pf hf] at k2
    exact hK f' (hf.tr k1) k2
abbrev zrow (p : Nat) : Option zV := some (.inr (.inl (17, p, 0)))
theorem p_fill_loop {p : Nat} {v : Int32} (n : Nat) : ∀ {f : zM} {i : Nat} {cl : Bool}, i + n = 30 → (∀ f', (∀ x k, f' x k = if x = (17, p, 0) ∧ i ≤ k ∧ k < 30 then v else f x k) → K (.inl none, zN c s f' g)) → zT sc 125 5 cl [zrow p, some (.inl v), some (.inl (nI i)), some (.inl (nI 30))] [] (zN c s f g) K := by
  induction n with
  | zero =>
    intro f i cl hi hK
    refine zb ?_
    refine zip (nI_le (a := 30) (b := i) (by omega) (by omega)) ?_
    refine zb ?_
    exact hK f (fun x k => by rw [if_neg (by omega)])
  | succ n ih =>
    intro f i cl hi hK
    refine zb ?_
    refine zin (nI_ge (a := i) (b := 30) (by omega) (by decide)) ?_
    refine zin (nI_in (N := 30) (by omega) (by decide)) ?_
    rw [nI_clamp (show i < 2 ^ 31 by omega)]
    show zT sc 125 5 false [zrow p, some (.inl v), some (.inl (nI i + nI 1)), some (.inl (nI 30))] [] (zN c s (zup f (17, p, 0) i v) g) K
    rw [nI_add]
    refine ih (by omega) (fun f' h => hK f' (fun x k => ?_))
    rw [h x k, zup_at]
    by_cases q : x = (17, p, 0)
    · by_cases q2 : k = i
      · rw [if_neg (by omega), if_pos ⟨q, q2⟩, if_pos ⟨q, by omega, by omega⟩]
      · rw [if_neg (c := x = (17, p, 0) ∧ k = i) (fun w => q2 w.2)]
        by_cases q3 : i ≤ k ∧ k < 30
        · rw [if_pos ⟨q, by omega, by omega⟩, if_pos ⟨q, q3⟩]
        · rw [if_neg (by omega), if_neg (fun w => q3 w.2)]
    · rw [if_neg (fun w => q w.1), if_neg (fun w => q w.1), if_neg (fun w => q w.1)]
theorem p_fill {p : Nat} {v : Int32} {f : zM} (hK : ∀ f', (∀ x k, f' x k = if x = (17, p, 0) ∧ 0 ≤ k ∧ k < 30 then v else f x k) → K (.inl none, zN c s f' g)) : zT sc 125 0 true [zrow p, some (.inl v)] [] (zN c s f g) K := by
  refine zb ?_
  exact p_fill_loop 30 (i := 0) rfl hK
/-- the other carriers o leave t free -/
def zfree1 (f : zM) (p t sl o : Nat) : Prop := f (17, p, 0) (sl * 3 + o) ≠ nI t ∧ (0 < sl → f (17, p, 0) ((sl - 1) * 3 + o) ≠ nI t)
theorem p_can_loop {f : zM} {p t sl ca : Nat} (hsl : sl < 10) (hca : ca < 3) (n : Nat) : ∀ {i : Nat}, i + n = 3 → ((∀ o, i ≤ o → o < 3 → o ≠ ca → zfree1 f p t sl o) → K (.inl (some (.inl (nI 1))), zN c s f g)) → (¬ (∀ o, i ≤ o → o < 3 → o ≠ ca → zfree1 f p t sl o) → K (.inl (some (.inl (nI 0))), zN c s f g)) → zT sc 104 3 true [zrow p, some (.inl (nI t)), some (.inl (nI sl)), some (.inl (nI ca)), some (.inl (nI i))] [] (zN c s f g) K := by
  induction n with
  | zero =>
    intro i hi k1 k0
    refine zb ?_
    refine zip (nI_le (a := 3) (b := i) (by omega) (by omega)) ?_
    refine zb ?_
    exact k1 (fun o h1 h2 => by omega)
  | succ n ih =>
    intro i hi k1 k0
    have hgo : (i ≠ ca → zfree1 f p t sl i) → zT sc 104 50 true [zrow p, some (.inl (nI t)), some (.inl (nI sl)), some (.inl (nI ca)), some (.inl (nI i))] [] (zN c s f g) K := fun w => by
      refine zb ?_
      show zT sc 104 3 true [zrow p, some (.inl (nI t)), some (.inl (nI sl)), some (.inl (nI ca)), some (.inl (nI i + nI 1))] [] (zN c s f g) K
      rw [nI_add]
      refine ih (by omega) (fun h => k1 (fun o h1 h2 h3 => ?_)) (fun h => k0 (fun h1 => h (fun o h2 h3 h4 => h1 o (by omega) h3 h4)))
      by_cases q : o = i
      · subst q
        exact w h3
      · exact h o (by omega) h2 h3
    have hbad : i ≠ ca → ¬ zfree1 f p t sl i → zT sc 104 48 true [zrow p, some (.inl (nI t)), some (.inl (nI sl)), some (.inl (nI ca)), some (.inl (nI i))] [] (zN c s f g) K := fun w1 w2 => by
      refine zb ?_
      exact k0 (fun h => w2 (h i (Nat.le_refl _) (by omega) w1))
    refine zb ?_
    refine zin (nI_ge (a := i) (b := 3) (by omega) (by decide)) ?_
    refine zif (fun q => ?_) (fun q => ?_)
    · have q : nI i = nI ca := q
      exact hgo (fun w => absurd ((nI_eq (by omega) (by omega)).mp q) w)
    · have q : ¬ nI i = nI ca := q
      have hne : i ≠ ca := fun w => q (by rw [w])
      refine zb ?_
      refine p_positionOf ?_
      have e1 : nI sl * nI 3 + nI i = nI (sl * 3 + i) := by rw [nI_mul, nI_add]
      refine zin (show ¬ (nI sl * nI 3 + nI i < 0 ∨ 30 ≤ (nI sl * nI 3 + nI i).toNatClampNeg) by rw [e1]; exact nI_in (by omega) (by decide)) ?_
      rw [e1, nI_clamp (show sl * 3 + i < 2 ^ 31 by omega)]
      refine zif (fun q2 => ?_) (fun q2 => ?_)
      · have q2 : f (17, p, 0) (sl * 3 + i) = nI t := q2
        exact hbad hne (fun w => w.1 q2)
      · have q2 : ¬ f (17, p, 0) (sl * 3 + i) = nI t := q2
        by_cases q3 : sl = 0
        · refine zip (show nI sl ≤ 0 by rw [q3]; decide) ?_
          exact hgo (fun _ => ⟨q2, fun w => by omega⟩)
        · refine zin (nI_nle (n := sl) (by omega) (by omega)) ?_
          refine p_positionOf ?_
          have e2 : (nI sl - nI 1) * nI 3 + nI i = nI ((sl - 1) * 3 + i) := by rw [nI_sub (by omega), nI_mul, nI_add]
          refine zin (show ¬ ((nI sl - nI 1) * nI 3 + nI i < 0 ∨ 30 ≤ ((nI sl - nI 1) * nI 3 + nI i).toNatClampNeg) by rw [e2]; exact nI_in (by omega) (by decide)) ?_
          show (if f (17, p, 0) ((nI sl - nI 1) * nI 3 + nI i).toNatClampNeg = nI t then _ else _)
          rw [e2, nI_clamp (show (sl - 1) * 3 + i < 2 ^ 31 by omega)]
          refine zif (fun q4 => ?_) (fun q4 => ?_)
          · exact hbad hne (fun w => w.2 (by omega) q4)
          · exact hgo (fun _ => ⟨q2, fun _ => q4⟩)
end PL4
