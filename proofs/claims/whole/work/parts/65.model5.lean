/-! The reference: the base -/
section MO5
variable {sc : zC} {c s : Nat} {f : zM} {g : zW} {K : zR → Prop} {t M : Nat} {z : Nat → Nat}
theorem zsz_e (a b : Nat) : nI 61 * nI a + nI b = nI (61 * a + b) := by rw [nI_mul, nI_add]
/-- the sizes of the datagrams of a terminal -/
def zSz (f : zM) (t M : Nat) (z : Nat → Nat) : Prop := f (36, 0, 0) t = nI M ∧ M ≤ 60 ∧ ∀ d, 1 ≤ d → d ≤ M → f (40, 0, 0) (61 * t + d) = nI (z d) ∧ 1 ≤ z d ∧ z d ≤ 6
/-- b is the base -/
def zBs (f : zM) (t M : Nat) (z : Nat → Nat) (b : Nat) : Prop := 1 ≤ b ∧ b ≤ M + 1 ∧ (∀ d k, 1 ≤ d → d < b → k < z d → f (41, 0, 0) (366 * t + 6 * d + k) = nI 3) ∧ (b ≤ M → ∃ k, k < z b ∧ ¬ f (41, 0, 0) (366 * t + 6 * b + k) = nI 3)
theorem q_base_in (ht : t < 5) {d : Nat} (hd : d ≤ 60) (hz : f (40, 0, 0) (61 * t + d) = nI (z d)) (hz6 : z d ≤ 6) (n : Nat) : ∀ {i : Nat}, i + n = z d → (∀ k, k < i → f (41, 0, 0) (366 * t + 6 * d + k) = nI 3) → ((∃ k, k < z d ∧ ¬ f (41, 0, 0) (366 * t + 6 * d + k) = nI 3) → K (.inl (some (.inl (nI d))), zN c s f g)) → ((∀ k, k < z d → f (41, 0, 0) (366 * t + 6 * d + k) = nI 3) → ∀ i, zT sc 39 2 true [zmo, some (.inl (nI t)), some (.inl (nI (d + 1))), some (.inl (nI i))] [] (zN c s f g) K) → zT sc 39 14 true [zmo, some (.inl (nI t)), some (.inl (nI d)), some (.inl (nI i))] [] (zN c s f g) K := by
  induction n with
  | zero =>
    intro i hi ha k1 k0
    have e : i = z d := by omega
    subst e
    refine zb ?_
    refine zin (show ¬ (nI 61 * nI t + nI d < 0 ∨ 305 ≤ (nI 61 * nI t + nI d).toNatClampNeg) by rw [zsz_e]; exact nI_in (N := 305) (by omega) (by decide)) ?_
    refine zip (show f (40, 0, 0) (nI 61 * nI t + nI d).toNatClampNeg ≤ nI (z d) from ?_) ?_
    · rw [zsz_e, nI_clamp (by omega), hz]
      exact nI_le (Nat.le_refl _) (by omega)
    refine zb ?_
    have h := k0 ha (z d)
    rw [← nI_add] at h
    exact h
  | succ n ih =>
    intro i hi ha k1 k0
    refine zb ?_
    refine zin (show ¬ (nI 61 * nI t + nI d < 0 ∨ 305 ≤ (nI 61 * nI t + nI d).toNatClampNeg) by rw [zsz_e]; exact nI_in (N := 305) (by omega) (by decide)) ?_
    refine zin (show ¬ f (40, 0, 0) (nI 61 * nI t + nI d).toNatClampNeg ≤ nI i from ?_) ?_
    · rw [zsz_e, nI_clamp (by omega), hz]
      exact nI_ge (by omega) (by omega)
    refine q_atI ?_
    refine zin (show ¬ (nI 6 * (nI 61 * nI t + nI d) + nI i < 0 ∨ 1830 ≤ (nI 6 * (nI 61 * nI t + nI d) + nI i).toNatClampNeg) by rw [zat_e]; exact nI_in (N := 1830) (by omega) (by decide)) ?_
    have ec : (nI 6 * (nI 61 * nI t + nI d) + nI i).toNatClampNeg = 366 * t + 6 * d + i := by rw [zat_e, nI_clamp (by omega)]
    refine zif (fun q => ?_) (fun q => ?_)
    · have q : f (41, 0, 0) (nI 6 * (nI 61 * nI t + nI d) + nI i).toNatClampNeg = nI 3 := q
      rw [ec] at q
      refine zb ?_
      have h := ih (i := i + 1) (by omega) (fun k hk => by
        by_cases e : k = i
        · rw [e]; exact q
        · exact ha k (by omega)) k1 k0
      rw [← nI_add] at h
      exact h
    · have q : ¬ f (41, 0, 0) (nI 6 * (nI 61 * nI t + nI d) + nI i).toNatClampNeg = nI 3 := q
      rw [ec] at q
      exact k1 ⟨i, by omega, q⟩
theorem q_base_loop (ht : t < 5) (hS : zSz f t M z) (n : Nat) : ∀ {d : Nat}, 1 ≤ d → d + n = M + 1 → (∀ e k, 1 ≤ e → e < d → k < z e → f (41, 0, 0) (366 * t + 6 * e + k) = nI 3) → (∀ b, zBs f t M z b → K (.inl (some (.inl (nI b))), zN c s f g)) → ∀ {lv : zL}, (lv = [] ∨ ∃ v, lv = [v]) → zT sc 39 2 true (zmo :: some (.inl (nI t)) :: some (.inl (nI d)) :: lv) [] (zN c s f g) K := by
  obtain ⟨hM, hM60, hz⟩ := hS
  induction n with
  | zero =>
    intro d h1 hd ha hK lv hlv
    have e : d = M + 1 := by omega
    subst e
    have hk := hK (M + 1) ⟨by omega, by omega, ha, fun w => by omega⟩
    rcases hlv with rfl | ⟨v, rfl⟩
    all_goals
      refine zb ?_
      refine zin (nI_in (N := 5) ht (by decide)) ?_
      rw [nI_clamp (show t < 2 ^ 31 by omega)]
      refine zip (show f (36, 0, 0) t < nI (M + 1) by rw [hM]; exact nI_lt (by omega) (by omega)) ?_
      refine zb ?_
      refine zin (nI_in (N := 5) ht (by decide)) ?_
      rw [nI_clamp (show t < 2 ^ 31 by omega)]
      rw [← nI_add, ← hM] at hk
      exact hk
  | succ n ih =>
    intro d h1 hd ha hK lv hlv
    obtain ⟨z1, z2, z3⟩ := hz d h1 (by omega)
    have key : zT sc 39 14 true [zmo, some (.inl (nI t)), some (.inl (nI d)), some (.inl (nI 0))] [] (zN c s f g) K := by
      refine q_base_in ht (d := d) (by omega) z1 z3 (z d) (i := 0) (by omega) (fun k w => by omega) (fun w => ?_) (fun w i => ?_)
      · exact hK d ⟨h1, by omega, ha, fun _ => w⟩
      · refine ih (d := d + 1) (by omega) (by omega) (fun e k e1 e2 e3 => ?_) hK (Or.inr ⟨_, rfl⟩)
        by_cases q : e = d
        · subst q; exact w k e3
        · exact ha e k e1 (by omega) e3
    rcases hlv with rfl | ⟨v, rfl⟩
    all_goals
      refine zb ?_
      refine zin (nI_in (N := 5) ht (by decide)) ?_
      rw [nI_clamp (show t < 2 ^ 31 by omega)]
      refine zin (show ¬ f (36, 0, 0) t < nI d by rw [hM]; exact nI_nlt (by omega) (by omega)) ?_
      exact key
theorem q_base (ht : t < 5) (hS : zSz f t M z) (hK : ∀ b, zBs f t M z b → K (.inl (some (.inl (nI b))), zN c s f g)) : zT sc 39 0 true [zmo, some (.inl (nI t))] [] (zN c s f g) K := by
  refine zb ?_
  exact q_base_loop ht hS M (d := 1) (by omega) (by omega) (fun e k e1 e2 => by omega) hK (Or.inl rfl)
end MO5
