/-! How many places -/
def zpc (R : Nat → Int32) (t : Nat) : Nat → Nat
  | 0 => 0
  | k + 1 => zpc R t k + (if R k = nI t then 1 else 0)
section PC
variable {sc : zC} {c s : Nat} {f : zM} {g : zW} {K : zR → Prop} {x y : Int32}
theorem p_places_loop {t p : Nat} (n : Nat) : ∀ {i : Nat}, i + n = 30 → K (.inl (some (.inl (nI (zpc (f (17, p, 0)) t 30)))), zN c s f g) → zT sc 11 51 true [zsu, some (.inl (nI t)), some (.inl y), zrow p, some (.inl (nI (zpc (f (17, p, 0)) t i))), some (.inl (nI i))] [] (zN c s f g) K := by
  induction n with
  | zero =>
    intro i hi hK
    have e : i = 30 := by omega
    subst e
    refine zb ?_
    refine zb ?_
    exact hK
  | succ n ih =>
    intro i hi hK
    have e : zpc (f (17, p, 0)) t (i + 1) = zpc (f (17, p, 0)) t i + (if f (17, p, 0) i = nI t then 1 else 0) := rfl
    have h := ih (i := i + 1) (by omega) hK
    refine zb ?_
    refine zin (nI_ge (a := i) (b := 30) (by omega) (by decide)) ?_
    refine zin (nI_in (N := 30) (by omega) (by decide)) ?_
    rw [nI_clamp (show i < 2 ^ 31 by omega)]
    refine zif (fun q => ?_) (fun q => ?_)
    · have q : f (17, p, 0) i = nI t := q
      rw [e, if_pos q, ← nI_add, ← nI_add] at h
      refine zb ?_
      exact h
    · have q : ¬ f (17, p, 0) i = nI t := q
      rw [e, if_neg q, Nat.add_zero, ← nI_add] at h
      refine zb ?_
      exact h
theorem p_places {n : Nat} (hc : 258 ≤ c) (hn : f (0, 0, 0) 8 = nI n) (k1 : ∀ t a, t < 5 → a < 2 → x = nI t → y = nI a → K (.inl (some (.inl (nI (zpc (f (17, (n + a) % 2, 0)) t 30)))), zN c s f g)) (k0 : ¬ (zter x ∧ (0 ≤ y ∧ y ≤ 1)) → K (.inr (0, (99, c, 0)), zN (c + 1) (s + 6) f g)) : zT sc 11 0 true [zsu, some (.inl x), some (.inl y)] [] (zN c s f g) K := by
  refine zb ?_
  refine p_isTerminal (fun a => ?_) (fun a => ?_)
  · obtain ⟨t, ht, rfl⟩ := zter_n a
    refine zb ?_
    refine p_isAhead (fun b => ?_) (fun b => ?_)
    · obtain ⟨ah, h3, rfl⟩ := zah_n b
      refine zb ?_
      show zT sc 19 0 true [zsu, some (.inl (f (0, 0, 0) 8 + nI ah))] [] (zN c s f g) _
      rw [hn, nI_add]
      refine p_planOf ?_
      exact p_places_loop 30 (i := 0) rfl (k1 t ah ht h3 rfl rfl)
    · exact zib (zthr hc) (k0 (fun w => b w.2))
  · exact zib (zthr hc) (k0 (fun w => a w.1))
end PC
