/-! Offsets drift; who is heard -/
section HE
variable {sc : zC} {c s : Nat} {g : zW} {K : zR → Prop}
abbrev zsu : Option zV := some (.inr (.inl (0, 0, 0)))
theorem p_drift_loop (n : Nat) : ∀ {f : zM} {i : Nat} {cl : Bool}, i + n = 5 → (∀ f', (∀ x k, f' x k = if x.1 = 3 ∧ i ≤ x.2.1 ∧ x.2.1 < 5 ∧ x.2.2 = 0 ∧ k = 2 then f x 2 + f x 3 else f x k) → K (.inl none, zN c s f' g)) → zT sc 22 2 cl [zsu, some (.inl (nI i))] [] (zN c s f g) K := by
  induction n with
  | zero =>
    intro f i cl hi hK
    refine zb ?_
    refine zip (nI_le (a := 5) (b := i) (by omega) (by omega)) ?_
    refine zb ?_
    exact hK f (fun x k => by rw [if_neg (by omega)])
  | succ n ih =>
    intro f i cl hi hK
    refine zb ?_
    refine zin (nI_ge (a := i) (b := 5) (by omega) (by decide)) ?_
    refine zin (nI_in (N := 5) (by omega) (by decide)) ?_
    refine zin (nI_in (N := 5) (by omega) (by decide)) ?_
    rw [nI_clamp (show i < 2 ^ 31 by omega)]
    show zT sc 22 2 false [zsu, some (.inl (nI i + nI 1))] [] (zN c s (zup f (3, i, 0) 2 (f (3, i, 0) 2 + f (3, i, 0) 3)) g) K
    rw [nI_add]
    refine ih (by omega) (fun f' h => hK f' (fun x k => ?_))
    rw [h x k]
    by_cases q : x = (3, i, 0)
    · subst q
      rw [if_neg (fun w => by have := w.2.1; simp at this; omega), zup_at]
      by_cases q2 : k = 2
      · rw [if_pos ⟨rfl, q2⟩, if_pos ⟨rfl, Nat.le_refl _, by show i < 5; omega, rfl, q2⟩]
      · rw [if_neg (fun w => q2 w.2), if_neg (fun w => q2 w.2.2.2.2)]
    · have e : ∀ j, zup f (3, i, 0) 2 (f (3, i, 0) 2 + f (3, i, 0) 3) x j = f x j := fun j => zup_ne (fun w => q w.1)
      rw [e, e, e]
      by_cases q2 : x.1 = 3 ∧ i ≤ x.2.1 ∧ x.2.1 < 5 ∧ x.2.2 = 0 ∧ k = 2
      · have : x.2.1 ≠ i := fun w => q (Prod.ext q2.1 (Prod.ext w q2.2.2.2.1))
        rw [if_pos q2, if_pos ⟨q2.1, by omega, q2.2.2⟩]
      · rw [if_neg q2, if_neg (fun w => q2 ⟨w.1, by omega, w.2.2⟩)]
theorem p_driftOffsets {f : zM} (hK : ∀ f', (∀ x k, f' x k = if x.1 = 3 ∧ 0 ≤ x.2.1 ∧ x.2.1 < 5 ∧ x.2.2 = 0 ∧ k = 2 then f x 2 + f x 3 else f x k) → K (.inl none, zN c s f' g)) : zT sc 22 0 true [zsu] [] (zN c s f g) K := by
  refine zb ?_
  exact p_drift_loop 5 (i := 0) rfl hK
/-- who sends where -/
def zSn (f : zM) (sn : Nat → Option Nat) : Prop := ∀ k, k < 30 → f (19, k, 0) 0 = zopt (sn k) ∧ ∀ t, sn k = some t → t < 5
/-- the offset in a place; 0 in the door, or where nobody sends -/
def zofs (f : zM) (sn : Nat → Option Nat) (k : Nat) : Int32 := if k = 0 then nI 0 else match sn k with
  | none => nI 0
  | some t => f (3, t, 0) 2
theorem zslo_of {sl ca : Nat} (h1 : sl < 10) (h2 : ca < 3) : zslo (nI sl) (nI ca) := by
  refine ⟨⟨?_, ?_⟩, ?_, ?_⟩ <;> rw [Int32.le_iff_toInt_le, nI_toInt (by omega)]
  · show (0 : Int) ≤ _; omega
  · show _ ≤ (9 : Int); omega
  · show (0 : Int) ≤ _; omega
  · show _ ≤ (2 : Int); omega
theorem p_offsetIn {f : zM} {sn : Nat → Option Nat} (hS : zSn f sn) {sl ca : Nat} (h1 : sl < 10) (h2 : ca < 3) (hK : K (.inl (some (.inl (zofs f sn (sl * 3 + ca)))), zN c s f g)) : zT sc 27 0 true [zsu, some (.inl (nI sl)), some (.inl (nI ca))] [] (zN c s f g) K := by
  have e2 : nI sl * nI 3 + nI ca = nI (sl * 3 + ca) := by rw [nI_mul, nI_add]
  refine zb ?_
  refine p_isSlot (fun _ => ?_) (fun w => absurd (zslo_of h1 h2) w)
  refine p_positionOf ?_
  by_cases q : sl * 3 + ca = 0
  · refine zip (show nI sl * nI 3 + nI ca = 0 by rw [e2, q]; exact nI_0) ?_
    refine zb ?_
    rw [q] at hK
    exact hK
  · refine zin (show ¬ nI sl * nI 3 + nI ca = 0 by rw [e2]; exact nI_ne0 (by omega) (by omega)) ?_
    obtain ⟨e3, e4⟩ := hS (sl * 3 + ca) (by omega)
    refine zb ?_
    refine p_positionOf ?_
    refine zin (show ¬ (nI sl * nI 3 + nI ca < 0 ∨ 30 ≤ (nI sl * nI 3 + nI ca).toNatClampNeg) by rw [e2]; exact nI_in (by omega) (by decide)) ?_
    show zT sc 15 0 true [some (.inl (f (19, (nI sl * nI 3 + nI ca).toNatClampNeg, 0) 0))] [] (zN c s f g) _
    unfold zofs at hK
    rw [if_neg q] at hK
    have e5 : f (19, (nI sl * nI 3 + nI ca).toNatClampNeg, 0) 0 = zopt (sn (sl * 3 + ca)) := by rw [e2, nI_clamp (show sl * 3 + ca < 2 ^ 31 by omega), e3]
    cases hs : sn (sl * 3 + ca) with
    | none =>
      rw [hs] at e5 hK
      refine p_isTerminal (fun w => absurd w ?_) (fun w => ?_)
      · rw [e5]
        unfold zter zopt
        decide +kernel
      · refine zb ?_
        refine zb ?_
        exact hK
    | some t =>
      rw [hs] at e5 hK
      have ht := e4 t hs
      refine p_isTerminal (fun w => ?_) (fun w => absurd (by rw [e5]; exact zter_of ht) w)
      refine zin (show ¬ (f (19, (nI sl * nI 3 + nI ca).toNatClampNeg, 0) 0 < 0 ∨ 5 ≤ (f (19, (nI sl * nI 3 + nI ca).toNatClampNeg, 0) 0).toNatClampNeg) by rw [e5]; exact nI_in ht (by decide)) ?_
      refine zb ?_
      show K (.inl (some (.inl (f (3, (f (19, (nI sl * nI 3 + nI ca).toNatClampNeg, 0) 0).toNatClampNeg, 0) 2))), zN c s f g)
      rw [e5, show (zopt (some t)).toNatClampNeg = t from nI_clamp (by omega)]
      exact hK
theorem p_offsetIn_no {f : zM} {x : Int32} {ca : Nat} (h : ¬ zslo x (nI ca)) (hK : K (.inl (some (.inl (nI 0))), zN c s f g)) : zT sc 27 0 true [zsu, some (.inl x), some (.inl (nI ca))] [] (zN c s f g) K := by
  refine zb ?_
  refine p_isSlot (fun w => absurd w h) (fun _ => ?_)
  refine zb ?_
  exact hK
end HE
