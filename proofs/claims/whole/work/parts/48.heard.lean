/-! Who is heard -/
/-- the offset one slot before, one slot behind -/
def zofA (f : zM) (sn : Nat → Option Nat) (k : Nat) : Int32 := if k < 3 then nI 0 else zofs f sn (k - 3)
def zofB (f : zM) (sn : Nat → Option Nat) (k : Nat) : Int32 := if 27 ≤ k then nI 0 else zofs f sn (k + 3)
/-- nothing disturbs a burst in a place -/
def zclr (f : zM) (sn : Nat → Option Nat) (k : Nat) : Bool := decide (zK (-8) ≤ zofs f sn k ∧ zofs f sn k ≤ nI 8) && (!decide (nI 8 < zofA f sn k) && !decide (zofB f sn k < zK (-8)))
def zheB (f : zM) (sn : Nat → Option Nat) (k : Nat) : Bool := (sn k).isSome && (decide (f (20, 0, 0) k = 0) && (if k = 0 then decide (f (0, 0, 0) 7 = nI 1) else zclr f sn k))
section HD
variable {sc : zC} {c s : Nat} {g : zW} {K : zR → Prop}
theorem zslo_lo {ca : Nat} : ¬ zslo (nI 0 - nI 1) (nI ca) := fun w => absurd w.1.1 (by decide +kernel)
theorem zslo_hi {ca : Nat} : ¬ zslo (nI 9 + nI 1) (nI ca) := fun w => absurd w.1.2 (by decide +kernel)
theorem p_isHeard {f : zM} {sn : Nat → Option Nat} (hS : zSn f sn) {sl ca : Nat} (h1 : sl < 10) (h2 : ca < 3) (k1 : zheB f sn (sl * 3 + ca) = true → K (.inl (some (.inl (nI 1))), zN c s f g)) (k0 : zheB f sn (sl * 3 + ca) = false → K (.inl (some (.inl (nI 0))), zN c s f g)) : zT sc 26 0 true [zsu, some (.inl (nI sl)), some (.inl (nI ca))] [] (zN c s f g) K := by
  have e2 : nI sl * nI 3 + nI ca = nI (sl * 3 + ca) := by rw [nI_mul, nI_add]
  obtain ⟨e3, e4⟩ := hS (sl * 3 + ca) (by omega)
  have hno : ∀ v, zheB f sn (sl * 3 + ca) = false → zT sc 26 28 true [zsu, some (.inl (nI sl)), some (.inl (nI ca)), v] [] (zN c s f g) K := fun v w => by
    refine zb ?_
    exact k0 w
  have hno2 : ∀ v, zheB f sn (sl * 3 + ca) = false → zT sc 26 94 true [zsu, some (.inl (nI sl)), some (.inl (nI ca)), v] [] (zN c s f g) K := fun v w => by
    refine zb ?_
    refine zb ?_
    exact k0 w
  refine zb ?_
  refine p_positionOf ?_
  rw [e2]
  refine zin (nI_in (N := 30) (show sl * 3 + ca < 30 by omega) (by decide)) ?_
  rw [nI_clamp (show sl * 3 + ca < 2 ^ 31 by omega)]
  refine zif (fun q => ?_) (fun q => ?_)
  · have q : f (19, sl * 3 + ca, 0) 0 = zK (-1) := q
    refine hno _ ?_
    unfold zheB
    cases hs : sn (sl * 3 + ca) with
    | none => rfl
    | some t =>
      rw [e3, hs] at q
      exact absurd q (zK1 (by have := e4 t hs; omega))
  · have q : ¬ f (19, sl * 3 + ca, 0) 0 = zK (-1) := q
    have hsome : (sn (sl * 3 + ca)).isSome = true := by
      cases hs : sn (sl * 3 + ca) with
      | none =>
        rw [e3, hs] at q
        exact absurd rfl q
      | some t => rfl
    refine zin (nI_in (N := 30) (show sl * 3 + ca < 30 by omega) (by decide)) ?_
    rw [nI_clamp (show sl * 3 + ca < 2 ^ 31 by omega)]
    refine zif (fun q2 => ?_) (fun q2 => ?_)
    · have q2 : f (20, 0, 0) (sl * 3 + ca) = 0 := q2
      have hB : zheB f sn (sl * 3 + ca) = if sl * 3 + ca = 0 then decide (f (0, 0, 0) 7 = nI 1) else zclr f sn (sl * 3 + ca) := by
        unfold zheB
        rw [hsome, decide_eq_true q2]
        rfl
      refine zb ?_
      by_cases q3 : sl * 3 + ca = 0
      · rw [if_pos q3] at hB
        refine zip (show nI (sl * 3 + ca) = 0 by rw [q3]; exact nI_0) ?_
        refine zif (fun q4 => ?_) (fun q4 => ?_)
        · have q4 : f (0, 0, 0) 7 = nI 1 := q4
          refine zb ?_
          exact k1 (by rw [hB]; exact decide_eq_true q4)
        · have q4 : ¬ f (0, 0, 0) 7 = nI 1 := q4
          refine zb ?_
          refine zb ?_
          exact k0 (by rw [hB]; exact decide_eq_false q4)
      · rw [if_neg q3] at hB
        refine zin (show ¬ nI (sl * 3 + ca) = 0 from nI_ne0 (by omega) (by omega)) ?_
        refine zb ?_
        refine p_offsetIn hS h1 h2 ?_
        refine p_isWithin (fun a1 b1 => ?_) (fun a1 => ?_)
        · have hA : ∀ {K' : zR → Prop}, K' (.inl (some (.inl (zofA f sn (sl * 3 + ca)))), zN c s f g) → zT sc 27 0 true [zsu, some (.inl (nI sl - nI 1)), some (.inl (nI ca))] [] (zN c s f g) K' := fun {K'} hk => by
            unfold zofA at hk
            by_cases q5 : sl = 0
            · subst q5
              rw [if_pos (by omega)] at hk
              exact p_offsetIn_no zslo_lo hk
            · rw [if_neg (by omega), show sl * 3 + ca - 3 = (sl - 1) * 3 + ca by omega] at hk
              rw [nI_sub (by omega)]
              exact p_offsetIn hS (by omega) h2 hk
          have hBf : ∀ {K' : zR → Prop}, K' (.inl (some (.inl (zofB f sn (sl * 3 + ca)))), zN c s f g) → zT sc 27 0 true [zsu, some (.inl (nI sl + nI 1)), some (.inl (nI ca))] [] (zN c s f g) K' := fun {K'} hk => by
            unfold zofB at hk
            by_cases q5 : sl = 9
            · subst q5
              rw [if_pos (by omega)] at hk
              exact p_offsetIn_no zslo_hi hk
            · rw [if_neg (by omega), show sl * 3 + ca + 3 = (sl + 1) * 3 + ca by omega] at hk
              rw [nI_add]
              exact p_offsetIn hS (by omega) h2 hk
          refine hA ?_
          refine zif (fun q6 => ?_) (fun q6 => ?_)
          · refine hno2 _ ?_
            rw [hB]
            unfold zclr
            rw [decide_eq_true (show nI 8 < zofA f sn (sl * 3 + ca) from q6)]
            simp
          · refine hBf ?_
            refine zif (fun q7 => ?_) (fun q7 => ?_)
            · refine hno2 _ ?_
              rw [hB]
              unfold zclr
              rw [decide_eq_true (show zofB f sn (sl * 3 + ca) < zK (-8) from q7)]
              simp
            · refine zb ?_
              refine k1 ?_
              rw [hB]
              unfold zclr
              rw [decide_eq_true (show zK (-8) ≤ zofs f sn (sl * 3 + ca) ∧ zofs f sn (sl * 3 + ca) ≤ nI 8 from ⟨a1, b1⟩), decide_eq_false (show ¬ nI 8 < zofA f sn (sl * 3 + ca) from q6), decide_eq_false (show ¬ zofB f sn (sl * 3 + ca) < zK (-8) from q7)]
              rfl
        · refine hno2 _ ?_
          rw [hB]
          unfold zclr
          rw [decide_eq_false (show ¬ (zK (-8) ≤ zofs f sn (sl * 3 + ca) ∧ zofs f sn (sl * 3 + ca) ≤ nI 8) from a1)]
          rfl
    · have q2 : ¬ f (20, 0, 0) (sl * 3 + ca) = 0 := q2
      refine hno _ ?_
      unfold zheB
      rw [decide_eq_false q2]
      simp
end HD
