/-! The planner: who is due how much -/
theorem nI_mul (a b : Nat) : nI a * nI b = nI (a * b) := (Int32.ofNat_mul a b).symm
def zfu (D : Nat → Nat) (t v : Nat) : Nat → Nat := fun x => if x = t then v else D x
/-- the planner's rows -/
def zPR (f : zM) (D G : Nat → Nat) (S : Nat) : Prop := (∀ t, t < 5 → f (14, 0, 0) t = nI (D t) ∧ f (15, 0, 0) t = nI (G t) ∧ D t < 100 ∧ G t < 100) ∧ f (13, 0, 0) 2 = nI S ∧ S < 1000
/-- what the planner reads of terminals and accounts -/
def zIn (f : zM) (t : Nat) : Bool := !decide (f (7, t, 0) 0 = 0)
def zPW (f : zM) (W : Nat → Nat) : Prop := ∀ t, t < 5 → f (3, t, 0) 1 = nI (W t) ∧ W t < 100
def zPf (f f' : zM) : Prop := ∀ a k, ¬ (a.1 = 13 ∨ a.1 = 14 ∨ a.1 = 15) → f' a k = f a k
theorem zPf.rf {f : zM} : zPf f f := fun _ _ _ => rfl
theorem zPf.tr {f f' f'' : zM} (h : zPf f f') (h' : zPf f' f'') : zPf f f'' := fun a k q => (h' a k q).trans (h a k q)
theorem zPf.up {f : zM} {a : zA} {k : Nat} {v : Int32} (ha : a.1 = 13 ∨ a.1 = 14 ∨ a.1 = 15) : zPf f (zup f a k v) := fun x j h => zup_ne (by rintro ⟨rfl, -⟩; exact h ha)
theorem zIn.pf {f f' : zM} (h : zPf f f') (t : Nat) : zIn f' t = zIn f t := by
  unfold zIn
  rw [h _ _ (by show ¬ ((7 : Nat) = 13 ∨ (7 : Nat) = 14 ∨ (7 : Nat) = 15); decide)]
theorem zPW.pf {f f' : zM} {W : Nat → Nat} (h : zPf f f') (hW : zPW f W) : zPW f' W := fun t ht => by
  rw [h _ _ (by show ¬ ((3 : Nat) = 13 ∨ (3 : Nat) = 14 ∨ (3 : Nat) = 15); decide)]
  exact hW t ht
section PL
variable {sc : zC} {c s : Nat} {g : zW} {K : zR → Prop} {D G W : Nat → Nat} {S t : Nat}
abbrev zpl0 : Option zV := some (.inr (.inl (13, 0, 0)))
abbrev zac0 : Option zV := some (.inr (.inl (2, 0, 0)))
abbrev zte0 : Option zV := some (.inr (.inl (1, 0, 0)))
theorem p_may {f : zM} (hP : zPR f D G S) (ht : t < 5) (k1 : zIn f t = true → D t < 9 → K (.inl (some (.inl (nI 1))), zN c s f g)) (k0 : ¬ (zIn f t = true ∧ D t < 9) → K (.inl (some (.inl (nI 0))), zN c s f g)) : zT sc 100 0 true [zpl0, some (.inl (nI t)), zac0] [] (zN c s f g) K := by
  obtain ⟨e1, -, e3, -⟩ := hP.1 t ht
  have hno : ¬ (zIn f t = true ∧ D t < 9) → zT sc 100 24 true [zpl0, some (.inl (nI t)), zac0] [] (zN c s f g) K := fun w => by
    refine zb ?_
    refine zb ?_
    exact k0 w
  refine zb ?_
  refine zin (nI_in (N := 5) ht (by decide)) ?_
  rw [nI_clamp (by omega)]
  refine zif (fun q => ?_) (fun q => ?_)
  · have q : f (7, t, 0) 0 = 0 := q
    exact hno (fun w => by
      have := w.1
      unfold zIn at this
      rw [decide_eq_true q] at this
      cases this)
  · have q : ¬ f (7, t, 0) 0 = 0 := q
    refine zin (nI_in (N := 5) ht (by decide)) ?_
    rw [nI_clamp (by omega)]
    refine zif (fun q2 => ?_) (fun q2 => ?_)
    · have q2 : nI 9 ≤ f (14, 0, 0) t := q2
      rw [e1, nI_leI (by decide) (by omega)] at q2
      exact hno (fun w => by omega)
    · have q2 : ¬ nI 9 ≤ f (14, 0, 0) t := q2
      rw [e1, nI_leI (by decide) (by omega)] at q2
      refine zb ?_
      exact k1 (by unfold zIn; rw [decide_eq_false q]; rfl) (by omega)
theorem p_addOne {f : zM} (hP : zPR f D G S) (ht : t < 5) (hD : D t < 99) (hS : S < 999) (k : ∀ f', zPf f f' → zPR f' (zfu D t (D t + 1)) G (S + 1) → K (.inl none, zN c s f' g)) : zT sc 101 0 true [zpl0, some (.inl (nI t))] [] (zN c s f g) K := by
  obtain ⟨e1, e2, e3, e4⟩ := hP.1 t ht
  refine zb ?_
  refine zin (nI_in (N := 5) ht (by decide)) ?_
  refine zin (nI_in (N := 5) ht (by decide)) ?_
  rw [nI_clamp (by omega)]
  show K (.inl none, zN c s (zup (zup f (14, 0, 0) t (f (14, 0, 0) t + nI 1)) (13, 0, 0) 2 (zup f (14, 0, 0) t (f (14, 0, 0) t + nI 1) (13, 0, 0) 2 + nI 1)) g)
  rw [zup_ne (fun w => by cases w.1), hP.2.1, e1, nI_add, nI_add]
  refine k _ ((zPf.up (Or.inr (Or.inl rfl))).tr (zPf.up (Or.inl rfl))) ⟨fun x hx => ?_, zup_eq, by omega⟩
  obtain ⟨x1, x2, x3, x4⟩ := hP.1 x hx
  refine ⟨?_, ?_, ?_, x4⟩
  · rw [zup_ne (fun w => by cases w.1), zup_at]
    unfold zfu
    by_cases q : x = t
    · rw [if_pos ⟨rfl, q⟩, if_pos q]
    · rw [if_neg (fun w => q w.2), if_neg q]
      exact x1
  · rw [zup_ne (fun w => by cases w.1), zup_ne (fun w => by cases w.1)]
    exact x2
  · unfold zfu
    split <;> omega
theorem p_before {f : zM} {b : Nat} (hP : zPR f D G S) (hW : zPW f W) (ht : t < 5) (hb : b < 5) (k1 : (G t + 1) * W b < (G b + 1) * W t → K (.inl (some (.inl (nI 1))), zN c s f g)) (k0 : ¬ (G t + 1) * W b < (G b + 1) * W t → K (.inl (some (.inl (nI 0))), zN c s f g)) : zT sc 98 0 true [zpl0, some (.inl (nI t)), some (.inl (nI b)), zte0] [] (zN c s f g) K := by
  obtain ⟨-, e1, -, e2⟩ := hP.1 t ht
  obtain ⟨-, b1, -, b2⟩ := hP.1 b hb
  obtain ⟨w1, w2⟩ := hW t ht
  obtain ⟨w3, w4⟩ := hW b hb
  have m1 : (G t + 1) * W b < 2 ^ 31 := Nat.lt_of_le_of_lt (Nat.mul_le_mul (show G t + 1 ≤ 100 by omega) (show W b ≤ 100 by omega)) (by decide)
  have m2 : (G b + 1) * W t < 2 ^ 31 := Nat.lt_of_le_of_lt (Nat.mul_le_mul (show G b + 1 ≤ 100 by omega) (show W t ≤ 100 by omega)) (by decide)
  refine zb ?_
  refine zin (nI_in (N := 5) ht (by decide)) ?_
  refine zin (nI_in (N := 5) hb (by decide)) ?_
  refine zin (nI_in (N := 5) hb (by decide)) ?_
  refine zin (nI_in (N := 5) ht (by decide)) ?_
  rw [nI_clamp (show t < 2 ^ 31 by omega), nI_clamp (show b < 2 ^ 31 by omega)]
  refine zif (fun q => ?_) (fun q => ?_)
  · have q : (f (15, 0, 0) b + nI 1) * f (3, t, 0) 1 ≤ (f (15, 0, 0) t + nI 1) * f (3, b, 0) 1 := q
    rw [e1, b1, w1, w3, nI_add, nI_add, nI_mul, nI_mul, nI_leI m2 m1] at q
    refine zb ?_
    refine zb ?_
    exact k0 (by omega)
  · have q : ¬ (f (15, 0, 0) b + nI 1) * f (3, t, 0) 1 ≤ (f (15, 0, 0) t + nI 1) * f (3, b, 0) 1 := q
    rw [e1, b1, w1, w3, nI_add, nI_add, nI_mul, nI_mul, nI_leI m2 m1] at q
    refine zb ?_
    exact k1 (by omega)
def zopt : Option Nat → Int32
  | none => zK (-1)
  | some t => nI t
/-- may terminal t get more by need -/
def zwan (f : zM) (D : Nat → Nat) (t : Nat) : Bool := zIn f t && (decide (D t < 9) && decide (nI (D t) < f (7, t, 0) 1))
def znb (f : zM) (D G W : Nat → Nat) (b : Option Nat) (t : Nat) : Option Nat := bif zwan f D t && (match b with
  | none => true
  | some b => decide ((G t + 1) * W b < (G b + 1) * W t)) then some t else b
theorem p_next_loop {f : zM} (hP : zPR f D G S) (hW : zPW f W) (n : Nat) : ∀ {i : Nat} {b : Option Nat}, i + n = 5 → (∀ x, b = some x → x < i) → K (.inl (some (.inl (zopt ((List.range' i n).foldl (znb f D G W) b)))), zN c s f g) → zT sc 97 5 true [zpl0, zte0, zac0, some (.inl (zopt b)), some (.inl (nI i))] [] (zN c s f g) K := by
  induction n with
  | zero =>
    intro i b hi hb hK
    refine zb ?_
    refine zip (nI_le (a := 5) (b := i) (by omega) (by omega)) ?_
    refine zb ?_
    exact hK
  | succ n ih =>
    intro i b hi hb hK
    have hi5 : i < 5 := by omega
    obtain ⟨e1, -, e3, -⟩ := hP.1 i hi5
    rw [List.range'_succ, List.foldl_cons] at hK
    have hno : znb f D G W b i = b → zT sc 97 57 true [zpl0, zte0, zac0, some (.inl (zopt b)), some (.inl (nI i))] [] (zN c s f g) K := fun w => by
      rw [w] at hK
      refine zb ?_
      show zT sc 97 5 true [zpl0, zte0, zac0, some (.inl (zopt b)), some (.inl (nI i + nI 1))] [] (zN c s f g) K
      rw [nI_add]
      exact ih (by omega) (fun x hx => Nat.lt_succ_of_lt (hb x hx)) hK
    have hyes : znb f D G W b i = some i → zT sc 97 54 true [zpl0, zte0, zac0, some (.inl (zopt b)), some (.inl (nI i))] [] (zN c s f g) K := fun w => by
      rw [w] at hK
      refine zb ?_
      refine zb ?_
      show zT sc 97 5 true [zpl0, zte0, zac0, some (.inl (zopt (some i))), some (.inl (nI i + nI 1))] [] (zN c s f g) K
      rw [nI_add]
      exact ih (by omega) (fun x hx => by cases hx; omega) hK
    refine zb ?_
    refine zin (nI_ge (a := i) (b := 5) (by omega) (by decide)) ?_
    refine p_may hP hi5 (fun q1 q2 => ?_) (fun q => ?_)
    · refine zin (nI_in (N := 5) hi5 (by decide)) ?_
      refine zin (nI_in (N := 5) hi5 (by decide)) ?_
      rw [nI_clamp (show i < 2 ^ 31 by omega)]
      refine zif (fun q3 => ?_) (fun q3 => ?_)
      · have q3 : f (7, i, 0) 1 ≤ f (14, 0, 0) i := q3
        rw [e1] at q3
        refine hno ?_
        unfold znb zwan
        rw [decide_eq_false (ile.mp q3)]
        simp
      · have q3 : ¬ f (7, i, 0) 1 ≤ f (14, 0, 0) i := q3
        rw [e1] at q3
        have hw : zwan f D i = true := by
          unfold zwan
          rw [q1, decide_eq_true q2, decide_eq_true (Classical.byContradiction fun w => q3 (ile.mpr w))]
          rfl
        cases b with
        | none =>
          exact hyes (by unfold znb; rw [hw]; rfl)
        | some x =>
          have hx := hb x rfl
          refine zin (show ¬ nI x = zK (-1) from fun w => ?_) ?_
          · have w2 := congrArg Int32.toInt w
            rw [nI_toInt (by omega)] at w2
            have : (zK (-1)).toInt = -1 := by decide +kernel
            omega
          · refine p_before hP hW hi5 (show x < 5 by omega) (fun q4 => ?_) (fun q4 => ?_)
            · exact hyes (by unfold znb; rw [hw]; simp [q4])
            · exact hno (by unfold znb; rw [hw]; simp [q4])
    · refine hno ?_
      unfold znb zwan
      cases h1 : zIn f i
      · rfl
      · rw [decide_eq_false (fun w => q ⟨h1, w⟩)]
        rfl
theorem p_next {f : zM} (hP : zPR f D G S) (hW : zPW f W) (hK : K (.inl (some (.inl (zopt ((List.range' 0 5).foldl (znb f D G W) none)))), zN c s f g)) : zT sc 97 0 true [zpl0, zte0, zac0] [] (zN c s f g) K := by
  refine zb ?_
  exact p_next_loop hP hW 5 (i := 0) (b := none) rfl (fun x hx => by cases hx) hK
end PL
