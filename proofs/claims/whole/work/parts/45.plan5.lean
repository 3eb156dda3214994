/-! The planner: giving places -/
def zfreeR (R : Nat → Int32) (t sl o : Nat) : Prop := R (sl * 3 + o) ≠ nI t ∧ (0 < sl → R ((sl - 1) * 3 + o) ≠ nI t)
noncomputable def zcanB (R : Nat → Int32) (sl ca t : Nat) : Bool := @decide (∀ o, 0 ≤ o → o < 3 → o ≠ ca → zfreeR R t sl o) (Classical.propDecidable _)
def zgpm (D : Nat → Nat) (b : Option Nat) (t : Nat) : Bool := match b with
  | none => true
  | some x => decide (D x < D t)
def zgp (can : Nat → Bool) (D : Nat → Nat) (b : Option Nat) (t : Nat) : Option Nat := bif decide (0 < D t) && (zgpm D b t && can t) then some t else b
theorem zgp_some {can : Nat → Bool} {D : Nat → Nat} : ∀ (l : List Nat) (b : Option Nat) {x : Nat}, l.foldl (zgp can D) b = some x → b = some x ∨ (x ∈ l ∧ 0 < D x)
  | [], b, x, h => Or.inl h
  | t :: l, b, x, h => by
    rcases zgp_some l _ h with q | q
    · have key : ∀ (y : Bool), (bif decide (0 < D t) && y then some t else b) = some x → b = some x ∨ (t = x ∧ 0 < D t) := fun y w => by
        by_cases hw : 0 < D t
        · rw [decide_eq_true hw] at w
          cases y
          · exact Or.inl w
          · exact Or.inr ⟨Option.some.inj w, hw⟩
        · rw [decide_eq_false hw] at w
          exact Or.inl w
      rcases key _ q with w | ⟨rfl, w⟩
      · exact Or.inl w
      · exact Or.inr ⟨List.mem_cons_self, w⟩
    · exact Or.inr ⟨List.mem_cons_of_mem _ q.1, q.2⟩
theorem zK1 {x : Nat} (h : x < 2 ^ 31) : ¬ nI x = zK (-1) := fun w => by
  have w2 := congrArg Int32.toInt w
  rw [nI_toInt h] at w2
  have : (zK (-1)).toInt = -1 := by decide +kernel
  omega
section PL5
variable {sc : zC} {c s : Nat} {g : zW} {K : zR → Prop} {D G : Nat → Nat} {S : Nat}
theorem p_can {f : zM} {p t sl ca : Nat} (hsl : sl < 10) (hca : ca < 3) (k1 : zcanB (f (17, p, 0)) sl ca t = true → K (.inl (some (.inl (nI 1))), zN c s f g)) (k0 : zcanB (f (17, p, 0)) sl ca t = false → K (.inl (some (.inl (nI 0))), zN c s f g)) : zT sc 104 0 true [zrow p, some (.inl (nI t)), some (.inl (nI sl)), some (.inl (nI ca))] [] (zN c s f g) K := by
  refine zb ?_
  exact p_can_loop hsl hca 3 (i := 0) rfl (fun h => k1 (@decide_eq_true _ (Classical.propDecidable _) h)) (fun h => k0 (@decide_eq_false _ (Classical.propDecidable _) h))
theorem p_gp_loop {f : zM} {p sl ca : Nat} (hsl : sl < 10) (hca : ca < 3) (hP : zPR f D G S) (n : Nat) : ∀ {i : Nat} {b : Option Nat}, i + n = 5 → (∀ x, b = some x → x < i) → zT sc 103 66 true [zpl0, zrow p, some (.inl (nI sl)), some (.inl (nI ca)), some (.inl (zopt ((List.range' i n).foldl (zgp (zcanB (f (17, p, 0)) sl ca) D) b))), some (.inl (nI 5))] [] (zN c s f g) K → zT sc 103 6 true [zpl0, zrow p, some (.inl (nI sl)), some (.inl (nI ca)), some (.inl (zopt b)), some (.inl (nI i))] [] (zN c s f g) K := by
  induction n with
  | zero =>
    intro i b hi hb hK
    refine zb ?_
    refine zip (nI_le (a := 5) (b := i) (by omega) (by omega)) ?_
    have e : i = 5 := by omega
    subst e
    exact hK
  | succ n ih =>
    intro i b hi hb hK
    have hi5 : i < 5 := by omega
    obtain ⟨e1, -, e3, -⟩ := hP.1 i hi5
    rw [List.range'_succ, List.foldl_cons] at hK
    have hno : zgp (zcanB (f (17, p, 0)) sl ca) D b i = b → zT sc 103 60 true [zpl0, zrow p, some (.inl (nI sl)), some (.inl (nI ca)), some (.inl (zopt b)), some (.inl (nI i))] [] (zN c s f g) K := fun w => by
      rw [w] at hK
      refine zb ?_
      show zT sc 103 6 true [zpl0, zrow p, some (.inl (nI sl)), some (.inl (nI ca)), some (.inl (zopt b)), some (.inl (nI i + nI 1))] [] (zN c s f g) K
      rw [nI_add]
      exact ih (by omega) (fun x hx => Nat.lt_succ_of_lt (hb x hx)) hK
    have htry : 0 < D i → zgpm D b i = true → zT sc 103 45 true [zpl0, zrow p, some (.inl (nI sl)), some (.inl (nI ca)), some (.inl (zopt b)), some (.inl (nI i))] [] (zN c s f g) K := fun w1 w2 => by
      refine zb ?_
      refine p_can hsl hca (fun q => ?_) (fun q => ?_)
      · have w : zgp (zcanB (f (17, p, 0)) sl ca) D b i = some i := by
          unfold zgp
          rw [decide_eq_true w1, w2, q]
          rfl
        rw [w] at hK
        refine zb ?_
        show zT sc 103 6 true [zpl0, zrow p, some (.inl (nI sl)), some (.inl (nI ca)), some (.inl (zopt (some i))), some (.inl (nI i + nI 1))] [] (zN c s f g) K
        rw [nI_add]
        exact ih (by omega) (fun x hx => by cases hx; omega) hK
      · refine hno ?_
        unfold zgp
        rw [q]
        simp
    refine zb ?_
    refine zin (nI_ge (a := i) (b := 5) (by omega) (by decide)) ?_
    refine zin (nI_in (N := 5) hi5 (by decide)) ?_
    rw [nI_clamp (show i < 2 ^ 31 by omega)]
    refine zif (fun q => ?_) (fun q => ?_)
    · have q : f (14, 0, 0) i ≤ 0 := q
      rw [e1] at q
      have hz : ¬ 0 < D i := fun w => nI_nle w (by omega) q
      exact hno (by unfold zgp; rw [decide_eq_false hz]; rfl)
    · have q : ¬ f (14, 0, 0) i ≤ 0 := q
      rw [e1] at q
      have hz : 0 < D i := Nat.pos_of_ne_zero (fun w => q (by rw [w]; decide))
      cases b with
      | none => exact htry hz rfl
      | some x =>
        have hx := hb x rfl
        obtain ⟨x1, -, x3, -⟩ := hP.1 x (by omega)
        refine zin (zK1 (show x < 2 ^ 31 by omega)) ?_
        refine zin (nI_in (N := 5) hi5 (by decide)) ?_
        refine zin (nI_in (N := 5) (show x < 5 by omega) (by decide)) ?_
        show (if f (14, 0, 0) (nI i).toNatClampNeg ≤ f (14, 0, 0) (nI x).toNatClampNeg then _ else _)
        rw [nI_clamp (show i < 2 ^ 31 by omega), nI_clamp (show x < 2 ^ 31 by omega)]
        refine zif (fun q2 => ?_) (fun q2 => ?_)
        · rw [e1, x1, nI_leI (by omega) (by omega)] at q2
          exact hno (by unfold zgp zgpm; simp [show ¬ D x < D i by omega])
        · rw [e1, x1, nI_leI (by omega) (by omega)] at q2
          exact htry hz (decide_eq_true (by omega))
/-- a place is given -/
noncomputable def zpick (R : Nat → Int32) (D : Nat → Nat) (sl ca : Nat) : Option Nat := (List.range' 0 5).foldl (zgp (zcanB R sl ca) D) none
theorem p_givePlace {f : zM} {p sl ca : Nat} (hsl : sl < 10) (hca : ca < 3) (hP : zPR f D G S) (k0 : zpick (f (17, p, 0)) D sl ca = none → K (.inl none, zN c s f g)) (k1 : ∀ x, zpick (f (17, p, 0)) D sl ca = some x → zPR (zup (zup f (17, p, 0) (sl * 3 + ca) (nI x)) (14, 0, 0) x (nI (D x - 1))) (zfu D x (D x - 1)) G S → K (.inl none, zN c s (zup (zup f (17, p, 0) (sl * 3 + ca) (nI x)) (14, 0, 0) x (nI (D x - 1))) g)) : zT sc 103 0 true [zpl0, zrow p, some (.inl (nI sl)), some (.inl (nI ca))] [] (zN c s f g) K := by
  refine zb ?_
  refine p_gp_loop hsl hca hP 5 (i := 0) (b := none) rfl (fun x hx => by cases hx) ?_
  show zT sc 103 66 true [zpl0, zrow p, some (.inl (nI sl)), some (.inl (nI ca)), some (.inl (zopt (zpick (f (17, p, 0)) D sl ca))), some (.inl (nI 5))] [] (zN c s f g) K
  cases hb : zpick (f (17, p, 0)) D sl ca with
  | none =>
    refine zb ?_
    refine zb ?_
    exact k0 hb
  | some x =>
    have hx : x < 5 ∧ 0 < D x := by
      rcases zgp_some _ _ hb with w | ⟨w1, w2⟩
      · cases w
      · have := (List.mem_range'_1.mp w1).2
        exact ⟨by omega, w2⟩
    obtain ⟨e1, -, e3, -⟩ := hP.1 x hx.1
    refine zb ?_
    refine zin (zK1 (show x < 2 ^ 31 by omega)) ?_
    refine p_positionOf ?_
    have e2 : nI sl * nI 3 + nI ca = nI (sl * 3 + ca) := by rw [nI_mul, nI_add]
    refine zin (show ¬ (nI sl * nI 3 + nI ca < 0 ∨ 30 ≤ (nI sl * nI 3 + nI ca).toNatClampNeg) by rw [e2]; exact nI_in (by omega) (by decide)) ?_
    refine zin (nI_in (N := 5) hx.1 (by decide)) ?_
    refine zin (nI_in (N := 5) hx.1 (by decide)) ?_
    refine zb ?_
    show K (.inl none, zN c s (zup (zup f (17, p, 0) (nI sl * nI 3 + nI ca).toNatClampNeg (nI x)) (14, 0, 0) (nI x).toNatClampNeg (zup f (17, p, 0) (nI sl * nI 3 + nI ca).toNatClampNeg (nI x) (14, 0, 0) (nI x).toNatClampNeg - nI 1)) g)
    rw [e2, nI_clamp (show sl * 3 + ca < 2 ^ 31 by omega), nI_clamp (show x < 2 ^ 31 by omega), zup_ne (a := (17, p, 0)) (x := (14, 0, 0)) (fun w => by cases w.1), e1, nI_sub (by omega)]
    refine k1 x hb ⟨fun y hy => ?_, ?_, hP.2.2⟩
    · obtain ⟨y1, y2, y3, y4⟩ := hP.1 y hy
      refine ⟨?_, ?_, ?_, y4⟩
      · rw [zup_at]
        unfold zfu
        by_cases q : y = x
        · rw [if_pos ⟨rfl, q⟩, if_pos q]
        · rw [if_neg (fun w => q w.2), if_neg q, zup_ne (fun w => by cases w.1)]
          exact y1
      · rw [zup_ne (fun w => by cases w.1), zup_ne (fun w => by cases w.1)]
        exact y2
      · unfold zfu
        split <;> omega
    · rw [zup_ne (fun w => by cases w.1), zup_ne (fun w => by cases w.1)]
      exact hP.2.1
end PL5
