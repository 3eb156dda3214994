/-! The reference: sharing -/
def zPm (f : zM) (D G : Nat → Nat) : Prop := ∀ t, t < 5 → f (63, 0, 0) t = nI (D t) ∧ f (64, 0, 0) t = nI (G t) ∧ D t ≤ 9 ∧ G t ≤ D t
def zQm (f : zM) (W Q : Nat → Nat) : Prop := ∀ t, t < 5 → f (38, 0, 0) t = nI (Q t) ∧ Q t ≤ 5 ∧ f (39, 0, 0) t = nI (W t) ∧ 1 ≤ W t ∧ W t ≤ 4
def zFs (f f' : zM) : Prop := ∀ x k, x ≠ (63, 0, 0) → x ≠ (64, 0, 0) → f' x k = f x k
theorem zFs.rf {f : zM} : zFs f f := fun _ _ _ _ => rfl
theorem zFs.tr {f f' f'' : zM} (h : zFs f f') (h' : zFs f' f'') : zFs f f'' := fun x k a b => (h' x k a b).trans (h x k a b)
def zsu5 (D : Nat → Nat) : Nat := D 0 + D 1 + D 2 + D 3 + D 4
def zdM (f : zM) (Q : Nat → Nat) (t : Nat) : Nat := if f (44, 0, 0) t = 0 then 0 else if Q t ≤ 1 then 1 else Q t
def zwm (f : zM) (D : Nat → Nat) (t : Nat) : Bool := !decide (f (44, 0, 0) t = 0) && (decide (nI (D t) < f (45, 0, 0) t) && decide (D t < 9))
def zbc (G W : Nat → Nat) (b : Option Nat) (t : Nat) : Bool := match b with
  | none => true
  | some b => decide ((G t + 1) * W b ≤ (G b + 1) * W t)
def zb1 (f : zM) (D G W : Nat → Nat) (b : Option Nat) (t : Nat) : Option Nat := bif zwm f D t && zbc G W b t then some t else b
def zbm (f : zM) (D G W : Nat → Nat) : Nat → Option Nat → Option Nat
  | 0, b => b
  | r + 1, b => zbm f D G W r (zb1 f D G W b r)
def zdn : Nat → Int32
  | 0 => zK (-1)
  | r + 1 => nI r
theorem zdn_dec (r : Nat) : nI r + zK (-1) = zdn r := by
  cases r with
  | zero => decide
  | succ r => exact nI_dec r
def zabM (f : zM) (W : Nat → Nat) : Nat → (Nat → Nat) × (Nat → Nat) → (Nat → Nat) × (Nat → Nat)
  | 0, w => w
  | n + 1, w => if zsu5 w.1 < 29 then (match zbm f w.1 w.2 W 5 none with
    | none => w
    | some t => zabM f W n (zfu w.1 t (w.1 t + 1), zfu w.2 t (w.2 t + 1))) else w
def zrm1 (f : zM) (D : Nat → Nat) (t : Nat) : Nat → Nat := if ¬ f (44, 0, 0) t = 0 ∧ D t < 9 ∧ zsu5 D < 29 then zfu D t (D t + 1) else D
def zrmR (f : zM) (D : Nat → Nat) : Nat → Nat := zrm1 f (zrm1 f (zrm1 f (zrm1 f (zrm1 f D 0) 1) 2) 3) 4
def zrmN (f : zM) : Nat → (Nat → Nat) → (Nat → Nat)
  | 0, D => D
  | n + 1, D => if zsu5 D < 29 then (if zsu5 D < zsu5 (zrmR f D) then zrmN f n (zrmR f D) else zrmR f D) else D
theorem zb1_lt {f : zM} {D G W : Nat → Nat} {b : Option Nat} {t : Nat} (ht : t < 5) (hb : ∀ x, b = some x → x < 5) : ∀ x, zb1 f D G W b t = some x → x < 5 := by
  intro x hx
  unfold zb1 at hx
  cases h : (zwm f D t && zbc G W b t) with
  | true =>
    rw [h] at hx
    have : t = x := Option.some.inj hx
    omega
  | false =>
    rw [h] at hx
    exact hb x hx
theorem zbm_lt {f : zM} {D G W : Nat → Nat} : ∀ (r : Nat), r ≤ 5 → ∀ {b : Option Nat}, (∀ x, b = some x → x < 5) → ∀ x, zbm f D G W r b = some x → x < 5
  | 0, _, b, hb => hb
  | r + 1, hr, b, hb => zbm_lt r (by omega) (zb1_lt (by omega) hb)
/-- who is found may get more -/
theorem zbm_w {f : zM} {D G W : Nat → Nat} : ∀ (r : Nat) {b : Option Nat}, (∀ x, b = some x → zwm f D x = true) → ∀ x, zbm f D G W r b = some x → zwm f D x = true
  | 0, b, hb => hb
  | r + 1, b, hb => zbm_w r (fun x hx => by
    unfold zb1 at hx
    cases hw : zwm f D r with
    | false => rw [hw] at hx; exact hb x hx
    | true =>
      rw [hw] at hx
      cases h : zbc G W b r with
      | true =>
        rw [h] at hx
        have : r = x := Option.some.inj hx
        rw [← this]; exact hw
      | false => rw [h] at hx; exact hb x hx)
section MO17
variable {sc : zC} {c s : Nat} {f : zM} {g : zW} {K : zR → Prop} {D G W Q : Nat → Nat}
theorem q_sum (hP : ∀ t, t < 5 → f (63, 0, 0) t = nI (D t)) (hK : K (.inl (some (.inl (nI (zsu5 D)))), zN c s f g)) : zT sc 50 0 true [zmo] [] (zN c s f g) K := by
  unfold zsu5 at hK
  rw [← nI_add, ← nI_add, ← nI_add, ← nI_add, ← hP 0 (by omega), ← hP 1 (by omega), ← hP 2 (by omega), ← hP 3 (by omega), ← hP 4 (by omega)] at hK
  refine zb ?_
  exact hK
theorem q_share_init {f0 : zM} (hQ : zQm f0 W Q) (r : Nat) : ∀ {f : zM} {i : Nat} {cl : Bool}, i + r = 5 → zFs f0 f → (∀ t, t < i → f (63, 0, 0) t = nI (zdM f0 Q t) ∧ f (64, 0, 0) t = nI 0) → (∀ f' cl, zFs f0 f' → (∀ t, t < 5 → f' (63, 0, 0) t = nI (zdM f0 Q t) ∧ f' (64, 0, 0) t = nI 0) → zT sc 51 59 cl [zmo, some (.inl (nI 5))] [] (zN c s f' g) K) → zT sc 51 2 cl [zmo, some (.inl (nI i))] [] (zN c s f g) K := by
  induction r with
  | zero =>
    intro f i cl hi hF hA hK
    have e : i = 5 := by omega
    subst e
    refine zb ?_
    exact hK f _ hF hA
  | succ r ih =>
    intro f i cl hi hF hA hK
    obtain ⟨q1, q2, -, -⟩ := hQ i (by omega)
    have e44 : f (44, 0, 0) i = f0 (44, 0, 0) i := hF _ _ (by decide) (by decide)
    have e38 : f (38, 0, 0) i = nI (Q i) := (hF _ _ (by decide) (by decide)).trans q1
    have h45 : ∀ x cl, x = nI (zdM f0 Q i) → zT sc 51 45 cl [zmo, some (.inl (nI i))] [.inl x, .inl (nI i), .inr (.inl (63, 0, 0))] (zN c s f g) K := fun x cl hx => by
      subst hx
      have h := ih (f := zup (zup f (63, 0, 0) i (nI (zdM f0 Q i))) (64, 0, 0) i (nI 0)) (i := i + 1) (cl := false) (by omega) (hF.tr (fun x k a b => (zup_nk b).trans (zup_nk a))) (fun t ht => by
        by_cases q : t = i
        · subst q
          exact ⟨(zup_nk (by decide)).trans zup_eq, zup_eq⟩
        · rw [zup_nk (by decide), zup_ne (fun w => q w.2), zup_ne (fun w => q w.2), zup_nk (by decide)]
          exact hA t (by omega)) hK
      rw [← nI_add] at h
      refine zb ?_
      refine zin (nI_in (N := 5) (by omega) (by decide)) ?_
      refine zin (nI_in (N := 5) (by omega) (by decide)) ?_
      rw [nI_clamp (show i < 2 ^ 31 by omega)]
      exact h
    refine zb ?_
    refine zin (nI_ge (a := i) (b := 5) (by omega) (by decide)) ?_
    refine zin (nI_in (N := 5) (by omega) (by decide)) ?_
    rw [nI_clamp (show i < 2 ^ 31 by omega)]
    refine zif (fun q => ?_) (fun q => ?_)
    · have q : f (44, 0, 0) i = 0 := q
      rw [e44] at q
      exact h45 _ _ (by unfold zdM; rw [if_pos q]; rfl)
    · have q : ¬ f (44, 0, 0) i = 0 := q
      rw [e44] at q
      refine zb ?_
      refine zin (nI_in (N := 5) (by omega) (by decide)) ?_
      rw [nI_clamp (show i < 2 ^ 31 by omega)]
      refine zif (fun q2 => ?_) (fun q2 => ?_)
      · have q2 : f (38, 0, 0) i ≤ nI 1 := q2
        rw [e38, nI_leI (by omega) (by decide)] at q2
        refine zb ?_
        exact h45 _ _ (by unfold zdM; rw [if_neg q, if_pos q2]; rfl)
      · have q2 : ¬ f (38, 0, 0) i ≤ nI 1 := q2
        rw [e38, nI_leI (by omega) (by decide)] at q2
        refine zin (nI_in (N := 5) (by omega) (by decide)) ?_
        rw [nI_clamp (show i < 2 ^ 31 by omega)]
        exact h45 _ _ (by unfold zdM; rw [if_neg q, if_neg q2]; exact e38)
theorem q_share_best {m : Option zV} {cl : Bool} (hP : zPm f D G) (hW : zQm f W Q) (r : Nat) : ∀ {b : Option Nat} {lv : zL}, r ≤ 5 → (∀ x, b = some x → x < 5) → (lv = [] ∨ ∃ v, lv = [v]) → (∀ {lv : zL}, (lv = [] ∨ ∃ v, lv = [v]) → zT sc 51 178 cl (zmo :: m :: some (.inl (zopt (zbm f D G W r b))) :: some (.inl (zK (-1))) :: lv) [] (zN c s f g) K) → zT sc 51 78 cl (zmo :: m :: some (.inl (zopt b)) :: some (.inl (zdn r)) :: lv) [] (zN c s f g) K := by
  induction r with
  | zero =>
    intro b lv hr hb hlv hK
    have h := hK hlv
    rcases hlv with rfl | ⟨v, rfl⟩
    all_goals
      refine zb ?_
      exact h
  | succ r ih =>
    intro b lv hr hb hlv hK
    obtain ⟨p1, p2, p3, p4⟩ := hP r (by omega)
    obtain ⟨-, -, w1, w2, w3⟩ := hW r (by omega)
    have h171 : ∀ b' v x, b' = zb1 f D G W b r → x = zopt b' → zT sc 51 171 cl [zmo, m, some (.inl (zopt b)), some (.inl (nI r)), v] [.inl x] (zN c s f g) K := fun b' v x hb' hx => by
      subst hx
      have h := ih (b := b') (lv := [v]) (by omega) (by rw [hb']; exact zb1_lt (by omega) hb) (Or.inr ⟨v, rfl⟩) (by rw [hb']; exact hK)
      rw [← zdn_dec] at h
      refine zb ?_
      exact h
    have h122 : ∀ {lv : zL} x, x = zbI (zwm f D r) → (lv = [] ∨ ∃ v, lv = [v]) → zT sc 51 122 cl (zmo :: m :: some (.inl (zopt b)) :: some (.inl (nI r)) :: lv) [.inl x] (zN c s f g) K := fun {lv} x hx hl => by
      subst hx
      cases hw : zwm f D r with
      | false =>
        have e : b = zb1 f D G W b r := by unfold zb1; rw [hw]; rfl
        rcases hl with rfl | ⟨v, rfl⟩
        all_goals
          refine zb ?_
          refine zb ?_
          exact h171 b _ _ e rfl
      | true =>
        cases b with
        | none =>
          have e : some r = zb1 f D G W none r := by unfold zb1; rw [hw]; rfl
          rcases hl with rfl | ⟨v, rfl⟩
          all_goals
            refine zb ?_
            refine zb ?_
            exact h171 _ _ _ e rfl
        | some y =>
          have hy := hb y rfl
          obtain ⟨y1, y2, y3, y4⟩ := hP y hy
          obtain ⟨-, -, v1, v2, v3⟩ := hW y hy
          have m1 : (G r + 1) * W y < 2 ^ 31 := Nat.lt_of_le_of_lt (Nat.mul_le_mul (show G r + 1 ≤ 10 by omega) v3) (by decide)
          have m2 : (G y + 1) * W r < 2 ^ 31 := Nat.lt_of_le_of_lt (Nat.mul_le_mul (show G y + 1 ≤ 10 by omega) w3) (by decide)
          rcases hl with rfl | ⟨v, rfl⟩
          all_goals
            refine zb ?_
            refine zin (show ¬ nI y < 0 from nI_pos (by omega)) ?_
            refine zin (nI_in (N := 5) (by omega) (by decide)) ?_
            refine zin (nI_in (N := 5) (by omega) (by decide)) ?_
            refine zin (nI_in (N := 5) (by omega) (by decide)) ?_
            refine zin (nI_in (N := 5) (by omega) (by decide)) ?_
            refine zif (fun q => ?_) (fun q => ?_)
            · have q : (f (64, 0, 0) (nI y).toNatClampNeg + nI 1) * f (39, 0, 0) (nI r).toNatClampNeg < (f (64, 0, 0) (nI r).toNatClampNeg + nI 1) * f (39, 0, 0) (nI y).toNatClampNeg := q
              rw [nI_clamp (by omega), nI_clamp (by omega), p2, y2, v1, w1, nI_add, nI_add, nI_mul, nI_mul, nI_ltI m2 m1] at q
              refine zb ?_
              refine h171 (some y) _ _ ?_ rfl
              unfold zb1
              rw [hw]
              show some y = bif decide ((G r + 1) * W y ≤ (G y + 1) * W r) then some r else some y
              rw [decide_eq_false (by omega)]; rfl
            · have q : ¬ (f (64, 0, 0) (nI y).toNatClampNeg + nI 1) * f (39, 0, 0) (nI r).toNatClampNeg < (f (64, 0, 0) (nI r).toNatClampNeg + nI 1) * f (39, 0, 0) (nI y).toNatClampNeg := q
              rw [nI_clamp (by omega), nI_clamp (by omega), p2, y2, v1, w1, nI_add, nI_add, nI_mul, nI_mul, nI_ltI m2 m1] at q
              refine zb ?_
              refine h171 (some r) _ _ ?_ rfl
              unfold zb1
              rw [hw]
              show some r = bif decide ((G r + 1) * W y ≤ (G y + 1) * W r) then some r else some y
              rw [decide_eq_true (by omega)]; rfl
    rw [show zdn (r + 1) = nI r from rfl]
    rcases hlv with rfl | ⟨u, rfl⟩
    all_goals
      refine zb ?_
      refine zin (show ¬ nI r < 0 from nI_pos (by omega)) ?_
      refine zin (nI_in (N := 5) (by omega) (by decide)) ?_
      rw [nI_clamp (show r < 2 ^ 31 by omega)]
      refine zif (fun q => ?_) (fun q => ?_)
      · have q : f (44, 0, 0) r = 0 := q
        refine zb ?_
        refine h122 _ ?_ (by first | exact Or.inl rfl | exact Or.inr ⟨_, rfl⟩)
        unfold zwm; rw [decide_eq_true q]; rfl
      · have q : ¬ f (44, 0, 0) r = 0 := q
        refine zin (nI_in (N := 5) (by omega) (by decide)) ?_
        refine zin (nI_in (N := 5) (by omega) (by decide)) ?_
        rw [nI_clamp (show r < 2 ^ 31 by omega)]
        refine zif (fun q2 => ?_) (fun q2 => ?_)
        · have q2 : f (45, 0, 0) r ≤ f (63, 0, 0) r := q2
          rw [p1] at q2
          refine zb ?_
          refine h122 _ ?_ (by first | exact Or.inl rfl | exact Or.inr ⟨_, rfl⟩)
          unfold zwm; rw [decide_eq_false q, decide_eq_false (p := nI (D r) < f (45, 0, 0) r) (ile.mp q2)]; rfl
        · have q2 : ¬ f (45, 0, 0) r ≤ f (63, 0, 0) r := q2
          rw [p1] at q2
          have q2 : nI (D r) < f (45, 0, 0) r := Classical.byContradiction fun w => q2 (ile.mpr w)
          refine zin (nI_in (N := 5) (by omega) (by decide)) ?_
          rw [nI_clamp (show r < 2 ^ 31 by omega)]
          refine zif (fun q3 => ?_) (fun q3 => ?_)
          · have q3 : nI 9 ≤ f (63, 0, 0) r := q3
            rw [p1, nI_leI (by decide) (by omega)] at q3
            refine zb ?_
            refine h122 _ ?_ (by first | exact Or.inl rfl | exact Or.inr ⟨_, rfl⟩)
            unfold zwm; rw [decide_eq_false q, decide_eq_true q2, decide_eq_false (p := D r < 9) (by omega)]; rfl
          · have q3 : ¬ nI 9 ≤ f (63, 0, 0) r := q3
            rw [p1, nI_leI (by decide) (by omega)] at q3
            refine h122 _ ?_ (by first | exact Or.inl rfl | exact Or.inr ⟨_, rfl⟩)
            unfold zwm; rw [decide_eq_false q, decide_eq_true q2, decide_eq_true (p := D r < 9) (by omega)]; rfl
end MO17
