/-! Reports are begun and filled; bursts in places are noted; coins -/
section RP
variable {sc : zC} {c s t p q : Nat} {f : zM} {g : zW} {K : zR → Prop} {k : Int32} {rl : List (Int32 × Int32)}
def zadc (f : zM) (t p q n : Nat) : zM := zup (zup (zup f (11, t, p) n (f (19, q, 0) 3)) (12, t, p) n (f (19, q, 0) 4)) (10, t, p) 3 (nI (n + 1))
theorem p_addCellOf (hR : zRR f t p rl) (hl : rl.length < 10) (k0 : f (19, q, 0) 3 = zK (-1) → K (.inl none, zN c s f g)) (k1 : ¬ f (19, q, 0) 3 = zK (-1) → zRR (zadc f t p q rl.length) t p (rl ++ [(f (19, q, 0) 3, f (19, q, 0) 4)]) → K (.inl none, zN c s (zadc f t p q rl.length) g)) : zT sc 107 0 true [zrp t p, zbu q] [] (zN c s f g) K := by
  obtain ⟨h1, h2, h3⟩ := hR
  refine zb ?_
  refine zif (fun w => ?_) (fun w => ?_)
  · refine zb ?_
    exact k0 w
  · have w : ¬ f (19, q, 0) 3 = zK (-1) := w
    refine zin (show ¬ nI 10 ≤ f (10, t, p) 3 by rw [h1]; exact nI_ge hl (by decide)) ?_
    refine zin (show ¬ (f (10, t, p) 3 < 0 ∨ 10 ≤ (f (10, t, p) 3).toNatClampNeg) by rw [h1]; exact nI_in hl (by decide)) ?_
    have e1 : zup f (11, t, p) (f (10, t, p) 3).toNatClampNeg (f (19, q, 0) 3) (10, t, p) 3 = nI rl.length := by rw [zup_ne (fun w => by cases w.1)]; exact h1
    refine zin (show ¬ (zup f (11, t, p) (f (10, t, p) 3).toNatClampNeg (f (19, q, 0) 3) (10, t, p) 3 < 0 ∨ 10 ≤ (zup f (11, t, p) (f (10, t, p) 3).toNatClampNeg (f (19, q, 0) 3) (10, t, p) 3).toNatClampNeg) by rw [e1]; exact nI_in hl (by decide)) ?_
    refine zb ?_
    have hF : zRR (zadc f t p q rl.length) t p (rl ++ [(f (19, q, 0) 3, f (19, q, 0) 4)]) := by
      refine ⟨by unfold zadc; rw [zup_eq, List.length_append]; rfl, by rw [List.length_append, List.length_singleton]; omega, fun i hi => ?_⟩
      rw [List.length_append, List.length_singleton] at hi
      unfold zadc
      rw [zup_ne (fun w => by cases w.1), zup_ne (fun w => by cases w.1), zup_ne (a := (10, t, p)) (x := (12, t, p)) (fun w => by cases w.1), zup_at, zup_at]
      by_cases e : i = rl.length
      · subst e
        simp
      · have hi' : i < rl.length := by omega
        rw [if_neg (fun w => e w.2), if_neg (fun w => e w.2), zup_ne (fun w => by cases w.1)]
        have e5 : (rl ++ [(f (19, q, 0) 3, f (19, q, 0) 4)]).getD i (0, 0) = rl.getD i (0, 0) := by simp [List.getElem?_append, hi']
        rw [e5]
        exact h3 i hi'
    have key := k1 w hF
    have eF : zadc f t p q rl.length = zup (zup (zup f (11, t, p) (f (10, t, p) 3).toNatClampNeg (f (19, q, 0) 3)) (12, t, p) (zup f (11, t, p) (f (10, t, p) 3).toNatClampNeg (f (19, q, 0) 3) (10, t, p) 3).toNatClampNeg (zup f (11, t, p) (f (10, t, p) 3).toNatClampNeg (f (19, q, 0) 3) (19, q, 0) 4)) (10, t, p) 3 (zup (zup f (11, t, p) (f (10, t, p) 3).toNatClampNeg (f (19, q, 0) 3)) (12, t, p) (zup f (11, t, p) (f (10, t, p) 3).toNatClampNeg (f (19, q, 0) 3) (10, t, p) 3).toNatClampNeg (zup f (11, t, p) (f (10, t, p) 3).toNatClampNeg (f (19, q, 0) 3) (19, q, 0) 4) (10, t, p) 3 + nI 1) := by
      rw [e1, zup_ne (a := (12, t, p)) (x := (10, t, p)) (fun w => by cases w.1), e1, zup_ne (a := (11, t, p)) (x := (19, q, 0)) (fun w => by cases w.1), h1, nI_clamp (by omega), nI_add]
      rfl
    rw [eF] at key
    exact key
def zclrR (f : zM) (t p : Nat) : zM := zup (zup (zup (zup f (10, t, p) 0 (nI 0)) (10, t, p) 1 (nI 0)) (10, t, p) 2 (nI 0)) (10, t, p) 3 (nI 0)
def zsrp (f : zM) (t p : Nat) (k off : Int32) : zM := if f (7, t, 0) 5 = k then zup (zup (zclrR f t p) (10, t, p) 1 (nI 1)) (10, t, p) 2 (off - f (10, t, 1 - p) 2) else zclrR f t p
theorem nI_par1 (n : Nat) : (nI n - nI 1) &&& nI 1 = nI (1 - n % 2) := by
  cases n with
  | zero => decide +kernel
  | succ n =>
    rw [nI_sub (by omega), show n + 1 - 1 = n by omega, nI_par]
    congr 1
    omega
theorem p_startReport {n : Nat} {off : Int32} (hK : K (.inl none, zN c s (zsrp f t (n % 2) (nI n) off) g)) : zT sc 69 0 true [zac t, some (.inl (nI n)), some (.inl off)] [] (zN c s f g) K := by
  have hp := Nat.mod_lt n (show 2 > 0 by decide)
  refine zb ?_
  refine p_reportOf rfl (p := 1 - n % 2) (by omega) (nI_par1 n) ?_
  refine p_reportOf rfl (p := n % 2) hp (nI_par n) ?_
  refine p_clear (f := f) (t := t) (p := n % 2) ?_
  have e1 : zclrR f t (n % 2) (7, t, 0) 5 = f (7, t, 0) 5 := by
    unfold zclrR
    rw [zup_ne (fun w => by cases w.1), zup_ne (fun w => by cases w.1), zup_ne (fun w => by cases w.1), zup_ne (fun w => by cases w.1)]
  have hne : ((10, t, 1 - n % 2) : zA) ≠ (10, t, n % 2) := fun w => by
    have := congrArg (fun a : zA => a.2.2) w
    have : 1 - n % 2 = n % 2 := this
    omega
  have e2 : zup (zclrR f t (n % 2)) (10, t, n % 2) 1 (nI 1) (10, t, 1 - n % 2) 2 = f (10, t, 1 - n % 2) 2 := by
    unfold zclrR
    rw [zup_ne (fun w => hne w.1), zup_ne (fun w => hne w.1), zup_ne (fun w => hne w.1), zup_ne (fun w => hne w.1), zup_ne (fun w => hne w.1)]
  unfold zsrp at hK
  refine zif (fun w => ?_) (fun w => ?_)
  · have w : zclrR f t (n % 2) (7, t, 0) 5 = nI n := w
    rw [if_pos (e1.symm.trans w), ← e2] at hK
    refine zb ?_
    exact hK
  · have w : ¬ zclrR f t (n % 2) (7, t, 0) 5 = nI n := w
    rw [if_neg (fun q => w (e1.trans q))] at hK
    refine zb ?_
    exact hK
theorem p_coin {x y : Int32} (hK : K (.inl (some (.inl (((nI 37 * x + nI 101 * y + nI 11) >>> (nI 3 &&& 31)) &&& nI 1))), zN c s f g)) : zT sc 30 0 true [some (.inl x), some (.inl y)] [] (zN c s f g) K := by
  refine zb ?_
  exact hK
end RP
