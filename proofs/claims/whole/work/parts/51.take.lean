/-! A terminal takes what was told; accounts note; reports -/
theorem zRR.off {f : zM} {t p : Nat} {rl : List (Int32 × Int32)} {a : zA} {k : Nat} {v : Int32} (h : zRR f t p rl) (ha : a.1 ≠ 10 ∧ a.1 ≠ 11 ∧ a.1 ≠ 12) : zRR (zup f a k v) t p rl := by
  obtain ⟨h1, h2, h3⟩ := h
  have e : ∀ κ j, (κ = 10 ∨ κ = 11 ∨ κ = 12) → zup f a k v (κ, t, p) j = f (κ, t, p) j := fun κ j hk => zup_ne (fun w => by
    have w1 := congrArg (fun b : zA => b.1) w.1
    have w1 : κ = a.1 := w1
    omega)
  refine ⟨by rw [e 10 _ (by omega)]; exact h1, h2, fun i hi => ?_⟩
  rw [e 11 _ (by omega), e 12 _ (by omega)]
  exact h3 i hi
section TK
variable {sc : zC} {c s t p : Nat} {f : zM} {g : zW} {K : zR → Prop} {k : Int32} {l : List Nat} {α : zAt} {md : Int32} {rl : List (Int32 × Int32)}
abbrev zte (t : Nat) : Option zV := some (.inr (.inl (3, t, 0)))
def ztk1 (f : zM) (t p : Nat) (k : Int32) : zM := if f (3, t, 0) 4 = nI 2 ∧ ¬ f (10, t, p) 0 = 0 then zup (zup f (3, t, 0) 4 (nI 3)) (3, t, 0) 6 k else f
def ztk2 (f : zM) (t p : Nat) (k : Int32) : zM := if ¬ f (10, t, p) 1 = 0 then zup (zup f (3, t, 0) 2 (f (3, t, 0) 2 - f (10, t, p) 2)) (3, t, 0) 6 k else f
theorem p_take (hB : zBR f t l α md) (hR : zRR f t p rl) (k0 : ¬ ztk1 f t p k (3, t, 0) 4 = nI 3 → K (.inl none, zN c s (ztk1 f t p k) g))
    (k1 : ztk1 f t p k (3, t, 0) 4 = nI 3 → ∀ f', zFr t (ztk2 (ztk1 f t p k) t p k) f' → zBR f' t (l.filter (zal0 (l.foldl (zdr rl) α))) (l.foldl (zdr rl) α) md → K (.inl none, zN c s f' g)) : zT sc 112 0 true [zte t, zrp t p, some (.inl k)] [] (zN c s f g) K := by
  have h3 : ¬ ((3 : Nat) = 4 ∨ (3 : Nat) = 5 ∨ (3 : Nat) = 6) := by decide
  have h3' : (3 : Nat) ≠ 10 ∧ (3 : Nat) ≠ 11 ∧ (3 : Nat) ≠ 12 := by decide
  -- behind the first step
  have hgo : ∀ (f1 : zM) b, f1 = ztk1 f t p k → zBR f1 t l α md → zRR f1 t p rl → zT sc 112 25 b [zte t, zrp t p, some (.inl k)] [] (zN c s f1 g) K := fun f1 b e hB1 hR1 => by
    subst e
    refine zb ?_
    refine zif (fun q => ?_) (fun q => ?_)
    · have q : ztk1 f t p k (3, t, 0) 4 = nI 3 := q
      have hgo2 : ∀ (f2 : zM) b, f2 = ztk2 (ztk1 f t p k) t p k → zBR f2 t l α md → zRR f2 t p rl → zT sc 112 59 b [zte t, zrp t p, some (.inl k)] [] (zN c s f2 g) K := fun f2 b e hB2 hR2 => by
        subst e
        refine zb ?_
        refine p_dropRep hB2 hR2 (fun f' w1 w2 => ?_)
        exact k1 q f' w1 w2
      refine zb ?_
      refine zif (fun q2 => ?_) (fun q2 => ?_)
      · have q2 : ztk1 f t p k (10, t, p) 1 = 0 := q2
        refine hgo2 _ _ ?_ hB1 hR1
        unfold ztk2
        rw [if_neg (fun w => w q2)]
      · have q2 : ¬ ztk1 f t p k (10, t, p) 1 = 0 := q2
        refine hgo2 (zup (zup (ztk1 f t p k) (3, t, 0) 2 (ztk1 f t p k (3, t, 0) 2 - ztk1 f t p k (10, t, p) 2)) (3, t, 0) 6 k) _ ?_ ((hB1.off (a := (3, t, 0)) h3).off (a := (3, t, 0)) h3) ((hR1.off (a := (3, t, 0)) h3').off (a := (3, t, 0)) h3')
        unfold ztk2
        rw [if_pos q2]
    · exact k0 q
  refine zb ?_
  refine zif (fun q => ?_) (fun q => ?_)
  · have q : f (3, t, 0) 4 = nI 2 := q
    refine zif (fun q2 => ?_) (fun q2 => ?_)
    · have q2 : f (10, t, p) 0 = 0 := q2
      refine hgo f _ ?_ hB hR
      unfold ztk1
      rw [if_neg (fun w => w.2 q2)]
    · have q2 : ¬ f (10, t, p) 0 = 0 := q2
      refine hgo (zup (zup f (3, t, 0) 4 (nI 3)) (3, t, 0) 6 k) _ ?_ ((hB.off (a := (3, t, 0)) h3).off (a := (3, t, 0)) h3) ((hR.off (a := (3, t, 0)) h3').off (a := (3, t, 0)) h3')
      unfold ztk1
      rw [if_pos ⟨q, q2⟩]
  · have q : ¬ f (3, t, 0) 4 = nI 2 := q
    refine hgo f _ ?_ hB hR
    unfold ztk1
    rw [if_neg (fun w => q w.1)]
theorem p_ask (hK : K (.inl none, zN c s (zup (zup f (3, t, 0) 4 (nI 1)) (3, t, 0) 5 (nI 0)) g)) : zT sc 110 0 true [zte t] [] (zN c s f g) K := by
  refine zb ?_
  exact hK
theorem p_switchOff (hB : zBR f t l α md) (hK : ∀ f', zFr t (zup f (3, t, 0) 4 (nI 0)) f' → zBR f' t l (l.foldl (fun α x => zau (zau α x 3 0) x 5 0) α) md → K (.inl none, zN c s f' g)) : zT sc 111 0 true [zte t] [] (zN c s f g) K := by
  have h3 : ¬ ((3 : Nat) = 4 ∨ (3 : Nat) = 5 ∨ (3 : Nat) = 6) := by decide
  refine zb ?_
  refine p_startAnew (f := zup f (3, t, 0) 4 (nI 0)) (hB.off (a := (3, t, 0)) h3) (fun f' w1 w2 => ?_)
  exact hK f' w1 w2
theorem p_noteInDoor (hK : K (.inl none, zN c s (zup (zup (zup f (7, t, 0) 5 k) (7, t, 0) 0 (nI 1)) (7, t, 0) 1 (nI 0)) g)) : zT sc 70 0 true [zac t, some (.inl k)] [] (zN c s f g) K := by
  refine zb ?_
  exact hK
theorem p_forget (k1 : nI 7 ≤ k - f (7, t, 0) 5 → K (.inl none, zN c s (zup f (7, t, 0) 0 (nI 0)) g)) (k0 : k - f (7, t, 0) 5 < nI 7 → K (.inl none, zN c s f g)) : zT sc 72 0 true [zac t, some (.inl k)] [] (zN c s f g) K := by
  refine zb ?_
  refine zif (fun q => ?_) (fun q => ?_)
  · refine zb ?_
    exact k0 q
  · refine zb ?_
    exact k1 (ile.mpr q)
theorem p_clear (hK : K (.inl none, zN c s (zup (zup (zup (zup f (10, t, p) 0 (nI 0)) (10, t, p) 1 (nI 0)) (10, t, p) 2 (nI 0)) (10, t, p) 3 (nI 0)) g)) : zT sc 106 0 true [zrp t p] [] (zN c s f g) K := by
  refine zb ?_
  exact hK
end TK
