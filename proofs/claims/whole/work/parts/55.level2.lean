/-! Levels move: the whole step; checking the times -/
section LE2
variable {sc : zC} {c s t : Nat} {f : zM} {g : zW} {K : zR → Prop} {k : Int32}
theorem zml_0 : zml f k 0 = f := by
  funext x j
  unfold zml
  rw [if_neg (fun w => Nat.not_lt_zero _ w.2.1)]
/-- who was heard in the door waits -/
def zwt (f : zM) (o : Option Nat) : zM := match o with
  | none => f
  | some t => zup f (3, t, 0) 4 (nI 2)
theorem p_moveLevels {o : Option Nat} (ho : f (21, 0, 0) 0 = zopt o) (ho5 : ∀ t, o = some t → t < 5) (hK : K (.inl none, zN c s (zml (zwt f o) k 5) g)) : zT sc 28 0 true [zsu, some (.inl k)] [] (zN c s f g) K := by
  have hgo : ∀ b f1, f1 = zwt f o → zT sc 28 24 b [zsu, some (.inl k), some (.inl (f (21, 0, 0) 0))] [] (zN c s f1 g) K := fun b f1 e => by
    subst e
    refine zb ?_
    have h := p_lev_loop (sc := sc) (c := c) (s := s) (g := g) (K := K) (f := zwt f o) (k := k) (y := some (.inl (f (21, 0, 0) 0))) 5 (i := 0) (cl := b) (lv := []) rfl (Or.inl rfl) hK
    rw [zml_0] at h
    exact h
  refine zb ?_
  show zT sc 15 0 true [some (.inl (f (21, 0, 0) 0))] [] (zN c s f g) _
  cases o with
  | none =>
    refine p_isTerminal (fun w => absurd w ?_) (fun w => ?_)
    · rw [ho]
      unfold zter zopt
      decide +kernel
    · exact hgo _ _ rfl
  | some t =>
    have ht := ho5 t rfl
    refine p_isTerminal (fun w => ?_) (fun w => absurd (by rw [ho]; exact zter_of ht) w)
    refine zin (show ¬ (f (21, 0, 0) 0 < 0 ∨ 5 ≤ (f (21, 0, 0) 0).toNatClampNeg) by rw [ho]; exact nI_in ht (by decide)) ?_
    refine hgo _ (zup f (3, (f (21, 0, 0) 0).toNatClampNeg, 0) 4 (nI 2)) ?_
    rw [ho, show (zopt (some t)).toNatClampNeg = t from nI_clamp (by omega)]
    rfl
end LE2
