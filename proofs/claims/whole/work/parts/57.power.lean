/-! Power; sending -/
section PW
variable {sc : zC} {c s : Nat} {f : zM} {g : zW} {K : zR → Prop} {x y : Int32} {l : Nat → List Nat} {α : Nat → zAt} {md : Nat → Int32}
theorem p_power (hc : 258 ≤ c) (hB : ∀ t, t < 5 → zBR f t (l t) (α t) (md t)) (k0 : ¬ zter x → K (.inr (0, (99, c, 0)), zN (c + 1) (s + 6) f g))
    (kn : ∀ t, t < 5 → x = nI t → y = (if f (3, t, 0) 4 = 0 then nI 0 else nI 1) → K (.inl (some (.inl (nI 0))), zN c s f g))
    (ka : ∀ t, t < 5 → x = nI t → f (3, t, 0) 4 = 0 → ¬ y = nI 0 → ¬ y = 0 → K (.inl (some (.inl (nI 1))), zN c s (zup (zup f (3, t, 0) 4 (nI 1)) (3, t, 0) 5 (nI 0)) g))
    (kb : ∀ t f', t < 5 → x = nI t → ¬ f (3, t, 0) 4 = 0 → ¬ y = nI 1 → y = 0 → zFr t (zup f (3, t, 0) 4 (nI 0)) f' → zBR f' t (l t) ((l t).foldl (fun α x => zau (zau α x 3 0) x 5 0) (α t)) (md t) → K (.inl (some (.inl (nI 1))), zN c s f' g))
    (hy : y = nI 0 ∨ y = nI 1) : zT sc 2 0 true [zsu, some (.inl x), some (.inl y)] [] (zN c s f g) K := by
  refine zb ?_
  refine p_isTerminal (fun a => ?_) (fun a => ?_)
  · obtain ⟨t, ht, rfl⟩ := zter_n a
    have hgo : ∀ b : Int32, b = (if f (3, t, 0) 4 = 0 then nI 0 else nI 1) → zT sc 2 37 true [zsu, some (.inl (nI t)), some (.inl y), zte t] [.inl b, .inl y] (zN c s f g) K := fun b hb => by
      refine zb ?_
      refine zif (fun q => ?_) (fun q => ?_)
      · have q : y = b := q
        exact kn t ht rfl (q.trans hb)
      · have q : ¬ y = b := q
        refine zb ?_
        refine zif (fun q2 => ?_) (fun q2 => ?_)
        · have q2 : y = 0 := q2
          have hs : ¬ f (3, t, 0) 4 = 0 := fun w => by
            rw [if_pos w] at hb
            exact q (q2.trans (nI_0.symm.trans hb.symm))
          rw [if_neg hs] at hb
          refine zb ?_
          refine p_switchOff (hB t ht) (fun f' w1 w2 => ?_)
          refine zb ?_
          exact kb t f' ht rfl hs (fun w => q (w.trans hb.symm)) q2 w1 w2
        · have q2 : ¬ y = 0 := q2
          have hs : f (3, t, 0) 4 = 0 := Classical.byContradiction fun w => by
            rw [if_neg w] at hb
            rcases hy with e | e
            · exact q2 (e.trans nI_0)
            · exact q (e.trans hb.symm)
          refine p_ask (t := t) ?_
          refine zb ?_
          exact ka t ht rfl hs (fun w => q2 (w.trans nI_0)) q2
    refine zb ?_
    refine zin (nI_in (N := 5) ht (by decide)) ?_
    rw [nI_clamp (by omega)]
    refine zif (fun q => ?_) (fun q => ?_)
    · have q : f (3, t, 0) 4 = 0 := q
      refine zb ?_
      exact hgo _ (by rw [if_pos q]; rfl)
    · have q : ¬ f (3, t, 0) 4 = 0 := q
      exact hgo _ (by rw [if_neg q]; rfl)
  · exact zib (zthr hc) (k0 a)
end PW
