/-! Sending; what a terminal knows -/
section SN
variable {sc : zC} {c s : Nat} {f : zM} {g : zW} {K : zR → Prop} {x y : Int32} {l : Nat → List Nat} {α : Nat → zAt} {md : Nat → Int32}
/-- the answer of terminal(t, w) -/
def zterA (f : zM) (l : Nat → List Nat) (α : Nat → zAt) (md : Nat → Int32) (t w : Nat) : Int32 := match w with
  | 0 => f (3, t, 0) 4
  | 1 => if f (3, t, 0) 4 = nI 1 then f (3, t, 0) 5 else zK (-1)
  | 2 => f (3, t, 0) 2
  | 3 => nI ((l t).length - zcu (α t) (l t))
  | 4 => nI (zcu (α t) (l t))
  | 5 => zbs0 (α t) (l t) (md t)
  | _ => f (3, t, 0) 7
theorem p_terminal (hc : 258 ≤ c) (hB : ∀ t, t < 5 → zBR f t (l t) (α t) (md t)) (k1 : ∀ t w, t < 5 → w ≤ 6 → x = nI t → y = nI w → K (.inl (some (.inl (zterA f l α md t w))), zN c s f g)) (k0 : ¬ (zter x ∧ ¬ (y.toInt < 0 ∨ 6 < y.toInt)) → K (.inr (0, (99, c, 0)), zN (c + 1) (s + 6) f g)) : zT sc 8 0 true [zsu, some (.inl x), some (.inl y)] [] (zN c s f g) K := by
  refine zb ?_
  refine p_isTerminal (fun a => ?_) (fun a => ?_)
  · obtain ⟨t, ht, rfl⟩ := zter_n a
    by_cases q : y.toInt < 0 ∨ 6 < y.toInt
    · refine zb ?_
      refine zin (nI_in (N := 5) ht (by decide)) ?_
      rw [nI_clamp (by omega)]
      refine zip q ?_
      refine zb ?_
      exact zib (zthr hc) (k0 (fun w => w.2 q))
    · obtain ⟨w, hw, rfl⟩ := zsm (n := 6) q (by decide)
      have key := k1 t w ht hw rfl rfl
      refine zb ?_
      refine zin (nI_in (N := 5) ht (by decide)) ?_
      rw [nI_clamp (by omega)]
      match w, hw, key with
      | 0, _, key => refine zb ?_; exact key
      | 1, _, key =>
        refine zb ?_
        refine zif (fun q => ?_) (fun q => ?_)
        · have q : f (3, t, 0) 4 = nI 1 := q
          refine zb ?_
          unfold zterA at key
          rw [if_pos q] at key
          exact key
        · have q : ¬ f (3, t, 0) 4 = nI 1 := q
          refine zb ?_
          refine zb ?_
          unfold zterA at key
          rw [if_neg q] at key
          exact key
      | 2, _, key => refine zb ?_; exact key
      | 3, _, key => refine zb ?_; refine p_countFresh (hB t ht) ?_; exact key
      | 4, _, key => refine zb ?_; refine p_countUnderWay (hB t ht) ?_; exact key
      | 5, _, key => refine zb ?_; refine p_base (hB t ht) ?_; exact key
      | 6, _, key => refine zb ?_; exact key
      | n + 7, h, _ => omega
  · exact zib (zthr hc) (k0 (fun w => a w.1))
end SN
