/-! Backlogs: what was reported; loading a burst; adding a datagram -/
/-- a report's cells -/
def zRR (f : zM) (t p : Nat) (rl : List (Int32 × Int32)) : Prop := f (10, t, p) 3 = nI rl.length ∧ rl.length ≤ 10 ∧ ∀ i, i < rl.length → f (11, t, p) i = (rl.getD i (0, 0)).1 ∧ f (12, t, p) i = (rl.getD i (0, 0)).2
theorem zdropP {l : List (Int32 × Int32)} {i : Nat} (h : i < l.length) : l.drop i = l.getD i (0, 0) :: l.drop (i + 1) := by
  rw [List.drop_eq_getElem_cons h, List.getD_eq_getElem?_getD, List.getElem?_eq_getElem h]
  rfl
section BL5
variable {sc : zC} {c s t : Nat} {g : zW} {K : zR → Prop} {l : List Nat} {md la : Int32}
abbrev zrp (t p : Nat) : Option zV := some (.inr (.inl (10, t, p)))
theorem p_names_loop {p : Nat} {f : zM} {rl : List (Int32 × Int32)} {d x : Int32} (hR : zRR f t p rl) (n : Nat) : ∀ {i : Nat}, i + n = rl.length → ((d, x) ∈ rl.drop i → K (.inl (some (.inl (nI 1))), zN c s f g)) → ((d, x) ∉ rl.drop i → K (.inl (some (.inl (nI 0))), zN c s f g)) → zT sc 108 2 true [zrp t p, some (.inl d), some (.inl x), some (.inl (nI i))] [] (zN c s f g) K := by
  obtain ⟨h1, h2, h3⟩ := hR
  induction n with
  | zero =>
    intro i hi k1 k0
    have e : rl.drop i = [] := List.drop_eq_nil_of_le (by omega)
    rw [e] at k0
    refine zb ?_
    refine zip (show f (10, t, p) 3 ≤ nI i by rw [h1]; exact nI_le (by omega) (by omega)) ?_
    refine zb ?_
    exact k0 List.not_mem_nil
  | succ n ih =>
    intro i hi k1 k0
    obtain ⟨e1, e2⟩ := h3 i (by omega)
    rw [zdropP (by omega)] at k1 k0
    have hgo : ¬ (rl.getD i (0, 0) = (d, x)) → zT sc 108 32 true [zrp t p, some (.inl d), some (.inl x), some (.inl (nI i))] [] (zN c s f g) K := fun hne => by
      refine zb ?_
      show zT sc 108 2 true [zrp t p, some (.inl d), some (.inl x), some (.inl (nI i + nI 1))] [] (zN c s f g) K
      rw [nI_add]
      exact ih (by omega) (fun w => k1 (List.mem_cons_of_mem _ w)) (fun w => k0 (fun w2 => by
        rcases List.mem_cons.mp w2 with q | q
        · exact hne q.symm
        · exact w q))
    refine zb ?_
    refine zin (show ¬ f (10, t, p) 3 ≤ nI i by rw [h1]; exact nI_ge (by omega) (by omega)) ?_
    refine zin (nI_in (N := 10) (by omega) (by decide)) ?_
    rw [nI_clamp (by omega)]
    refine zif (fun q => ?_) (fun q => ?_)
    · refine zin (nI_in (N := 10) (by omega) (by decide)) ?_
      rw [nI_clamp (by omega)]
      refine zif (fun q2 => ?_) (fun q2 => ?_)
      · refine k1 ?_
        have : rl.getD i (0, 0) = (d, x) := Prod.ext (e1.symm.trans q) (e2.symm.trans q2)
        rw [this]
        exact List.mem_cons_self
      · exact hgo (fun w => q2 (e2.trans (congrArg Prod.snd w)))
    · exact hgo (fun w => q (e1.trans (congrArg Prod.fst w)))
theorem p_names {p : Nat} {f : zM} {rl : List (Int32 × Int32)} {d x : Int32} (hR : zRR f t p rl) (k1 : (d, x) ∈ rl → K (.inl (some (.inl (nI 1))), zN c s f g)) (k0 : (d, x) ∉ rl → K (.inl (some (.inl (nI 0))), zN c s f g)) : zT sc 108 0 true [zrp t p, some (.inl d), some (.inl x)] [] (zN c s f g) K := by
  refine zb ?_
  exact p_names_loop hR rl.length (i := 0) (by omega) k1 k0
/-- a cell that a report names is marked as gone -/
def zdr (rl : List (Int32 × Int32)) (α : zAt) (x : Nat) : zAt := if (α x 0, α x 1) ∈ rl then zau α x 4 1 else α
theorem zRR.fr {t t' p : Nat} {f f' : zM} {rl : List (Int32 × Int32)} (h : zRR f t p rl) (hF : zFr t' f f') : zRR f' t p rl := by
  obtain ⟨h1, h2, h3⟩ := h
  refine ⟨(hF _ _ ?_).trans h1, h2, fun i hi => ⟨(hF _ _ ?_).trans (h3 i hi).1, (hF _ _ ?_).trans (h3 i hi).2⟩⟩ <;> (rintro ⟨-, e⟩; revert e; simp)
theorem p_dropRep_loop {p : Nat} {rl : List (Int32 × Int32)} (n : Nat) : ∀ {f : zM} {α : zAt} {i : Nat} {cl : Bool}, i + n = l.length → zBR f t l α md → zRR f t p rl → (∀ f', zFr t f f' → zBR f' t (l.filter (zal0 ((l.drop i).foldl (zdr rl) α))) ((l.drop i).foldl (zdr rl) α) md → K (.inl none, zN c s f' g)) → zT sc 87 2 cl [zbl t, zrp t p, some (.inl (nI i))] [] (zN c s f g) K := by
  induction n with
  | zero =>
    intro f α i cl hi hB hR hK
    have e : l.drop i = [] := List.drop_eq_nil_of_le (by omega)
    rw [e] at hK
    refine zb ?_
    refine zip (hB.done (by omega)) ?_
    refine zb ?_
    exact p_dropGone hB hK
  | succ n ih =>
    intro f α i cl hi hB hR hK
    have h24 := hB.2.1
    have c0 := hB.cell (j := i) (by omega) 0 (by decide)
    have c1 := hB.cell (j := i) (by omega) 1 (by decide)
    rw [zdrop (by omega), List.foldl_cons] at hK
    refine zb ?_
    refine zin (hB.more (by omega)) ?_
    refine zin (nI_in (N := 24) (by omega) (by decide)) ?_
    rw [nI_clamp (by omega)]
    refine zin (nI_in (N := 24) (by omega) (by decide)) ?_
    rw [nI_clamp (by omega)]
    refine p_names hR (fun q => ?_) (fun q => ?_)
    · have q : (f (6, t, (f (5, t, 0) i).toNatClampNeg) 0, f (6, t, (f (5, t, 0) i).toNatClampNeg) 1) ∈ rl := q
      rw [c0, c1] at q
      rw [zdr, if_pos q] at hK
      refine zin (nI_in (N := 24) (by omega) (by decide)) ?_
      rw [nI_clamp (by omega)]
      refine zb ?_
      show zT sc 87 2 false [zbl t, zrp t p, some (.inl (nI i + nI 1))] [] (zN c s (zup f (6, t, zps f t i) 4 1) g) K
      rw [nI_add]
      exact ih (by omega) (hB.put (by omega) 4 1) (hR.fr (zFr.up (by decide))) (fun f' h1 h2 => hK f' ((zFr.up (by decide)).tr h1) h2)
    · have q : ¬ (f (6, t, (f (5, t, 0) i).toNatClampNeg) 0, f (6, t, (f (5, t, 0) i).toNatClampNeg) 1) ∈ rl := q
      rw [c0, c1] at q
      rw [zdr, if_neg q] at hK
      refine zb ?_
      show zT sc 87 2 _ [zbl t, zrp t p, some (.inl (nI i + nI 1))] [] (zN c s f g) K
      rw [nI_add]
      exact ih (by omega) hB hR hK
theorem p_dropRep {p : Nat} {rl : List (Int32 × Int32)} {f : zM} {α : zAt} (hB : zBR f t l α md) (hR : zRR f t p rl) (hK : ∀ f', zFr t f f' → zBR f' t (l.filter (zal0 (l.foldl (zdr rl) α))) (l.foldl (zdr rl) α) md → K (.inl none, zN c s f' g)) : zT sc 87 0 true [zbl t, zrp t p] [] (zN c s f g) K := by
  refine zb ?_
  exact p_dropRep_loop l.length (i := 0) (by omega) hB hR hK
end BL5
