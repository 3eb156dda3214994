/-! Backlogs: counts, base, room, marking, dropping, adding, loading -/
section BL2
variable {sc : zC} {c s t : Nat} {g : zW} {K : zR → Prop} {l : List Nat} {md : Int32}
theorem p_startAnew {f : zM} {α : zAt} (hB : zBR f t l α md) (hK : ∀ f', zFr t f f' → zBR f' t l (l.foldl (fun α x => zau (zau α x 3 0) x 5 0) α) md → K (.inl none, zN c s f' g)) : zT sc 84 0 true [zbl t] [] (zN c s f g) K := by
  refine zb ?_
  exact p_startAnew_loop l.length (i := 0) (by omega) hB hK
theorem zBR.cell {f : zM} {α : zAt} (h : zBR f t l α md) {j : Nat} (hj : j < l.length) (q : Nat) (hq : q < 7) : f (6, t, (f (5, t, 0) j).toNatClampNeg) q = α (l.getD j 0) q := h.2.2.2.2.2.1 j hj q hq
/-- how many are under way -/
def zcu (α : zAt) (l : List Nat) : Nat := l.countP (fun x => decide (α x 3 ≠ 0))
theorem zcu_cons (α : zAt) (x : Nat) (l : List Nat) : zcu α (x :: l) = zcu α l + (if α x 3 = 0 then 0 else 1) := by
  unfold zcu
  rw [List.countP_cons]
  by_cases h : α x 3 = 0 <;> simp [h]
theorem p_countUnderWay_loop {f : zM} {α : zAt} (hB : zBR f t l α md) (n : Nat) : ∀ {i u : Nat}, i + n = l.length → K (.inl (some (.inl (nI (u + zcu α (l.drop i))))), zN c s f g) → zT sc 81 4 true [zbl t, some (.inl (nI u)), some (.inl (nI i))] [] (zN c s f g) K := by
  induction n with
  | zero =>
    intro i u hi hK
    refine zb ?_
    refine zip (hB.done (by omega)) ?_
    refine zb ?_
    have e : l.drop i = [] := List.drop_eq_nil_of_le (by omega)
    rw [e] at hK
    exact hK
  | succ n ih =>
    intro i u hi hK
    have h24 := hB.2.1
    rw [zdrop (by omega), zcu_cons] at hK
    refine zb ?_
    refine zin (hB.more (by omega)) ?_
    refine zin (nI_in (N := 24) (by omega) (by decide)) ?_
    rw [nI_clamp (by omega)]
    refine zif (fun q => ?_) (fun q => ?_)
    · have q' : α (l.getD i 0) 3 = 0 := (hB.cell (by omega) 3 (by decide)).symm.trans q
      rw [if_pos q'] at hK
      refine zb ?_
      show zT sc 81 4 true [zbl t, some (.inl (nI u)), some (.inl (nI i + nI 1))] [] (zN c s f g) K
      rw [nI_add]
      exact ih (by omega) hK
    · have q' : ¬ α (l.getD i 0) 3 = 0 := fun w => q ((hB.cell (by omega) 3 (by decide)).trans w)
      rw [if_neg q'] at hK
      refine zb ?_
      show zT sc 81 4 true [zbl t, some (.inl (nI u + nI 1)), some (.inl (nI i + nI 1))] [] (zN c s f g) K
      rw [nI_add, nI_add]
      refine ih (by omega) ?_
      rw [show u + 1 + zcu α (l.drop (i + 1)) = u + (zcu α (l.drop (i + 1)) + 1) by omega]
      exact hK
theorem p_countUnderWay {f : zM} {α : zAt} (hB : zBR f t l α md) (hK : K (.inl (some (.inl (nI (zcu α l)))), zN c s f g)) : zT sc 81 0 true [zbl t] [] (zN c s f g) K := by
  refine zb ?_
  refine p_countUnderWay_loop hB l.length (i := 0) (u := 0) (by omega) ?_
  rw [Nat.zero_add]
  exact hK
theorem zcu_le (α : zAt) (l : List Nat) : zcu α l ≤ l.length := List.countP_le_length
theorem nI_sub {a b : Nat} (h : b ≤ a) : nI a - nI b = nI (a - b) := by
  have : nI (a - b) + nI b = nI a := by rw [nI_add]; congr 1; omega
  rw [← this]
  exact Int32.add_sub_cancel _ _
theorem p_countFresh {f : zM} {α : zAt} (hB : zBR f t l α md) (hK : K (.inl (some (.inl (nI (l.length - zcu α l)))), zN c s f g)) : zT sc 82 0 true [zbl t] [] (zN c s f g) K := by
  refine zb ?_
  refine p_countUnderWay hB ?_
  show K (.inl (some (.inl (f (4, t, 0) 1 - nI (zcu α l)))), zN c s f g)
  rw [hB.1, nI_sub (zcu_le _ _)]
  exact hK
/-- the least datagram -/
def zbs0 (α : zAt) (l : List Nat) (md : Int32) : Int32 := match l with
  | [] => md + 1
  | x :: _ => α x 0
theorem p_base {f : zM} {α : zAt} (hB : zBR f t l α md) (hK : K (.inl (some (.inl (zbs0 α l md))), zN c s f g)) : zT sc 83 0 true [zbl t] [] (zN c s f g) K := by
  have h24 := hB.2.1
  refine zb ?_
  match l, hB, hK, h24 with
  | [], hB, hK, h24 =>
    refine zip (show f (4, t, 0) 1 ≤ 0 by rw [hB.1]; decide) ?_
    refine zb ?_
    refine zb ?_
    show K (.inl (some (.inl (f (4, t, 0) 2 + nI 1))), zN c s f g)
    rw [hB.2.2.2.2.2.2]
    exact hK
  | x :: l, hB, hK, h24 =>
    refine zin (show ¬ f (4, t, 0) 1 ≤ 0 by rw [hB.1]; exact nI_nle (Nat.succ_pos _) (by omega)) ?_
    refine zb ?_
    have e := hB.cell (j := 0) (Nat.succ_pos _) 0 (by decide)
    show K (.inl (some (.inl (f (6, t, (f (5, t, 0) 0).toNatClampNeg) 0))), zN c s f g)
    rw [e]
    exact hK
theorem p_hasRoom {f : zM} {α : zAt} {x : Int32} (hB : zBR f t l α md) (h1 : nI l.length + x ≤ 24 ∧ md < 60 → K (.inl (some (.inl (nI 1))), zN c s f g)) (h0 : ¬ (nI l.length + x ≤ 24 ∧ md < 60) → K (.inl (some (.inl (nI 0))), zN c s f g)) : zT sc 79 0 true [zbl t, some (.inl x)] [] (zN c s f g) K := by
  have e1 := hB.1
  have e2 := hB.2.2.2.2.2.2
  refine zb ?_
  refine zif (fun q => ?_) (fun q => ?_)
  · have q : (24 : Int32) < f (4, t, 0) 1 + x := q
    rw [e1] at q
    refine zb ?_
    refine zb ?_
    exact h0 (fun w => ile.mp w.1 q)
  · have q : ¬ (24 : Int32) < f (4, t, 0) 1 + x := q
    rw [e1] at q
    refine zif (fun q2 => ?_) (fun q2 => ?_)
    · have q2 : (60 : Int32) ≤ f (4, t, 0) 2 := q2
      rw [e2] at q2
      refine zb ?_
      refine zb ?_
      exact h0 (fun w => ile.mp q2 w.2)
    · have q2 : ¬ (60 : Int32) ≤ f (4, t, 0) 2 := q2
      rw [e2] at q2
      refine zb ?_
      exact h1 ⟨ile.mpr q, Classical.byContradiction fun w => q2 (ile.mpr w)⟩
/-- a datagram's kept cells are marked as gone -/
def zmg (d : Int32) (α : zAt) (x : Nat) : zAt := if α x 0 = d then zau α x 4 1 else α
theorem p_mark_loop {d : Int32} (n : Nat) : ∀ {f : zM} {α : zAt} {i : Nat} {cl : Bool}, i + n = l.length → zBR f t l α md → (∀ f', zFr t f f' → zBR f' t l ((l.drop i).foldl (zmg d) α) md → K (.inl none, zN c s f' g)) → zT sc 89 2 cl [zbl t, some (.inl d), some (.inl (nI i))] [] (zN c s f g) K := by
  induction n with
  | zero =>
    intro f α i cl hi hB hK
    refine zb ?_
    refine zip (hB.done (by omega)) ?_
    refine zb ?_
    have e : l.drop i = [] := List.drop_eq_nil_of_le (by omega)
    exact hK f zFr.rf (by rw [e]; exact hB)
  | succ n ih =>
    intro f α i cl hi hB hK
    have h24 := hB.2.1
    rw [zdrop (by omega), List.foldl_cons] at hK
    refine zb ?_
    refine zin (hB.more (by omega)) ?_
    refine zin (nI_in (N := 24) (by omega) (by decide)) ?_
    rw [nI_clamp (by omega)]
    refine zif (fun q => ?_) (fun q => ?_)
    · have q' : α (l.getD i 0) 0 = d := (hB.cell (by omega) 0 (by decide)).symm.trans q
      rw [zmg, if_pos q'] at hK
      refine zin (nI_in (N := 24) (by omega) (by decide)) ?_
      rw [nI_clamp (by omega)]
      refine zb ?_
      show zT sc 89 2 false [zbl t, some (.inl d), some (.inl (nI i + nI 1))] [] (zN c s (zup f (6, t, zps f t i) 4 1) g) K
      rw [nI_add]
      exact ih (by omega) (hB.put (by omega) 4 1) (fun f' h1 h2 => hK f' ((zFr.up (by decide)).tr h1) h2)
    · have q' : ¬ α (l.getD i 0) 0 = d := fun w => q ((hB.cell (by omega) 0 (by decide)).trans w)
      rw [zmg, if_neg q'] at hK
      refine zb ?_
      show zT sc 89 2 _ [zbl t, some (.inl d), some (.inl (nI i + nI 1))] [] (zN c s f g) K
      rw [nI_add]
      exact ih (by omega) hB hK
theorem p_mark {d : Int32} {f : zM} {α : zAt} (hB : zBR f t l α md) (hK : ∀ f', zFr t f f' → zBR f' t l (l.foldl (zmg d) α) md → K (.inl none, zN c s f' g)) : zT sc 89 0 true [zbl t, some (.inl d)] [] (zN c s f g) K := by
  refine zb ?_
  exact p_mark_loop l.length (i := 0) (by omega) hB hK
end BL2
