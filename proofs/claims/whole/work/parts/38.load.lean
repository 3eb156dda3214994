/-! Backlogs: loading a burst; adding a datagram -/
theorem zBR.fr {f f' : zM} {t : Nat} {l : List Nat} {α : zAt} {md : Int32} (h : zBR f t l α md) (hF : ∀ a k, a.2.1 = t → (a.1 = 4 ∨ a.1 = 5 ∨ a.1 = 6) → f' a k = f a k) : zBR f' t l α md := by
  obtain ⟨h1, h2, h3, h4, h5, h6, h7⟩ := h
  have hp : ∀ j, zps f' t j = zps f t j := fun j => by
    unfold zps
    rw [hF (5, t, 0) j rfl (Or.inr (Or.inl rfl))]
  refine ⟨(hF (4, t, 0) 1 rfl (Or.inl rfl)).trans h1, h2, h3, fun j hj => ?_, fun i j hi hj e => ?_, fun j hj q hq => ?_, (hF (4, t, 0) 2 rfl (Or.inl rfl)).trans h7⟩
  · rw [hp, hF (5, t, 0) j rfl (Or.inr (Or.inl rfl))]
    exact h4 j hj
  · rw [hp, hp] at e
    exact h5 i j hi hj e
  · rw [hp, hF (6, t, zps f t j) q rfl (Or.inr (Or.inr rfl))]
    exact h6 j hj q hq
theorem zBR.off {f : zM} {t : Nat} {l : List Nat} {α : zAt} {md v : Int32} {a : zA} {k : Nat} (h : zBR f t l α md) (ha : ¬ (a.1 = 4 ∨ a.1 = 5 ∨ a.1 = 6)) : zBR (zup f a k v) t l α md :=
  h.fr (fun x j _ h2 => zup_ne (by rintro ⟨rfl, -⟩; exact ha h2))
/-- the frame of a load: the backlog of t and the burst b -/
def zFb (t : Nat) (b : zA) (f f' : zM) : Prop := ∀ a k, ¬ (a.2.1 = t ∧ (a.1 = 4 ∨ a.1 = 5 ∨ a.1 = 6)) → a ≠ b → f' a k = f a k
/-- a cell is sent -/
def zld (α : zAt) (x : Nat) (k : Int32) : zAt := zau (zau (zau α x 3 (nI 1)) x 5 (α x 5 + nI 1)) x 6 k
section LD
variable {sc : zC} {c s t : Nat} {g : zW} {K : zR → Prop} {l : List Nat} {md k : Int32}
abbrev zbu (q : Nat) : Option zV := some (.inr (.inl (19, q, 0)))
theorem p_load_tail {f : zM} {α : zAt} {q : Nat} {cl : Bool} {v : Option zV} (hB : zBR f t l α md) (hK : K (.inl none, zN c s (zup (zup f (19, q, 0) 1 (nI (l.length - zcu α l))) (19, q, 0) 2 (zbs0 α l md)) g)) : zT sc 85 47 cl [zbl t, zbu q, some (.inl k), v] [] (zN c s f g) K := by
  refine zb ?_
  refine p_countFresh hB ?_
  refine p_base (f := zup f (19, q, 0) 1 (nI (l.length - zcu α l))) (hB.off (by show ¬ ((19 : Nat) = 4 ∨ (19 : Nat) = 5 ∨ (19 : Nat) = 6); decide)) ?_
  exact hK
/-- the cell at j is sent in the burst -/
def zsc (f : zM) (ce b : zA) (k : Int32) : zM :=
  zup (zup (zup (zup (zup (zup f ce 3 (nI 1)) ce 5 (f ce 5 + nI 1)) ce 6 k) b 3 (f ce 0)) b 4 (f ce 1)) b 5 (f ce 2)
theorem p_sendCell {f : zM} {j q : Nat} (hK : K (.inl none, zN c s (zsc f (6, t, j) (19, q, 0) k) g)) : zT sc 86 0 true [some (.inr (.inl (6, t, j))), zbu q, some (.inl k)] [] (zN c s f g) K := by
  refine zb ?_
  have hne : ((6, t, j) : zA) ≠ (19, q, 0) := by intro e; cases e
  have e : zsc f (6, t, j) (19, q, 0) k = zup (zup (zup (zup (zup (zup f (6, t, j) 3 (nI 1)) (6, t, j) 5 (zup f (6, t, j) 3 (nI 1) (6, t, j) 5 + nI 1)) (6, t, j) 6 k) (19, q, 0) 3 (zup (zup (zup f (6, t, j) 3 (nI 1)) (6, t, j) 5 (zup f (6, t, j) 3 (nI 1) (6, t, j) 5 + nI 1)) (6, t, j) 6 k (6, t, j) 0)) (19, q, 0) 4 (zup (zup (zup (zup f (6, t, j) 3 (nI 1)) (6, t, j) 5 (zup f (6, t, j) 3 (nI 1) (6, t, j) 5 + nI 1)) (6, t, j) 6 k) (19, q, 0) 3 (zup (zup (zup f (6, t, j) 3 (nI 1)) (6, t, j) 5 (zup f (6, t, j) 3 (nI 1) (6, t, j) 5 + nI 1)) (6, t, j) 6 k (6, t, j) 0) (6, t, j) 1)) (19, q, 0) 5 (zup (zup (zup (zup (zup f (6, t, j) 3 (nI 1)) (6, t, j) 5 (zup f (6, t, j) 3 (nI 1) (6, t, j) 5 + nI 1)) (6, t, j) 6 k) (19, q, 0) 3 (zup (zup (zup f (6, t, j) 3 (nI 1)) (6, t, j) 5 (zup f (6, t, j) 3 (nI 1) (6, t, j) 5 + nI 1)) (6, t, j) 6 k (6, t, j) 0)) (19, q, 0) 4 (zup (zup (zup (zup f (6, t, j) 3 (nI 1)) (6, t, j) 5 (zup f (6, t, j) 3 (nI 1) (6, t, j) 5 + nI 1)) (6, t, j) 6 k) (19, q, 0) 3 (zup (zup (zup f (6, t, j) 3 (nI 1)) (6, t, j) 5 (zup f (6, t, j) 3 (nI 1) (6, t, j) 5 + nI 1)) (6, t, j) 6 k (6, t, j) 0) (6, t, j) 1) (6, t, j) 2) := by
    unfold zsc
    simp [zup_at]
  rw [e] at hK
  exact hK
theorem zsc_BR {f : zM} {α : zAt} {j q : Nat} (hB : zBR f t l α md) (hj : j < l.length) : zBR (zsc f (6, t, zps f t j) (19, q, 0) k) t l (zld α (l.getD j 0) k) md := by
  have h1 := hB.put hj 3 (nI 1)
  have h2 := h1.put hj 5 (α (l.getD j 0) 5 + nI 1)
  have h3 := h2.put hj 6 k
  rw [zps_up (by decide), zps_up (by decide)] at h3
  try rw [zps_up (by decide)] at h3
  have hne : ¬ ((19 : Nat) = 4 ∨ (19 : Nat) = 5 ∨ (19 : Nat) = 6) := by decide
  unfold zsc
  rw [show f (6, t, zps f t j) 5 = α (l.getD j 0) 5 from hB.cell hj 5 (by decide)]
  exact ((h3.off (a := (19, q, 0)) hne).off (a := (19, q, 0)) hne).off (a := (19, q, 0)) hne
theorem zsc_fr {f : zM} {j q : Nat} : zFb t (19, q, 0) f (zsc f (6, t, j) (19, q, 0) k) := fun a b ha hb => by
  unfold zsc
  have ha6 : a ≠ (6, t, j) := fun e => ha (by rw [e]; exact ⟨rfl, Or.inr (Or.inr rfl)⟩)
  rw [zup_ne (fun w => hb w.1), zup_ne (fun w => hb w.1), zup_ne (fun w => hb w.1), zup_ne (fun w => ha6 w.1), zup_ne (fun w => ha6 w.1), zup_ne (fun w => ha6 w.1)]
theorem zsc_0 {f : zM} {j q : Nat} : zsc f (6, t, j) (19, q, 0) k (19, q, 0) 0 = f (19, q, 0) 0 := by
  have hce : ((19, q, 0) : zA) ≠ (6, t, j) := fun e => by cases e
  unfold zsc
  rw [zup_ne (fun w => by cases w.2), zup_ne (fun w => by cases w.2), zup_ne (fun w => by cases w.2), zup_ne (fun w => hce w.1), zup_ne (fun w => hce w.1), zup_ne (fun w => hce w.1)]
theorem p_load_loop {f : zM} {α : zAt} {q : Nat} (hq : q < 30) (hB : zBR f t l α md) (n : Nat) : ∀ {i : Nat} {cl : Bool}, i + n = l.length →
    ((l.drop i).find? (fun x => decide (α x 3 = 0)) = none → K (.inl none, zN c s (zup (zup f (19, q, 0) 1 (nI (l.length - zcu α l))) (19, q, 0) 2 (zbs0 α l md)) g)) →
    (∀ x f2, (l.drop i).find? (fun x => decide (α x 3 = 0)) = some x → zFb t (19, q, 0) f f2 → f2 (19, q, 0) 0 = f (19, q, 0) 0 → f2 (19, q, 0) 3 = α x 0 → f2 (19, q, 0) 4 = α x 1 → f2 (19, q, 0) 5 = α x 2 → zBR f2 t l (zld α x k) md → K (.inl none, zN c s (zup (zup f2 (19, q, 0) 1 (nI (l.length - zcu (zld α x k) l))) (19, q, 0) 2 (zbs0 (zld α x k) l md)) g)) →
    zT sc 85 7 cl [zbl t, zbu q, some (.inl k), some (.inl (nI i))] [] (zN c s f g) K := by
  induction n with
  | zero =>
    intro i cl hi k0 k1
    have e : l.drop i = [] := List.drop_eq_nil_of_le (by omega)
    rw [e] at k0
    refine zb ?_
    refine zip (hB.done (by omega)) ?_
    exact p_load_tail hB (k0 rfl)
  | succ n ih =>
    intro i cl hi k0 k1
    have h24 := hB.2.1
    have c3 := hB.cell (j := i) (by omega) 3 (by decide)
    rw [zdrop (by omega), List.find?_cons] at k0 k1
    refine zb ?_
    refine zin (hB.more (by omega)) ?_
    refine zin (nI_in (N := 24) (by omega) (by decide)) ?_
    rw [nI_clamp (by omega)]
    by_cases q3 : α (l.getD i 0) 3 = 0
    · rw [decide_eq_true q3] at k1
      refine zip (c3.trans q3) ?_
      refine zin (nI_in (N := 24) (by omega) (by decide)) ?_
      rw [nI_clamp (by omega)]
      refine p_sendCell (t := t) (j := zps f t i) ?_
      have hB2 := zsc_BR (k := k) (q := q) hB (j := i) (by omega)
      refine p_load_tail hB2 (k1 _ _ rfl zsc_fr zsc_0 ?_ ?_ ?_ hB2)
      · unfold zsc
        rw [zup_ne (fun w => by cases w.2), zup_ne (fun w => by cases w.2), zup_eq]
        exact hB.cell (by omega) 0 (by decide)
      · unfold zsc
        rw [zup_ne (fun w => by cases w.2), zup_eq]
        exact hB.cell (by omega) 1 (by decide)
      · unfold zsc
        rw [zup_eq]
        exact hB.cell (by omega) 2 (by decide)
    · rw [decide_eq_false q3] at k0 k1
      refine zin (fun w => q3 (c3.symm.trans w)) ?_
      refine zb ?_
      show zT sc 85 7 _ [zbl t, zbu q, some (.inl k), some (.inl (nI i + nI 1))] [] (zN c s f g) K
      rw [nI_add]
      exact ih (by omega) k0 k1
theorem p_load {f : zM} {α : zAt} {q : Nat} (hq : q < 30) (hB : zBR f t l α md)
    (k0 : l.find? (fun x => decide (α x 3 = 0)) = none → K (.inl none, zN c s (zup (zup (zup f (19, q, 0) 3 (zK (-1))) (19, q, 0) 1 (nI (l.length - zcu α l))) (19, q, 0) 2 (zbs0 α l md)) g))
    (k1 : ∀ x f2, l.find? (fun x => decide (α x 3 = 0)) = some x → zFb t (19, q, 0) f f2 → f2 (19, q, 0) 0 = f (19, q, 0) 0 → f2 (19, q, 0) 3 = α x 0 → f2 (19, q, 0) 4 = α x 1 → f2 (19, q, 0) 5 = α x 2 → zBR f2 t l (zld α x k) md → K (.inl none, zN c s (zup (zup f2 (19, q, 0) 1 (nI (l.length - zcu (zld α x k) l))) (19, q, 0) 2 (zbs0 (zld α x k) l md)) g)) :
    zT sc 85 0 true [zbl t, zbu q, some (.inl k)] [] (zN c s f g) K := by
  refine zb ?_
  refine p_load_loop (f := zup f (19, q, 0) 3 (zK (-1))) hq (hB.off (by show ¬ ((19 : Nat) = 4 ∨ (19 : Nat) = 5 ∨ (19 : Nat) = 6); decide)) l.length (i := 0) (by omega) k0 (fun x f2 a1 a2 a3 a4 a5 a6 a7 => k1 x f2 a1 (fun a b w1 w2 => (a2 a b w1 w2).trans (zup_ne (fun w => w2 w.1))) (a3.trans (zup_ne (fun w => by cases w.2))) a4 a5 a6 a7)
end LD
/-- one more kept cell -/
theorem zBR.push {f f' : zM} {t x : Nat} {l : List Nat} {α : zAt} {md md' : Int32} (h : zBR f t l α md) (hl : l.length < 24) (hx : x ∉ l) (e1 : f' (4, t, 0) 1 = nI (l.length + 1)) (e2 : f' (4, t, 0) 2 = md') (e3 : ∀ j, f' (5, t, 0) j = f (5, t, 0) j) (e4 : ∀ p, p ≠ zps f t l.length → ∀ q, f' (6, t, p) q = f (6, t, p) q) : zBR f' t (l ++ [x]) (fun y q => if y = x then f' (6, t, zps f t l.length) q else α y q) md' := by
  obtain ⟨h1, h2, h3, h4, h5, h6, h7⟩ := h
  have hp : ∀ j, zps f' t j = zps f t j := fun j => by
    unfold zps
    rw [e3]
  refine ⟨by rw [e1, List.length_append]; rfl, by rw [List.length_append, List.length_singleton]; omega, ?_, fun j hj => ?_, fun i j hi hj e => ?_, fun j hj q hq => ?_, e2⟩
  · rw [List.nodup_append]
    exact ⟨h3, by simp, fun a ha b hb => by rw [List.mem_singleton.mp hb]; rintro rfl; exact hx ha⟩
  · rw [hp, e3]
    exact h4 j hj
  · rw [hp, hp] at e
    exact h5 i j hi hj e
  · rw [List.length_append, List.length_singleton] at hj
    rw [hp]
    by_cases e : j = l.length
    · rw [e]
      have : (l ++ [x]).getD l.length 0 = x := by simp
      rw [this]
      exact (if_pos rfl).symm
    · have hj' : j < l.length := by omega
      have e5 : (l ++ [x]).getD j 0 = l.getD j 0 := by simp [List.getElem?_append, hj']
      have hin : l.getD j 0 ∈ l := by
        rw [List.getD_eq_getElem?_getD, List.getElem?_eq_getElem hj']
        exact List.getElem_mem hj'
      rw [e5, e4 _ (fun w => e (h5 _ _ (by omega) (by omega) w))]
      exact (h6 j hj' q hq).trans (if_neg (fun w : l.getD j 0 = x => hx (by rw [← w]; exact hin))).symm
