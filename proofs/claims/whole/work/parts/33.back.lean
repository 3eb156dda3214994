/-! Backlogs: the kept cells of a terminal as a list of codes 6 d + c, and their fields by code -/
theorem zb {sc : zC} {m pc : Nat} {cl : Bool} {lv : zL} {st : List zV} {h : zS} {K : zR → Prop} (hk : zx False sc (zT sc) m (zcode m pc) pc cl lv st h K) : zT sc m pc cl lv st h K := zT_blk _ rfl hk
/-- fields by code -/
abbrev zAt : Type := Nat → Nat → Int32
def zau (α : zAt) (i q : Nat) (v : Int32) : zAt := fun x y => if x = i ∧ y = q then v else α x y
/-- the place of the j-th kept cell -/
def zps (f : zM) (t j : Nat) : Nat := (f (5, t, 0) j).toNatClampNeg
def zBR (f : zM) (t : Nat) (l : List Nat) (α : zAt) (md : Int32) : Prop :=
  f (4, t, 0) 1 = nI l.length ∧ l.length ≤ 24 ∧ l.Nodup ∧ (∀ j, j < 24 → f (5, t, 0) j = nI (zps f t j) ∧ zps f t j < 24) ∧ (∀ i j, i < 24 → j < 24 → zps f t i = zps f t j → i = j) ∧ (∀ j, j < l.length → ∀ q, q < 7 → f (6, t, zps f t j) q = α (l.getD j 0) q) ∧ f (4, t, 0) 2 = md
def zFr (t : Nat) (f f' : zM) : Prop := ∀ a k, ¬ (a.2.1 = t ∧ (a.1 = 4 ∨ a.1 = 5 ∨ a.1 = 6)) → f' a k = f a k
theorem zFr.rf {t : Nat} {f : zM} : zFr t f f := fun _ _ _ => rfl
theorem zFr.tr {t : Nat} {f f' f'' : zM} (h : zFr t f f') (h' : zFr t f' f'') : zFr t f f'' := fun a k q => (h' a k q).trans (h a k q)
theorem zFr.up {t κ j k : Nat} {f : zM} {v : Int32} (hκ : κ = 4 ∨ κ = 5 ∨ κ = 6) : zFr t f (zup f (κ, t, j) k v) := fun a q h => by
  rw [zup_at, if_neg]
  rintro ⟨rfl, -⟩
  exact h ⟨rfl, hκ⟩
theorem zps_up {f : zM} {t t' κ i q j : Nat} {v : Int32} (hκ : κ ≠ 5) : zps (zup f (κ, t', i) q v) t j = zps f t j := by
  unfold zps
  rw [zup_at, if_neg]
  rintro ⟨e, -⟩
  exact hκ (congrArg (fun a : zA => a.1) e).symm
theorem zup_ne {f : zM} {a x : zA} {k j : Nat} {v : Int32} (h : ¬ (x = a ∧ j = k)) : zup f a k v x j = f x j := by rw [zup_at, if_neg h]
theorem zup_eq {f : zM} {a : zA} {k : Nat} {v : Int32} : zup f a k v a k = v := by rw [zup_at, if_pos ⟨rfl, rfl⟩]
theorem zget_nd {l : List Nat} (h : l.Nodup) {i j : Nat} (hi : i < l.length) (hj : j < l.length) (e : l.getD i 0 = l.getD j 0) : i = j := by
  rw [List.getD_eq_getElem?_getD, List.getD_eq_getElem?_getD, List.getElem?_eq_getElem hi, List.getElem?_eq_getElem hj] at e
  exact (List.getElem_inj h).mp e
theorem zBR.put {f : zM} {t : Nat} {l : List Nat} {α : zAt} {md : Int32} (h : zBR f t l α md) {j : Nat} (hj : j < l.length) (q : Nat) (v : Int32) : zBR (zup f (6, t, zps f t j) q v) t l (zau α (l.getD j 0) q v) md := by
  obtain ⟨h1, h2, h3, h4, h5, h6, h7⟩ := h
  have hp : ∀ i, zps (zup f (6, t, zps f t j) q v) t i = zps f t i := fun i => zps_up (by decide)
  refine ⟨by rw [zup_ne (by rintro ⟨e, -⟩; cases e)]; exact h1, h2, h3, fun i hi => ?_, fun i i' hi hi' e => ?_, fun i hi k hk => ?_, by rw [zup_ne (by rintro ⟨e, -⟩; cases e)]; exact h7⟩
  · rw [hp, zup_ne (by rintro ⟨e, -⟩; cases e)]
    exact h4 i hi
  · rw [hp, hp] at e
    exact h5 i i' hi hi' e
  · rw [hp, zup_at]
    unfold zau
    by_cases e : i = j ∧ k = q
    · rw [if_pos ⟨by rw [e.1], e.2⟩, if_pos ⟨by rw [e.1], e.2⟩]
    · rw [if_neg, if_neg]
      · exact h6 i hi k hk
      · rintro ⟨a, b⟩
        exact e ⟨zget_nd h3 hi hj a, b⟩
      · rintro ⟨a, b⟩
        exact e ⟨h5 i j (by omega) (by omega) (congrArg (fun a : zA => a.2.2) a), b⟩
theorem zBR.done {f : zM} {t : Nat} {l : List Nat} {α : zAt} {md : Int32} (h : zBR f t l α md) {i : Nat} (hi : i = l.length) : f (4, t, 0) 1 ≤ nI i := by
  rw [h.1, hi]; exact nI_le (Nat.le_refl _) (by have := h.2.1; omega)
theorem zBR.more {f : zM} {t : Nat} {l : List Nat} {α : zAt} {md : Int32} (h : zBR f t l α md) {i : Nat} (hi : i < l.length) : ¬ f (4, t, 0) 1 ≤ nI i := by
  rw [h.1]; exact nI_ge hi (by have := h.2.1; omega)
theorem zdrop {l : List Nat} {i : Nat} (h : i < l.length) : l.drop i = l.getD i 0 :: l.drop (i + 1) := by
  rw [List.drop_eq_getElem_cons h, List.getD_eq_getElem?_getD, List.getElem?_eq_getElem h]
  rfl
section BL
variable {sc : zC} {c s t : Nat} {g : zW} {K : zR → Prop} {l : List Nat} {md : Int32}
abbrev zbl (t : Nat) : Option zV := some (.inr (.inl (4, t, 0)))
/-- startAnew -/
theorem p_startAnew_loop (n : Nat) : ∀ {f : zM} {α : zAt} {i : Nat} {cl : Bool}, i + n = l.length → zBR f t l α md → (∀ f', zFr t f f' → zBR f' t l ((l.drop i).foldl (fun α x => zau (zau α x 3 0) x 5 0) α) md → K (.inl none, zN c s f' g)) → zT sc 84 2 cl [zbl t, some (.inl (nI i))] [] (zN c s f g) K := by
  induction n with
  | zero =>
    intro f α i cl hi hB hK
    refine zb ?_
    refine zip (hB.done (by omega)) ?_
    refine zb ?_
    have e : l.drop i = [] := List.drop_eq_nil_of_le (by omega)
    exact hK f zFr.rf (by rw [e]; exact hB)
  | succ n ih =>
    intro f α i cl hi hB hK
    have h24 := hB.2.1
    refine zb ?_
    refine zin (hB.more (by omega)) ?_
    refine zin (nI_in (N := 24) (by omega) (by decide)) ?_
    refine zin (nI_in (N := 24) (by omega) (by decide)) ?_
    rw [nI_clamp (by omega)]
    show zT sc 84 2 false [zbl t, some (.inl (nI i + nI 1))] [] (zN c s (zup (zup f (6, t, zps f t i) 3 0) (6, t, zps (zup f (6, t, zps f t i) 3 0) t i) 5 0) g) K
    rw [nI_add]
    refine ih (by omega) ((hB.put (by omega) 3 0).put (j := i) (by omega) 5 0) (fun f' h1 h2 => hK f' ?_ ?_)
    · exact (zFr.up (by decide)).tr ((zFr.up (by decide)).tr h1)
    · rw [zdrop (by omega)]
      exact h2
end BL
