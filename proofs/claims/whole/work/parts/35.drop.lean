/-! Backlogs: dropGone -/
def zDG (f : zM) (t : Nat) (l F : List Nat) (α : zAt) (i : Nat) (md : Int32) : Prop :=
  f (4, t, 0) 1 = nI l.length ∧ l.length ≤ 24 ∧ (∀ j, j < 24 → f (5, t, 0) j = nI (zps f t j) ∧ zps f t j < 24) ∧ (∀ i j, i < 24 → j < 24 → zps f t i = zps f t j → i = j) ∧ F.length ≤ i ∧ (∀ j, j < F.length → ∀ q, q < 7 → f (6, t, zps f t j) q = α (F.getD j 0) q) ∧ (∀ j, i ≤ j → j < l.length → ∀ q, q < 7 → f (6, t, zps f t j) q = α (l.getD j 0) q) ∧ f (4, t, 0) 2 = md
theorem zDG.of {f : zM} {t : Nat} {l : List Nat} {α : zAt} {md : Int32} (h : zBR f t l α md) : zDG f t l [] α 0 md := by
  obtain ⟨h1, h2, h3, h4, h5, h6, h7⟩ := h
  exact ⟨h1, h2, h4, h5, Nat.le_refl _, fun j hj => absurd hj (Nat.not_lt_zero _), fun j _ hj => h6 j hj, h7⟩
theorem zDG.skip {f : zM} {t : Nat} {l F : List Nat} {α : zAt} {md : Int32} {i : Nat} (h : zDG f t l F α i md) : zDG f t l F α (i + 1) md := by
  obtain ⟨h1, h2, h3, h4, h5, h6, h7, h8⟩ := h
  exact ⟨h1, h2, h3, h4, by omega, h6, fun j hj => h7 j (by omega), h8⟩
/-- the swap of two kept cells -/
def zsw (f : zM) (t i st : Nat) : zM := zup (zup f (5, t, 0) i (nI (zps f t st))) (5, t, 0) st (nI (zps f t i))
theorem zsw_ne {f : zM} {t i st : Nat} {a : zA} {k : Nat} (h : a.1 ≠ 5) : zsw f t i st a k = f a k := by
  unfold zsw
  rw [zup_ne (by rintro ⟨e, -⟩; exact h (by rw [e])), zup_ne (by rintro ⟨e, -⟩; exact h (by rw [e]))]
theorem zsw_ps {f : zM} {t i st : Nat} (h : ∀ j, j < 24 → zps f t j < 24) (hi : i < 24) (hs : st < 24) (j : Nat) : zps (zsw f t i st) t j = if j = st then zps f t i else if j = i then zps f t st else zps f t j := by
  have h1 := h i hi
  have h2 := h st hs
  show (zup (zup f (5, t, 0) i (nI (zps f t st))) (5, t, 0) st (nI (zps f t i)) (5, t, 0) j).toNatClampNeg = _
  by_cases e : j = st
  · rw [if_pos e, e, zup_eq, nI_clamp (by omega)]
  · rw [if_neg e, zup_ne (fun w => e w.2)]
    by_cases e2 : j = i
    · rw [if_pos e2, e2, zup_eq, nI_clamp (by omega)]
    · rw [if_neg e2, zup_ne (fun w => e2 w.2)]
      rfl
theorem zDG.swap {f : zM} {t : Nat} {l F : List Nat} {α : zAt} {md : Int32} {i : Nat} (h : zDG f t l F α i md) (hi : i < l.length) : zDG (zsw f t i F.length) t l (F ++ [l.getD i 0]) α (i + 1) md := by
  obtain ⟨h1, h2, h3, h4, h5, h6, h7, h8⟩ := h
  have hps := zsw_ps (f := f) (t := t) (i := i) (st := F.length) (fun j hj => (h3 j hj).2) (by omega) (by omega)
  refine ⟨by rw [zsw_ne (show (4 : Nat) ≠ 5 by decide)]; exact h1, h2, fun j hj => ?_, fun a b ha hb e => ?_, by rw [List.length_append]; simp; omega, fun j hj q hq => ?_, fun j hj hj2 q hq => ?_, by rw [zsw_ne (show (4 : Nat) ≠ 5 by decide)]; exact h8⟩
  · have e : zsw f t i F.length (5, t, 0) j = if j = F.length then nI (zps f t i) else if j = i then nI (zps f t F.length) else f (5, t, 0) j := by
      unfold zsw
      rw [zup_at, zup_at]
      simp
    rw [hps, e]
    split
    · exact ⟨rfl, (h3 i (by omega)).2⟩
    · split
      · exact ⟨rfl, (h3 _ (by omega)).2⟩
      · exact h3 j hj
  · rw [hps, hps] at e
    have key : ∀ x y, x < 24 → y < 24 → zps f t x = zps f t y → x = y := h4
    split at e
    · split at e
      · omega
      · split at e
        · have := key _ _ (by omega) (by omega) e; omega
        · have := key _ _ (by omega) (by omega) e; omega
    · split at e
      · split at e
        · have := key _ _ (by omega) (by omega) e; omega
        · split at e
          · omega
          · have := key _ _ (by omega) (by omega) e; omega
      · split at e
        · have := key _ _ (by omega) (by omega) e; omega
        · split at e
          · have := key _ _ (by omega) (by omega) e; omega
          · exact key _ _ (by omega) (by omega) e
  · rw [List.length_append, List.length_singleton] at hj
    rw [zsw_ne (show (6 : Nat) ≠ 5 by decide), hps]
    by_cases e : j = F.length
    · rw [if_pos e, h7 i (Nat.le_refl _) hi q hq, e]
      simp
    · rw [if_neg e, if_neg (by omega), h6 j (by omega) q hq]
      simp [List.getElem?_append, show j < F.length by omega]
  · rw [zsw_ne (show (6 : Nat) ≠ 5 by decide), hps, if_neg (by omega), if_neg (by omega)]
    exact h7 j (by omega) hj2 q hq
theorem zas {t j p : Nat} (hj : j < 24) (hp : p < 24) : ¬ (nI j < 0 ∨ 24 ≤ (nI j).toNatClampNeg ∨ zrf (5, t, 0) (nI j).toNatClampNeg (zcd (5, t, 0) (nI j).toNatClampNeg (6, t, p)) ≠ (6, t, p)) := by
  have h1 := nI_in (c := j) (N := 24) hj (by decide)
  rintro (h | h | h)
  · exact h1 (Or.inl h)
  · exact h1 (Or.inr h)
  · refine h ?_
    show (6, t, (nI p).toNatClampNeg) = (6, t, p)
    rw [nI_clamp (by omega)]
/-- cells that are not gone -/
def zal0 (α : zAt) (x : Nat) : Bool := decide (α x 4 = 0)
section BL3
variable {sc : zC} {c s t : Nat} {g : zW} {K : zR → Prop} {l : List Nat} {md : Int32}
theorem zDG.done {f : zM} {F : List Nat} {α : zAt} {j i : Nat} (h : zDG f t l F α j md) (hi : i = l.length) : f (4, t, 0) 1 ≤ nI i := by
  rw [h.1, hi]; exact nI_le (Nat.le_refl _) (by have := h.2.1; omega)
theorem zDG.more {f : zM} {F : List Nat} {α : zAt} {j i : Nat} (h : zDG f t l F α j md) (hi : i < l.length) : ¬ f (4, t, 0) 1 ≤ nI i := by
  rw [h.1]; exact nI_ge hi (by have := h.2.1; omega)
theorem p_dropGone_loop {α : zAt} (n : Nat) : ∀ {f : zM} {F : List Nat} {i : Nat} {cl : Bool} {x : Option zV}, i + n = l.length → zDG f t l F α i md → (F ++ (l.drop i).filter (zal0 α)).Nodup → (∀ f', zFr t f f' → zBR f' t (F ++ (l.drop i).filter (zal0 α)) α md → K (.inl none, zN c s f' g)) → ∀ {lv : zL}, (lv = [] ∨ ∃ v, lv = [v]) → zT sc 90 4 cl (zbl t :: some (.inl (nI F.length)) :: some (.inl (nI i)) :: lv) [] (zN c s f g) K := by
  induction n with
  | zero =>
    intro f F i cl x hi hD hN hK lv hlv
    have e : l.drop i = [] := List.drop_eq_nil_of_le (by omega)
    rw [e] at hK hN
    simp only [List.filter_nil, List.append_nil] at hK hN
    refine zb ?_
    refine zip (hD.done (by omega)) ?_
    refine zb ?_
    obtain ⟨h1, h2, h3, h4, h5, h6, h7, h8⟩ := hD
    refine hK (zup f (4, t, 0) 1 (nI F.length)) (zFr.up (by decide)) ?_
    have hp : ∀ j, zps (zup f (4, t, 0) 1 (nI F.length)) t j = zps f t j := fun j => zps_up (by decide)
    refine ⟨zup_eq, by omega, hN, fun j hj => ?_, fun a b ha hb e => ?_, fun j hj q hq => ?_, ?_⟩
    · rw [hp, zup_ne (by rintro ⟨e, -⟩; cases e)]
      exact h3 j hj
    · rw [hp, hp] at e
      exact h4 a b ha hb e
    · rw [hp, zup_ne (by rintro ⟨e, -⟩; cases e)]
      exact h6 j hj q hq
    · rw [zup_ne (by rintro ⟨-, e⟩; cases e)]
      exact h8
  | succ n ih =>
    intro f F i cl x hi hD hN hK lv hlv
    have h24 := hD.2.1
    have hF := hD.2.2.2.2.1
    have hc : f (6, t, (f (5, t, 0) i).toNatClampNeg) 4 = α (l.getD i 0) 4 := hD.2.2.2.2.2.2.1 i (Nat.le_refl _) (by omega) 4 (by decide)
    rw [zdrop (by omega), List.filter_cons] at hK hN
    by_cases hal : α (l.getD i 0) 4 = 0
    · have e1 : zal0 α (l.getD i 0) = true := decide_eq_true hal
      rw [if_pos e1, List.append_cons] at hK hN
      have hgo : ∀ v, zT sc 90 48 false [zbl t, some (.inl (nI F.length + nI 1)), some (.inl (nI i)), v] [] (zN c s (zsw f t i F.length) g) K := fun v => by
        refine zb ?_
        show zT sc 90 4 false [zbl t, some (.inl (nI F.length + nI 1)), some (.inl (nI i + nI 1)), v] [] (zN c s (zsw f t i F.length) g) K
        rw [nI_add, nI_add]
        have := ih (cl := false) (x := v) (by omega) (hD.swap (by omega)) hN (fun f' a b => hK f' (zFr.tr (fun a k w => by
          unfold zsw
          rw [zup_ne (by rintro ⟨e, -⟩; exact w (by rw [e]; exact ⟨rfl, Or.inr (Or.inl rfl)⟩)), zup_ne (by rintro ⟨e, -⟩; exact w (by rw [e]; exact ⟨rfl, Or.inr (Or.inl rfl)⟩))]) a) b) (lv := [v]) (Or.inr ⟨v, rfl⟩)
        rw [List.length_append] at this
        exact this
      have hp1 := (hD.2.2.1 F.length (by omega)).2
      have hp2 := (hD.2.2.1 i (by omega)).2
      refine zb ?_
      rcases hlv with rfl | ⟨v, rfl⟩
      · refine zin (hD.more (by omega)) ?_
        refine zin (nI_in (N := 24) (by omega) (by decide)) ?_
        rw [nI_clamp (by omega)]
        refine zip (hc.trans hal) ?_
        refine zin (nI_in (N := 24) (by omega) (by decide)) ?_
        rw [nI_clamp (by omega)]
        refine zin (zas (by omega) hp1) ?_
        rw [nI_clamp (by omega)]
        refine zin (zas (by omega) hp2) ?_
        rw [nI_clamp (by omega)]
        exact hgo _
      · refine zin (hD.more (by omega)) ?_
        refine zin (nI_in (N := 24) (by omega) (by decide)) ?_
        rw [nI_clamp (by omega)]
        refine zip (hc.trans hal) ?_
        refine zin (nI_in (N := 24) (by omega) (by decide)) ?_
        rw [nI_clamp (by omega)]
        refine zin (zas (by omega) hp1) ?_
        rw [nI_clamp (by omega)]
        refine zin (zas (by omega) hp2) ?_
        rw [nI_clamp (by omega)]
        exact hgo _
    · have e1 : ¬ zal0 α (l.getD i 0) = true := fun w => hal (of_decide_eq_true w)
      rw [if_neg e1] at hK hN
      have hgo : ∀ v, zT sc 90 48 cl [zbl t, some (.inl (nI F.length)), some (.inl (nI i)), v] [] (zN c s f g) K := fun v => by
        refine zb ?_
        show zT sc 90 4 cl [zbl t, some (.inl (nI F.length)), some (.inl (nI i + nI 1)), v] [] (zN c s f g) K
        rw [nI_add]
        exact ih (cl := cl) (x := v) (by omega) hD.skip hN hK (lv := [v]) (Or.inr ⟨v, rfl⟩)
      refine zb ?_
      rcases hlv with rfl | ⟨v, rfl⟩
      · refine zin (hD.more (by omega)) ?_
        refine zin (nI_in (N := 24) (by omega) (by decide)) ?_
        rw [nI_clamp (by omega)]
        refine zin (fun w => hal (hc.symm.trans w)) ?_
        exact hgo _
      · refine zin (hD.more (by omega)) ?_
        refine zin (nI_in (N := 24) (by omega) (by decide)) ?_
        rw [nI_clamp (by omega)]
        refine zin (fun w => hal (hc.symm.trans w)) ?_
        exact hgo _
theorem p_dropGone {f : zM} {α : zAt} (hB : zBR f t l α md) (hK : ∀ f', zFr t f f' → zBR f' t (l.filter (zal0 α)) α md → K (.inl none, zN c s f' g)) : zT sc 90 0 true [zbl t] [] (zN c s f g) K := by
  refine zb ?_
  exact p_dropGone_loop l.length (F := []) (i := 0) (x := none) (by omega) (zDG.of hB) (hB.2.2.1.filter _) hK (lv := []) (Or.inl rfl)
end BL3
