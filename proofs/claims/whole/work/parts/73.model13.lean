/-! The reference: levels; whole datagrams; passing; reading -/
def zsl (f : zM) (h : Int32) (t : Nat) : zM :=
  if f (31, 0, 0) t = nI 1 then (if f (32, 0, 0) t = 0 then (if f (30, 0, 0) 35 = nI 1 then zup f (31, 0, 0) t (if h = 0 then nI 1 else nI 2) else zup f (32, 0, 0) t ((nI 37 * f (30, 0, 0) 1 + nI 101 * nI t + nI 11) / nI 8 - (nI 37 * f (30, 0, 0) 1 + nI 101 * nI t + nI 11) / nI 8 / nI 2 * nI 2)) else zup f (32, 0, 0) t (if f (30, 0, 0) 35 ≤ nI 1 then f (32, 0, 0) t - nI 1 else f (32, 0, 0) t + nI 1)) else f
def zslN (f : zM) (h : Int32) : Nat → zM
  | 0 => f
  | n + 1 => zsl (zslN f h n) h n
section MO13
variable {sc : zC} {c s : Nat} {f : zM} {g : zW} {K : zR → Prop} {t : Nat} {h : Int32}
theorem q_setLevels_loop (n : Nat) : ∀ {i : Nat} {cl : Bool} {lv : zL}, i + n = 5 → (lv = [] ∨ ∃ v, lv = [v]) → K (.inl none, zN c s (zslN f h 5) g) → zT sc 45 2 cl (zmo :: some (.inl h) :: some (.inl (nI i)) :: lv) [] (zN c s (zslN f h i) g) K := by
  induction n with
  | zero =>
    intro i cl lv hi hlv hK
    have e : i = 5 := by omega
    subst e
    rcases hlv with rfl | ⟨v, rfl⟩
    all_goals
      refine zb ?_
      refine zb ?_
      exact hK
  | succ n ih =>
    intro i cl lv hi hlv hK
    have e : zslN f h (i + 1) = zsl (zslN f h i) h i := rfl
    have h128 : ∀ cl {lv : zL}, (lv = [] ∨ ∃ v, lv = [v]) → zT sc 45 128 cl (zmo :: some (.inl h) :: some (.inl (nI i)) :: lv) [] (zN c s (zsl (zslN f h i) h i) g) K := fun cl lv hl => by
      have h2 := ih (i := i + 1) (cl := cl) (lv := lv) (by omega) hl hK
      rw [e, ← nI_add] at h2
      rcases hl with rfl | ⟨v, rfl⟩
      all_goals
        refine zb ?_
        exact h2
    generalize zslN f h i = F at h128 ⊢
    unfold zsl at h128
    have h31 : F (31, 0, 0) i = nI 1 → ∀ (y : Int32) {lv : zL}, ((y = nI 1 ∧ F (32, 0, 0) i = 0) ∨ (y = nI 0 ∧ ¬ F (32, 0, 0) i = 0)) → (lv = [] ∨ ∃ v, lv = [v]) → zT sc 45 31 cl (zmo :: some (.inl h) :: some (.inl (nI i)) :: lv) [.inl y] (zN c s F g) K := fun h1 y lv hy hl => by
      rw [if_pos h1] at h128
      rcases hy with ⟨rfl, hy⟩ | ⟨rfl, hy⟩
      · rw [if_pos hy] at h128
        have h128 := h128 false (lv := [some (.inl (nI 1))]) (Or.inr ⟨_, rfl⟩)
        rcases hl with rfl | ⟨v, rfl⟩
        all_goals
          refine zb ?_
          refine zif (fun q => ?_) (fun q => ?_)
          · have q : F (30, 0, 0) 35 = nI 1 := q
            rw [if_pos q] at h128
            refine zif (fun q2 => ?_) (fun q2 => ?_)
            · have q2 : h = 0 := q2
              rw [if_pos q2] at h128
              refine zb ?_
              refine zb ?_
              refine zin (nI_in (N := 5) (by omega) (by decide)) ?_
              rw [nI_clamp (show i < 2 ^ 31 by omega)]
              exact h128
            · have q2 : ¬ h = 0 := q2
              rw [if_neg q2] at h128
              refine zb ?_
              refine zin (nI_in (N := 5) (by omega) (by decide)) ?_
              rw [nI_clamp (show i < 2 ^ 31 by omega)]
              exact h128
          · have q : ¬ F (30, 0, 0) 35 = nI 1 := q
            rw [if_neg q] at h128
            refine zb ?_
            refine zin (nI_in (N := 5) (by omega) (by decide)) ?_
            rw [nI_clamp (show i < 2 ^ 31 by omega)]
            exact h128
      · rw [if_neg hy] at h128
        have h128 := h128 false (lv := [some (.inl (nI 0))]) (Or.inr ⟨_, rfl⟩)
        rcases hl with rfl | ⟨v, rfl⟩
        all_goals
          refine zb ?_
          refine zb ?_
          refine zb ?_
          refine zif (fun q => ?_) (fun q => ?_)
          · have q : F (30, 0, 0) 35 ≤ nI 1 := q
            rw [if_pos q] at h128
            refine zb ?_
            refine zin (nI_in (N := 5) (by omega) (by decide)) ?_
            refine zb ?_
            refine zin (nI_in (N := 5) (by omega) (by decide)) ?_
            rw [nI_clamp (show i < 2 ^ 31 by omega)]
            exact h128
          · have q : ¬ F (30, 0, 0) 35 ≤ nI 1 := q
            rw [if_neg q] at h128
            refine zin (nI_in (N := 5) (by omega) (by decide)) ?_
            refine zb ?_
            refine zin (nI_in (N := 5) (by omega) (by decide)) ?_
            rw [nI_clamp (show i < 2 ^ 31 by omega)]
            exact h128
    rcases hlv with rfl | ⟨v, rfl⟩
    all_goals
      refine zb ?_
      refine zin (nI_ge (a := i) (b := 5) (by omega) (by decide)) ?_
      refine zin (nI_in (N := 5) (by omega) (by decide)) ?_
      rw [nI_clamp (show i < 2 ^ 31 by omega)]
      refine zif (fun q => ?_) (fun q => ?_)
      · have q : F (31, 0, 0) i = nI 1 := q
        refine zin (nI_in (N := 5) (by omega) (by decide)) ?_
        rw [nI_clamp (show i < 2 ^ 31 by omega)]
        refine zif (fun q2 => ?_) (fun q2 => ?_)
        · exact h31 q _ (Or.inl ⟨rfl, q2⟩) (by first | exact Or.inl rfl | exact Or.inr ⟨_, rfl⟩)
        · refine zb ?_
          exact h31 q _ (Or.inr ⟨rfl, q2⟩) (by first | exact Or.inl rfl | exact Or.inr ⟨_, rfl⟩)
      · have q : ¬ F (31, 0, 0) i = nI 1 := q
        rw [if_neg q] at h128
        exact h128 _ (by first | exact Or.inl rfl | exact Or.inr ⟨_, rfl⟩)
theorem q_setLevels (hK : K (.inl none, zN c s (zslN f h 5) g)) : zT sc 45 0 true [zmo, some (.inl h)] [] (zN c s f g) K := by
  refine zb ?_
  exact q_setLevels_loop (f := f) 5 (i := 0) rfl (Or.inl rfl) hK
end MO13
