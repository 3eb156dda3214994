/-! Levels move -/
section LE
variable {sc : zC} {c s t : Nat} {f : zM} {g : zW} {K : zR → Prop} {k : Int32}
def zcoin (x y : Int32) : Int32 := ((nI 37 * x + nI 101 * y + nI 11) >>> (nI 3 &&& 31)) &&& nI 1
def zlu (v x y : Int32) : Int32 := if v ≤ 0 then zcoin x y else v + nI 1
theorem p_levelUp {v x y : Int32} (hK : K (.inl (some (.inl (zlu v x y))), zN c s f g)) : zT sc 29 0 true [some (.inl v), some (.inl x), some (.inl y)] [] (zN c s f g) K := by
  unfold zlu at hK
  refine zb ?_
  refine zif (fun q => ?_) (fun q => ?_)
  · rw [if_pos q] at hK
    refine zb ?_
    refine p_coin ?_
    refine zb ?_
    exact hK
  · rw [if_neg q] at hK
    refine zb ?_
    exact hK
/-- the next level of a terminal that asks -/
def zlev (f : zM) (k : Int32) (t : Nat) : Int32 := if f (0, 0, 0) 7 ≤ nI 1 then (if f (3, t, 0) 5 - nI 1 < nI 0 then nI 0 else f (3, t, 0) 5 - nI 1) else zlu (f (3, t, 0) 5) k (nI t)
/-- levels below i have moved -/
def zml (f : zM) (k : Int32) (i : Nat) : zM := fun x j => if x.1 = 3 ∧ x.2.1 < i ∧ x.2.2 = 0 ∧ j = 5 ∧ f x 4 = nI 1 then zlev f k x.2.1 else f x j
theorem zml_ne {i : Nat} {x : zA} {j : Nat} (h : ¬ (x.1 = 3 ∧ x.2.1 < i ∧ x.2.2 = 0 ∧ j = 5 ∧ f x 4 = nI 1)) : zml f k i x j = f x j := by
  unfold zml
  rw [if_neg h]
theorem zml_yes {i : Nat} (h : f (3, i, 0) 4 = nI 1) : zup (zml f k i) (3, i, 0) 5 (zlev f k i) = zml f k (i + 1) := by
  funext x j
  rw [zup_at]
  by_cases a : x = (3, i, 0) ∧ j = 5
  · obtain ⟨rfl, rfl⟩ := a
    rw [if_pos ⟨rfl, rfl⟩]
    unfold zml
    rw [if_pos ⟨rfl, Nat.lt_succ_self _, rfl, rfl, h⟩]
  · rw [if_neg a]
    unfold zml
    by_cases b : x.1 = 3 ∧ x.2.1 < i ∧ x.2.2 = 0 ∧ j = 5 ∧ f x 4 = nI 1
    · rw [if_pos b, if_pos ⟨b.1, by omega, b.2.2⟩]
    · rw [if_neg b, if_neg (fun w => ?_)]
      by_cases q : x.2.1 = i
      · exact a ⟨Prod.ext w.1 (Prod.ext q w.2.2.1), w.2.2.2.1⟩
      · exact b ⟨w.1, by omega, w.2.2⟩
theorem zml_no {i : Nat} (h : ¬ f (3, i, 0) 4 = nI 1) : zml f k i = zml f k (i + 1) := by
  funext x j
  unfold zml
  by_cases b : x.1 = 3 ∧ x.2.1 < i ∧ x.2.2 = 0 ∧ j = 5 ∧ f x 4 = nI 1
  · rw [if_pos b, if_pos ⟨b.1, by omega, b.2.2⟩]
  · rw [if_neg b, if_neg (fun w => ?_)]
    by_cases q : x.2.1 = i
    · have : x = (3, i, 0) := Prod.ext w.1 (Prod.ext q w.2.2.1)
      exact h (by rw [← this]; exact w.2.2.2.2)
    · exact b ⟨w.1, by omega, w.2.2⟩
theorem p_lev_loop {y : Option zV} (n : Nat) : ∀ {i : Nat} {cl : Bool} {lv : zL}, i + n = 5 → (lv = [] ∨ ∃ v, lv = [v]) → K (.inl none, zN c s (zml f k 5) g) → zT sc 28 26 cl (zsu :: some (.inl k) :: y :: some (.inl (nI i)) :: lv) [] (zN c s (zml f k i) g) K := by
  induction n with
  | zero =>
    intro i cl lv hi hlv hK
    have e : i = 5 := by omega
    subst e
    refine zb ?_
    refine zb ?_
    exact hK
  | succ n ih =>
    intro i cl lv hi hlv hK
    have hi5 : i < 5 := by omega
    have e4 : zml f k i (3, i, 0) 4 = f (3, i, 0) 4 := zml_ne (fun w => by have := w.2.2.2.1; cases this)
    have e5 : zml f k i (3, i, 0) 5 = f (3, i, 0) 5 := zml_ne (fun w => by have := w.2.1; simp at this)
    have e7 : zml f k i (0, 0, 0) 7 = f (0, 0, 0) 7 := zml_ne (fun w => by have := w.1; cases this)
    have hgo : ∀ b v, zT sc 28 85 b [zsu, some (.inl k), y, some (.inl (nI i)), v] [] (zN c s (zml f k (i + 1)) g) K := fun b v => by
      refine zb ?_
      show zT sc 28 26 b [zsu, some (.inl k), y, some (.inl (nI i + nI 1)), v] [] (zN c s (zml f k (i + 1)) g) K
      rw [nI_add]
      exact ih (by omega) (Or.inr ⟨v, rfl⟩) hK
    have hset : ∀ b w, f (3, i, 0) 4 = nI 1 → w = zlev f k i → zT sc 28 82 b [zsu, some (.inl k), y, some (.inl (nI i)), zte i] [.inl w, .inr (.inl (3, i, 0))] (zN c s (zml f k i) g) K := fun b w h e => by
      subst e
      refine zb ?_
      show zT sc 28 85 false [zsu, some (.inl k), y, some (.inl (nI i)), zte i] [] (zN c s (zup (zml f k i) (3, i, 0) 5 (zlev f k i)) g) K
      rw [zml_yes h]
      exact hgo _ _
    refine zb ?_
    by_cases q : f (3, i, 0) 4 = nI 1
    · by_cases q2 : f (0, 0, 0) 7 ≤ nI 1
      · rcases hlv with rfl | ⟨v, rfl⟩
        all_goals refine zin (nI_ge (a := i) (b := 5) (by omega) (by decide)) ?_
        all_goals refine zin (nI_in (N := 5) hi5 (by decide)) ?_
        all_goals rw [nI_clamp (show i < 2 ^ 31 by omega)]
        all_goals refine zip (e4.trans q) ?_
        all_goals refine zip (show zml f k i (0, 0, 0) 7 ≤ nI 1 by rw [e7]; exact q2) ?_
        all_goals refine zb ?_
        all_goals refine hset _ (if zml f k i (3, i, 0) 5 - nI 1 < nI 0 then nI 0 else zml f k i (3, i, 0) 5 - nI 1) q ?_
        all_goals rw [e5]
        all_goals unfold zlev
        all_goals rw [if_pos q2]
      · rcases hlv with rfl | ⟨v, rfl⟩
        all_goals refine zin (nI_ge (a := i) (b := 5) (by omega) (by decide)) ?_
        all_goals refine zin (nI_in (N := 5) hi5 (by decide)) ?_
        all_goals rw [nI_clamp (show i < 2 ^ 31 by omega)]
        all_goals refine zip (e4.trans q) ?_
        all_goals refine zin (show ¬ zml f k i (0, 0, 0) 7 ≤ nI 1 by rw [e7]; exact q2) ?_
        all_goals refine p_levelUp (v := zml f k i (3, i, 0) 5) (x := k) (y := nI i) ?_
        all_goals refine hset _ _ q ?_
        all_goals rw [e5]
        all_goals unfold zlev
        all_goals rw [if_neg q2]
    · rcases hlv with rfl | ⟨v, rfl⟩
      all_goals refine zin (nI_ge (a := i) (b := 5) (by omega) (by decide)) ?_
      all_goals refine zin (nI_in (N := 5) hi5 (by decide)) ?_
      all_goals rw [nI_clamp (show i < 2 ^ 31 by omega)]
      all_goals refine zin (fun w => q (e4.symm.trans w)) ?_
      all_goals have hg := hgo cl (zte i)
      all_goals rw [← zml_no q] at hg
      all_goals exact hg
end LE
