/-! Backlogs: giving up or renewing; sending; adding; what was reported -/
/-- one kept cell is given up (with its datagram) or renewed -/
def zgu (l : List Nat) (la : Int32) (w : zAt × Nat) (x : Nat) : zAt × Nat :=
  if w.1 x 4 = 0 ∧ ¬ w.1 x 3 = 0 ∧ w.1 x 6 ≤ la then (if 4 ≤ w.1 x 5 then (l.foldl (zmg (w.1 x 0)) w.1, w.2 + 1) else (zau w.1 x 3 0, w.2)) else w
section BL4
variable {sc : zC} {c s t : Nat} {g : zW} {K : zR → Prop} {l : List Nat} {md la : Int32}
theorem p_giveUp_loop (n : Nat) : ∀ {f : zM} {α : zAt} {i u : Nat} {cl : Bool}, i + n = l.length → zBR f t l α md → (∀ f', zFr t f f' → zBR f' t (l.filter (zal0 ((l.drop i).foldl (zgu l la) (α, u)).1)) ((l.drop i).foldl (zgu l la) (α, u)).1 md → K (.inl (some (.inl (nI ((l.drop i).foldl (zgu l la) (α, u)).2))), zN c s f' g)) → ∀ {lv : zL}, (lv = [] ∨ ∃ v, lv = [v]) → zT sc 88 4 cl (zbl t :: some (.inl la) :: some (.inl (nI u)) :: some (.inl (nI i)) :: lv) [] (zN c s f g) K := by
  induction n with
  | zero =>
    intro f α i u cl hi hB hK lv hlv
    have e : l.drop i = [] := List.drop_eq_nil_of_le (by omega)
    rw [e] at hK
    refine zb ?_
    refine zip (hB.done (by omega)) ?_
    refine zb ?_
    exact p_dropGone hB hK
  | succ n ih =>
    intro f α i u cl hi hB hK lv hlv
    have h24 := hB.2.1
    have hcell : ∀ q, q < 7 → f (6, t, (f (5, t, 0) i).toNatClampNeg) q = α (l.getD i 0) q := fun q hq => hB.cell (by omega) q hq
    have c0 := hcell 0 (by decide)
    have c3 := hcell 3 (by decide)
    have c4 := hcell 4 (by decide)
    have c5 := hcell 5 (by decide)
    have c6 := hcell 6 (by decide)
    rw [zdrop (by omega), List.foldl_cons] at hK
    -- behind the step
    have hgo : ∀ (f1 : zM) (α1 : zAt) (u1 : Nat) (b : Bool) (v : Option zV), zFr t f f1 → zBR f1 t l α1 md → zgu l la (α, u) (l.getD i 0) = (α1, u1) → zT sc 88 75 b [zbl t, some (.inl la), some (.inl (nI u1)), some (.inl (nI i)), v] [] (zN c s f1 g) K := by
      intro f1 α1 u1 b v hF hB1 e
      refine zb ?_
      show zT sc 88 4 b [zbl t, some (.inl la), some (.inl (nI u1)), some (.inl (nI i + nI 1)), v] [] (zN c s f1 g) K
      rw [nI_add]
      rw [e] at hK
      exact ih (by omega) hB1 (fun f' h1 h2 => hK f' (hF.tr h1) h2) (lv := [v]) (Or.inr ⟨v, rfl⟩)
    refine zb ?_
    by_cases q1 : α (l.getD i 0) 4 = 0
    · by_cases q2 : α (l.getD i 0) 3 = 0
      · have e : zgu l la (α, u) (l.getD i 0) = (α, u) := by
          unfold zgu
          rw [if_neg (fun w => w.2.1 q2)]
        rcases hlv with rfl | ⟨v, rfl⟩
        all_goals refine zin (hB.more (by omega)) ?_
        all_goals refine zin (nI_in (N := 24) (by omega) (by decide)) ?_
        all_goals rw [nI_clamp (by omega)]
        all_goals refine zip (c4.trans q1) ?_
        all_goals refine zip (c3.trans q2) ?_
        all_goals exact hgo f α u _ _ zFr.rf hB e
      · by_cases q3 : la < α (l.getD i 0) 6
        · have e : zgu l la (α, u) (l.getD i 0) = (α, u) := by
            unfold zgu
            rw [if_neg (fun w => ile.mp w.2.2 q3)]
          rcases hlv with rfl | ⟨v, rfl⟩
          all_goals refine zin (hB.more (by omega)) ?_
          all_goals refine zin (nI_in (N := 24) (by omega) (by decide)) ?_
          all_goals rw [nI_clamp (by omega)]
          all_goals refine zip (c4.trans q1) ?_
          all_goals refine zin (fun w => q2 (c3.symm.trans w)) ?_
          all_goals refine zip (show la < f (6, t, (f (5, t, 0) i).toNatClampNeg) 6 by rw [c6]; exact q3) ?_
          all_goals exact hgo f α u _ _ zFr.rf hB e
        · by_cases q4 : α (l.getD i 0) 5 < 4
          · have e : zgu l la (α, u) (l.getD i 0) = (zau α (l.getD i 0) 3 0, u) := by
              unfold zgu
              rw [if_pos ⟨q1, q2, ile.mpr q3⟩, if_neg (fun w => ile.mp w q4)]
            rcases hlv with rfl | ⟨v, rfl⟩
            all_goals refine zin (hB.more (by omega)) ?_
            all_goals refine zin (nI_in (N := 24) (by omega) (by decide)) ?_
            all_goals rw [nI_clamp (by omega)]
            all_goals refine zip (c4.trans q1) ?_
            all_goals refine zin (fun w => q2 (c3.symm.trans w)) ?_
            all_goals refine zin (show ¬ la < f (6, t, (f (5, t, 0) i).toNatClampNeg) 6 by rw [c6]; exact q3) ?_
            all_goals refine zip (show f (6, t, (f (5, t, 0) i).toNatClampNeg) 5 < 4 by rw [c5]; exact q4) ?_
            all_goals refine zb ?_
            all_goals exact hgo _ _ u _ _ (zFr.up (by decide)) (hB.put (by omega) 3 0) e
          · have e : zgu l la (α, u) (l.getD i 0) = (l.foldl (zmg (α (l.getD i 0) 0)) α, u + 1) := by
              unfold zgu
              rw [if_pos ⟨q1, q2, ile.mpr q3⟩, if_pos (ile.mpr q4)]
            rw [← c0] at e
            rcases hlv with rfl | ⟨v, rfl⟩
            all_goals refine zin (hB.more (by omega)) ?_
            all_goals refine zin (nI_in (N := 24) (by omega) (by decide)) ?_
            all_goals rw [nI_clamp (by omega)]
            all_goals refine zip (c4.trans q1) ?_
            all_goals refine zin (fun w => q2 (c3.symm.trans w)) ?_
            all_goals refine zin (show ¬ la < f (6, t, (f (5, t, 0) i).toNatClampNeg) 6 by rw [c6]; exact q3) ?_
            all_goals refine zin (show ¬ f (6, t, (f (5, t, 0) i).toNatClampNeg) 5 < 4 by rw [c5]; exact q4) ?_
            all_goals refine p_mark hB (fun f1 k1 k2 => ?_)
            all_goals have hg := hgo f1 _ (u + 1) (cl && false) (some (.inr (.inl (6, t, (f (5, t, 0) i).toNatClampNeg)))) k1 k2 e
            all_goals rw [← nI_add] at hg
            all_goals exact hg
    · have e : zgu l la (α, u) (l.getD i 0) = (α, u) := by
        unfold zgu
        rw [if_neg (fun w => q1 w.1)]
      rcases hlv with rfl | ⟨v, rfl⟩
      all_goals refine zin (hB.more (by omega)) ?_
      all_goals refine zin (nI_in (N := 24) (by omega) (by decide)) ?_
      all_goals rw [nI_clamp (by omega)]
      all_goals refine zin (fun w => q1 (c4.symm.trans w)) ?_
      all_goals exact hgo f α u _ _ zFr.rf hB e
theorem p_giveUp {f : zM} {α : zAt} (hB : zBR f t l α md) (hK : ∀ f', zFr t f f' → zBR f' t (l.filter (zal0 (l.foldl (zgu l la) (α, 0)).1)) (l.foldl (zgu l la) (α, 0)).1 md → K (.inl (some (.inl (nI (l.foldl (zgu l la) (α, 0)).2))), zN c s f' g)) : zT sc 88 0 true [zbl t, some (.inl la)] [] (zN c s f g) K := by
  refine zb ?_
  exact p_giveUp_loop l.length (i := 0) (u := 0) (by omega) hB hK (lv := []) (Or.inl rfl)
end BL4
