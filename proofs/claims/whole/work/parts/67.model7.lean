/-! The reference: again, run -/
def zbI (b : Bool) : Int32 := bif b then nI 1 else nI 0
section MO7
variable {sc : zC} {c s : Nat} {f : zM} {g : zW} {K : zR → Prop} {t M : Nat} {z : Nat → Nat}
theorem q_again_in {F : zM} {d n : Nat} (ht : t < 5) (hd : d ≤ 60) (hn : F (40, 0, 0) (61 * t + d) = nI n) (h1 : 1 ≤ n) (h6 : n ≤ 6) (r : Nat) : ∀ {i : Nat} {cl : Bool} {lv : zL}, i + r = n → ((lv = [] ∧ i = 0) ∨ ∃ u v, lv = [u, v]) → (∀ cl u v, zT sc 40 131 cl [zmo, some (.inl (nI t)), some (.inl (nI d)), some (.inl (zbI (zfl F (366 * t + 6 * d) n))), some (.inl (nI n)), u, v] [] (zN c s (zg1 F (366 * t + 6 * d) n) g) K) → zT sc 40 17 cl (zmo :: some (.inl (nI t)) :: some (.inl (nI d)) :: some (.inl (zbI (zfl F (366 * t + 6 * d) i))) :: some (.inl (nI i)) :: lv) [] (zN c s (zg1 F (366 * t + 6 * d) i) g) K := by
  induction r with
  | zero =>
    intro i cl lv hi hlv hK
    have e : i = n := by omega
    subst e
    rcases hlv with ⟨-, e⟩ | ⟨u, v, rfl⟩
    · omega
    refine zb ?_
    refine zin (show ¬ (nI 61 * nI t + nI d < 0 ∨ 305 ≤ (nI 61 * nI t + nI d).toNatClampNeg) by rw [zsz_e]; exact nI_in (N := 305) (by omega) (by decide)) ?_
    refine zip (show zg1 F (366 * t + 6 * d) i (40, 0, 0) (nI 61 * nI t + nI d).toNatClampNeg ≤ nI i from ?_) ?_
    · rw [zsz_e, nI_clamp (by omega), zg1_ne (by decide), hn]
      exact nI_le (Nat.le_refl _) (by omega)
    exact hK _ _ _
  | succ r ih =>
    intro i cl lv hi hlv hK
    have h101 : ∀ (cl : Bool) (w : Option zV), zT sc 40 101 cl [zmo, some (.inl (nI t)), some (.inl (nI d)), w, some (.inl (nI i)), some (.inl (nI (366 * t + 6 * d + i))), some (.inl (zbI (zisB F (366 * t + 6 * d + i))))] [.inl (zbI (zfl F (366 * t + 6 * d) (i + 1)))] (zN c s (zg1 F (366 * t + 6 * d) i) g) K := fun cl w => by
      have hn := fun cl => ih (i := i + 1) (cl := cl) (by omega) (Or.inr ⟨some (.inl (nI (366 * t + 6 * d + i))), some (.inl (zbI (zisB F (366 * t + 6 * d + i)))), rfl⟩) hK
      cases hb : zisB F (366 * t + 6 * d + i) with
      | true =>
        rw [hb] at hn
        refine zb ?_
        refine zb ?_
        refine zin (nI_in (N := 1830) (by omega) (by decide)) ?_
        rw [nI_clamp (show 366 * t + 6 * d + i < 2 ^ 31 by omega)]
        have h := hn false
        rw [← zg1_yes hb, ← nI_add] at h
        exact h
      | false =>
        rw [hb] at hn
        refine zb ?_
        refine zb ?_
        refine zin (nI_in (N := 1830) (by omega) (by decide)) ?_
        refine zb ?_
        refine zin (nI_in (N := 1830) (by omega) (by decide)) ?_
        rw [nI_clamp (show 366 * t + 6 * d + i < 2 ^ 31 by omega)]
        have h := hn false
        rw [← zg1_no hb, ← nI_add, ← zup_self (f := zg1 F (366 * t + 6 * d) i) (a := (41, 0, 0)) (k := 366 * t + 6 * d + i)] at h
        exact h
    have h74 : ∀ (cl : Bool) {lv : zL}, (lv = [] ∨ ∃ v, lv = [v]) → zT sc 40 74 cl (zmo :: some (.inl (nI t)) :: some (.inl (nI d)) :: some (.inl (zbI (zfl F (366 * t + 6 * d) i))) :: some (.inl (nI i)) :: some (.inl (nI (366 * t + 6 * d + i))) :: lv) [.inl (zbI (zisB F (366 * t + 6 * d + i)))] (zN c s (zg1 F (366 * t + 6 * d) i) g) K := fun cl lv hlv => by
      have e : zfl F (366 * t + 6 * d) (i + 1) = (zfl F (366 * t + 6 * d) i || (zisB F (366 * t + 6 * d + i) && decide (F (43, 0, 0) (366 * t + 6 * d + i) = nI 4))) := rfl
      rw [e] at h101
      cases hf : zfl F (366 * t + 6 * d) i with
      | true =>
        rw [hf] at h101
        rcases hlv with rfl | ⟨v, rfl⟩
        all_goals
          refine zb ?_
          refine zb ?_
          exact h101 _ _
      | false =>
        rw [hf] at h101
        cases hb : zisB F (366 * t + 6 * d + i) with
        | false =>
          rw [hb] at h101
          rcases hlv with rfl | ⟨v, rfl⟩
          all_goals
            refine zb ?_
            refine zb ?_
            exact h101 _ _
        | true =>
          rw [hb] at h101
          by_cases q : F (43, 0, 0) (366 * t + 6 * d + i) = nI 4
          · rw [decide_eq_true q] at h101
            rcases hlv with rfl | ⟨v, rfl⟩
            all_goals
              refine zb ?_
              refine zin (nI_in (N := 1830) (by omega) (by decide)) ?_
              rw [nI_clamp (show 366 * t + 6 * d + i < 2 ^ 31 by omega)]
              refine zip (show zg1 F (366 * t + 6 * d) i (43, 0, 0) (366 * t + 6 * d + i) = nI 4 by rw [zg1_ne (by decide)]; exact q) ?_
              refine zb ?_
              exact h101 _ _
          · rw [decide_eq_false q] at h101
            rcases hlv with rfl | ⟨v, rfl⟩
            all_goals
              refine zb ?_
              refine zin (nI_in (N := 1830) (by omega) (by decide)) ?_
              rw [nI_clamp (show 366 * t + 6 * d + i < 2 ^ 31 by omega)]
              refine zin (show ¬ zg1 F (366 * t + 6 * d) i (43, 0, 0) (366 * t + 6 * d + i) = nI 4 by rw [zg1_ne (by decide)]; exact q) ?_
              refine zb ?_
              exact h101 _ _
    have hgo : ∀ {cl : Bool} {lv' : zL}, (lv' = [] ∨ ∃ v, lv' = [v]) → (∀ (x : Int32), x = zbI (zisB F (366 * t + 6 * d + i)) → zT sc 40 74 cl (zmo :: some (.inl (nI t)) :: some (.inl (nI d)) :: some (.inl (zbI (zfl F (366 * t + 6 * d) i))) :: some (.inl (nI i)) :: some (.inl (nI (366 * t + 6 * d + i))) :: lv') [.inl x] (zN c s (zg1 F (366 * t + 6 * d) i) g) K) := fun hl x hx => by
      rw [hx]; exact h74 _ hl
    rcases hlv with ⟨rfl, -⟩ | ⟨u, v, rfl⟩
    all_goals
      refine zb ?_
      refine zin (show ¬ (nI 61 * nI t + nI d < 0 ∨ 305 ≤ (nI 61 * nI t + nI d).toNatClampNeg) by rw [zsz_e]; exact nI_in (N := 305) (by omega) (by decide)) ?_
      refine zin (show ¬ zg1 F (366 * t + 6 * d) i (40, 0, 0) (nI 61 * nI t + nI d).toNatClampNeg ≤ nI i from ?_) ?_
      · rw [zsz_e, nI_clamp (by omega), zg1_ne (by decide), hn]
        exact nI_ge (by omega) (by omega)
      refine q_atI ?_
      rw [zat_e]
      refine zin (nI_in (N := 1830) (by omega) (by decide)) ?_
      rw [nI_clamp (show 366 * t + 6 * d + i < 2 ^ 31 by omega)]
      refine zif (fun q => ?_) (fun q => ?_)
      · have q : zg1 F (366 * t + 6 * d) i (41, 0, 0) (366 * t + 6 * d + i) = nI 2 := q
        rw [zg1_at] at q
        refine zin (nI_in (N := 1830) (by omega) (by decide)) ?_
        rw [nI_clamp (show 366 * t + 6 * d + i < 2 ^ 31 by omega)]
        refine zif (fun q2 => ?_) (fun q2 => ?_)
        · have q2 : zg1 F (366 * t + 6 * d) i (30, 0, 0) 1 - nI 2 < zg1 F (366 * t + 6 * d) i (42, 0, 0) (366 * t + 6 * d + i) := q2
          rw [zg1_ne (by decide), zg1_ne (by decide)] at q2
          refine zb ?_
          refine hgo (by first | exact Or.inl rfl | exact Or.inr ⟨_, rfl⟩) _ ?_
          unfold zisB
          rw [decide_eq_false (p := F (42, 0, 0) (366 * t + 6 * d + i) ≤ F (30, 0, 0) 1 - nI 2) (fun w => ile.mp w q2), Bool.and_false]
          rfl
        · have q2 : ¬ zg1 F (366 * t + 6 * d) i (30, 0, 0) 1 - nI 2 < zg1 F (366 * t + 6 * d) i (42, 0, 0) (366 * t + 6 * d + i) := q2
          rw [zg1_ne (by decide), zg1_ne (by decide)] at q2
          refine hgo (by first | exact Or.inl rfl | exact Or.inr ⟨_, rfl⟩) _ ?_
          unfold zisB
          rw [decide_eq_true q, decide_eq_true (ile.mpr q2)]
          rfl
      · have q : ¬ zg1 F (366 * t + 6 * d) i (41, 0, 0) (366 * t + 6 * d + i) = nI 2 := q
        rw [zg1_at] at q
        refine zb ?_
        refine hgo (by first | exact Or.inl rfl | exact Or.inr ⟨_, rfl⟩) _ ?_
        unfold zisB
        rw [decide_eq_false q]
        rfl
end MO7
