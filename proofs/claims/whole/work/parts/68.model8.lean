/-! The reference: again, all of it -/
section MO8
variable {sc : zC} {c s : Nat} {f : zM} {g : zW} {K : zR → Prop} {t M : Nat} {z : Nat → Nat}
theorem q_again_gone {G : zM} {d n : Nat} {u v : Option zV} (ht : t < 5) (hd : d ≤ 60) (hn : G (40, 0, 0) (61 * t + d) = nI n) (h6 : n ≤ 6) (r : Nat) : ∀ {i : Nat} {cl : Bool}, i + r = n → (∀ cl w, zT sc 40 173 cl [zmo, some (.inl (nI t)), some (.inl (nI d)), some (.inl (nI 1)), w, u, v] [] (zN c s (zg2 G (366 * t + 6 * d) n) g) K) → zT sc 40 134 cl [zmo, some (.inl (nI t)), some (.inl (nI d)), some (.inl (nI 1)), some (.inl (nI i)), u, v] [] (zN c s (zg2 G (366 * t + 6 * d) i) g) K := by
  induction r with
  | zero =>
    intro i cl hi hK
    have e : i = n := by omega
    subst e
    refine zb ?_
    refine zin (show ¬ (nI 61 * nI t + nI d < 0 ∨ 305 ≤ (nI 61 * nI t + nI d).toNatClampNeg) by rw [zsz_e]; exact nI_in (N := 305) (by omega) (by decide)) ?_
    refine zip (show zg2 G (366 * t + 6 * d) i (40, 0, 0) (nI 61 * nI t + nI d).toNatClampNeg ≤ nI i from ?_) ?_
    · rw [zsz_e, nI_clamp (by omega), zg2_ne (by decide), hn]
      exact nI_le (Nat.le_refl _) (by omega)
    exact hK _ _
  | succ r ih =>
    intro i cl hi hK
    refine zb ?_
    refine zin (show ¬ (nI 61 * nI t + nI d < 0 ∨ 305 ≤ (nI 61 * nI t + nI d).toNatClampNeg) by rw [zsz_e]; exact nI_in (N := 305) (by omega) (by decide)) ?_
    refine zin (show ¬ zg2 G (366 * t + 6 * d) i (40, 0, 0) (nI 61 * nI t + nI d).toNatClampNeg ≤ nI i from ?_) ?_
    · rw [zsz_e, nI_clamp (by omega), zg2_ne (by decide), hn]
      exact nI_ge (by omega) (by omega)
    refine q_atI ?_
    rw [zat_e]
    refine zin (nI_in (N := 1830) (by omega) (by decide)) ?_
    rw [nI_clamp (show 366 * t + 6 * d + i < 2 ^ 31 by omega)]
    have h := ih (i := i + 1) (cl := false) (by omega) hK
    rw [← zg2_up, ← nI_add] at h
    exact h
theorem q_again_d {F : zM} {d n : Nat} (ht : t < 5) (hd : d ≤ 60) (hn : F (40, 0, 0) (61 * t + d) = nI n) (h1 : 1 ≤ n) (h6 : n ≤ 6) {cl : Bool} {u v : Option zV} (hK : ∀ cl a b e h, zT sc 40 2 cl [zmo, some (.inl (nI t)), some (.inl (nI (d + 1))), a, b, e, h] [] (zN c s (zg3 F t d n) g) K) : zT sc 40 131 cl [zmo, some (.inl (nI t)), some (.inl (nI d)), some (.inl (zbI (zfl F (366 * t + 6 * d) n))), some (.inl (nI n)), u, v] [] (zN c s (zg1 F (366 * t + 6 * d) n) g) K := by
  have hn' : zg1 F (366 * t + 6 * d) n (40, 0, 0) (61 * t + d) = nI n := (zg1_ne (by decide)).trans hn
  unfold zg3 at hK
  refine zb ?_
  cases hf : zfl F (366 * t + 6 * d) n with
  | true =>
    rw [hf] at hK
    have h := q_again_gone (sc := sc) (K := K) (c := c) (s := s) (g := g) (cl := cl) (u := u) (v := v) ht hd hn' h6 n (i := 0) (by omega) (fun cl w => ?_)
    · rw [zg2_0] at h
      exact h
    · refine zb ?_
      refine zin (nI_in (N := 5) ht (by decide)) ?_
      refine zb ?_
      refine zin (nI_in (N := 5) ht (by decide)) ?_
      rw [nI_clamp (show t < 2 ^ 31 by omega)]
      have h := hK false (some (.inl (nI 1))) w u v
      rw [← nI_add] at h
      have e : zg2 (zg1 F (366 * t + 6 * d) n) (366 * t + 6 * d) n (37, 0, 0) t = F (37, 0, 0) t := (zg2_ne (by decide)).trans (zg1_ne (by decide))
      rw [← e] at h
      exact h
  | false =>
    rw [hf] at hK
    refine zb ?_
    refine zin (show ¬ (nI 61 * nI t + nI d < 0 ∨ 305 ≤ (nI 61 * nI t + nI d).toNatClampNeg) by rw [zsz_e]; exact nI_in (N := 305) (by omega) (by decide)) ?_
    refine zin (show ¬ zg1 F (366 * t + 6 * d) n (40, 0, 0) (nI 61 * nI t + nI d).toNatClampNeg ≤ nI 0 from ?_) ?_
    · rw [zsz_e, nI_clamp (by omega), hn']
      exact nI_ge (by omega) (by omega)
    refine zb ?_
    refine zb ?_
    refine zin (nI_in (N := 5) ht (by decide)) ?_
    refine zb ?_
    refine zin (nI_in (N := 5) ht (by decide)) ?_
    rw [nI_clamp (show t < 2 ^ 31 by omega)]
    have h := hK false (some (.inl (nI 0))) (some (.inl (nI 0))) u v
    rw [← nI_add] at h
    rw [← zup_self (f := zg1 F (366 * t + 6 * d) n) (a := (37, 0, 0)) (k := t)] at h
    exact h
theorem q_again_loop (ht : t < 5) (hS : zSz f t M z) (n : Nat) : ∀ {d : Nat} {cl : Bool} {lv : zL}, d + n = M → (lv = [] ∨ ∃ a b e h, lv = [a, b, e, h]) → K (.inl none, zN c s (zgA f t z M) g) → zT sc 40 2 cl (zmo :: some (.inl (nI t)) :: some (.inl (nI (d + 1))) :: lv) [] (zN c s (zgA f t z d) g) K := by
  obtain ⟨hM, hM60, hz⟩ := hS
  induction n with
  | zero =>
    intro d cl lv hd hlv hK
    have e : d = M := by omega
    subst e
    rcases hlv with rfl | ⟨a, b, e, h, rfl⟩
    all_goals
      refine zb ?_
      refine zin (nI_in (N := 5) ht (by decide)) ?_
      rw [nI_clamp (show t < 2 ^ 31 by omega)]
      refine zip (show zgA f t z d (36, 0, 0) t < nI (d + 1) by rw [zgA_ne (by decide) (by decide), hM]; exact nI_lt (by omega) (by omega)) ?_
      refine zb ?_
      exact hK
  | succ n ih =>
    intro d cl lv hd hlv hK
    obtain ⟨z1, z2, z3⟩ := hz (d + 1) (by omega) (by omega)
    have z1' : zgA f t z d (40, 0, 0) (61 * t + (d + 1)) = nI (z (d + 1)) := (zgA_ne (by decide) (by decide) d).trans z1
    have key : ∀ cl {lv : zL}, (lv = [] ∨ ∃ u v, lv = [u, v]) → zT sc 40 17 cl (zmo :: some (.inl (nI t)) :: some (.inl (nI (d + 1))) :: some (.inl (nI 0)) :: some (.inl (nI 0)) :: lv) [] (zN c s (zgA f t z d) g) K := fun cl lv hlv => by
      have h := q_again_in (sc := sc) (K := K) (c := c) (s := s) (g := g) (F := zgA f t z d) (cl := cl) (lv := lv) ht (show d + 1 ≤ 60 by omega) z1' z2 z3 (z (d + 1)) (i := 0) (by omega) (by
        rcases hlv with e | e
        · exact Or.inl ⟨e, rfl⟩
        · exact Or.inr e) (fun cl u v => q_again_d ht (by omega) z1' z2 z3 (fun cl a b e h => ih (d := d + 1) (by omega) (Or.inr ⟨_, _, _, _, rfl⟩) hK))
      rw [zg1_0] at h
      exact h
    rcases hlv with rfl | ⟨a, b, e, h, rfl⟩
    · refine zb ?_
      refine zin (nI_in (N := 5) ht (by decide)) ?_
      rw [nI_clamp (show t < 2 ^ 31 by omega)]
      refine zin (show ¬ zgA f t z d (36, 0, 0) t < nI (d + 1) by rw [zgA_ne (by decide) (by decide), hM]; exact nI_nlt (by omega) (by omega)) ?_
      exact key _ (Or.inl rfl)
    · refine zb ?_
      refine zin (nI_in (N := 5) ht (by decide)) ?_
      rw [nI_clamp (show t < 2 ^ 31 by omega)]
      refine zin (show ¬ zgA f t z d (36, 0, 0) t < nI (d + 1) by rw [zgA_ne (by decide) (by decide), hM]; exact nI_nlt (by omega) (by omega)) ?_
      exact key _ (Or.inr ⟨_, _, rfl⟩)
theorem q_again (ht : t < 5) (hS : zSz f t M z) (hK : K (.inl none, zN c s (zgA f t z M) g)) : zT sc 40 0 true [zmo, some (.inl (nI t))] [] (zN c s f g) K := by
  refine zb ?_
  exact q_again_loop ht hS M (d := 0) (by omega) (Or.inl rfl) hK
end MO8
