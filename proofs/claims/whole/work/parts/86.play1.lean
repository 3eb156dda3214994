/-! The class: what was told; times -/
theorem nI_par2 (n : Nat) : (nI n - nI 2) &&& nI 1 = nI (n % 2) := by
  match n with
  | 0 => decide +kernel
  | 1 => decide +kernel
  | n + 2 =>
    rw [nI_sub (by omega), show n + 2 - 2 = n by omega, nI_par]
    congr 1
    omega
section CP1
variable {sc : zC} {c s : Nat} {g : zW} {K : zR → Prop} {N : Nat} {P : Nat → zM → Prop}
theorem p_takeAll_loop (hst : ∀ t f, t < 5 → P t f → ∃ l α md rl, zBR f t l α md ∧ zRR f t (N % 2) rl ∧ (¬ ztk1 f t (N % 2) (nI N) (3, t, 0) 4 = nI 3 → P (t + 1) (ztk1 f t (N % 2) (nI N))) ∧ (ztk1 f t (N % 2) (nI N) (3, t, 0) 4 = nI 3 → ∀ f', zFr t (ztk2 (ztk1 f t (N % 2) (nI N)) t (N % 2) (nI N)) f' → zBR f' t (l.filter (zal0 (l.foldl (zdr rl) α))) (l.foldl (zdr rl) α) md → P (t + 1) f')) (hK : ∀ f', P 5 f' → K (.inl none, zN c s f' g)) (r : Nat) : ∀ {t : Nat} {f : zM} {cl : Bool}, t + r = 5 → P t f → zT sc 20 2 cl [zsu, some (.inl (nI N)), some (.inl (nI t))] [] (zN c s f g) K := by
  induction r with
  | zero =>
    intro t f cl ht hP
    have e : t = 5 := by omega
    subst e
    refine zb ?_
    refine zb ?_
    exact hK f hP
  | succ r ih =>
    intro t f cl ht hP
    obtain ⟨l, α, md, rl, h1, h2, h3, h4⟩ := hst t f (by omega) hP
    have hnx : ∀ f' cl, P (t + 1) f' → zT sc 20 2 cl [zsu, some (.inl (nI N)), some (.inl (nI t + nI 1))] [] (zN c s f' g) K := fun f' cl h => by
      rw [nI_add]
      exact ih (by omega) h
    refine zb ?_
    refine zin (nI_ge (a := t) (b := 5) (by omega) (by decide)) ?_
    refine zin (nI_in (N := 5) (by omega) (by decide)) ?_
    refine zin (nI_in (N := 5) (by omega) (by decide)) ?_
    rw [nI_clamp (show t < 2 ^ 31 by omega)]
    refine p_reportOf rfl (p := N % 2) (Nat.mod_lt _ (by decide)) (nI_par2 N) ?_
    refine p_take h1 h2 (fun q => ?_) (fun q f' w1 w2 => ?_)
    · exact hnx _ _ (h3 q)
    · exact hnx _ _ (h4 q f' w1 w2)
theorem p_takeAll {f : zM} (hst : ∀ t f, t < 5 → P t f → ∃ l α md rl, zBR f t l α md ∧ zRR f t (N % 2) rl ∧ (¬ ztk1 f t (N % 2) (nI N) (3, t, 0) 4 = nI 3 → P (t + 1) (ztk1 f t (N % 2) (nI N))) ∧ (ztk1 f t (N % 2) (nI N) (3, t, 0) 4 = nI 3 → ∀ f', zFr t (ztk2 (ztk1 f t (N % 2) (nI N)) t (N % 2) (nI N)) f' → zBR f' t (l.filter (zal0 (l.foldl (zdr rl) α))) (l.foldl (zdr rl) α) md → P (t + 1) f')) (h0 : P 0 f) (hK : ∀ f', P 5 f' → K (.inl none, zN c s f' g)) : zT sc 20 0 true [zsu, some (.inl (nI N))] [] (zN c s f g) K := by
  refine zb ?_
  exact p_takeAll_loop hst hK 5 (t := 0) rfl h0
/-- a terminal that was not told for long asks -/
def zckC (f : zM) (t : Nat) (k : Int32) : zM := if f (3, t, 0) 4 = nI 3 ∧ nI 5 ≤ k - f (3, t, 0) 6 then zup (zup f (3, t, 0) 4 (nI 1)) (3, t, 0) 5 (nI 0) else f
theorem zckC_ne {f : zM} {t j : Nat} {k : Int32} {x : zA} (h : x ≠ (3, t, 0) ∨ (j ≠ 4 ∧ j ≠ 5)) : zckC f t k x j = f x j := by
  unfold zckC
  split
  · rw [zup_ne (fun w => h.elim (fun q => q w.1) (fun q => q.2 w.2)), zup_ne (fun w => h.elim (fun q => q w.1) (fun q => q.1 w.2))]
  · rfl
theorem p_checkTimes_loop (hst : ∀ t f, t < 5 → P t f → ∃ l α md, zBR f t l α md ∧ ∀ f', zFr t (zckC f t (nI N)) f' → zBR f' t (l.filter (zal0 (l.foldl (zgu l (nI N - nI 2)) (α, 0)).1)) (l.foldl (zgu l (nI N - nI 2)) (α, 0)).1 md → P (t + 1) (zup f' (3, t, 0) 7 (f (3, t, 0) 7 + nI (l.foldl (zgu l (nI N - nI 2)) (α, 0)).2))) (hK : ∀ f', P 5 f' → K (.inl none, zN c s f' g)) (r : Nat) : ∀ {t : Nat} {f : zM} {cl : Bool} {lv : zL}, t + r = 5 → P t f → (lv = [] ∨ ∃ v, lv = [v]) → zT sc 21 2 cl (zsu :: some (.inl (nI N)) :: some (.inl (nI t)) :: lv) [] (zN c s f g) K := by
  induction r with
  | zero =>
    intro t f cl lv ht hP hlv
    have e : t = 5 := by omega
    subst e
    have h := hK f hP
    rcases hlv with rfl | ⟨v, rfl⟩
    all_goals
      refine zb ?_
      refine zb ?_
      exact h
  | succ r ih =>
    intro t f cl lv ht hP hlv
    obtain ⟨l, α, md, h1, h2⟩ := hst t f (by omega) hP
    have h36 : ∀ F cl, F = zckC f t (nI N) → zT sc 21 36 cl [zsu, some (.inl (nI N)), some (.inl (nI t)), zte t] [] (zN c s F g) K := fun F cl hF => by
      subst hF
      have hB : zBR (zckC f t (nI N)) t l α md := h1.fr (fun x j _ h => zckC_ne (Or.inl (fun w => by rw [w] at h; omega)))
      refine zb ?_
      refine p_giveUp hB (fun f' w1 w2 => ?_)
      have h := ih (cl := false) (by omega) (h2 f' w1 w2) (Or.inr ⟨zte t, rfl⟩)
      rw [← nI_add t 1, ← zckC_ne (f := f) (t := t) (k := nI N) (x := (3, t, 0)) (j := 7) (Or.inr ⟨by decide, by decide⟩)] at h
      exact h
    rcases hlv with rfl | ⟨v, rfl⟩
    all_goals
      refine zb ?_
      refine zin (nI_ge (a := t) (b := 5) (by omega) (by decide)) ?_
      refine zin (nI_in (N := 5) (by omega) (by decide)) ?_
      rw [nI_clamp (show t < 2 ^ 31 by omega)]
      refine zif (fun q => ?_) (fun q => ?_)
      · have q : f (3, t, 0) 4 = nI 3 := q
        refine zif (fun q2 => ?_) (fun q2 => ?_)
        · have q2 : nI N - f (3, t, 0) 6 < nI 5 := q2
          refine h36 f _ ?_
          unfold zckC
          rw [if_neg (fun w => ile.mp w.2 q2)]
        · have q2 : ¬ nI N - f (3, t, 0) 6 < nI 5 := q2
          refine p_ask (t := t) ?_
          refine h36 _ _ ?_
          unfold zckC
          rw [if_pos ⟨q, ile.mpr q2⟩]
      · have q : ¬ f (3, t, 0) 4 = nI 3 := q
        refine h36 f _ ?_
        unfold zckC
        rw [if_neg (fun w => q w.1)]
theorem p_checkTimes {f : zM} (hst : ∀ t f, t < 5 → P t f → ∃ l α md, zBR f t l α md ∧ ∀ f', zFr t (zckC f t (nI N)) f' → zBR f' t (l.filter (zal0 (l.foldl (zgu l (nI N - nI 2)) (α, 0)).1)) (l.foldl (zgu l (nI N - nI 2)) (α, 0)).1 md → P (t + 1) (zup f' (3, t, 0) 7 (f (3, t, 0) 7 + nI (l.foldl (zgu l (nI N - nI 2)) (α, 0)).2))) (h0 : P 0 f) (hK : ∀ f', P 5 f' → K (.inl none, zN c s f' g)) : zT sc 21 0 true [zsu, some (.inl (nI N))] [] (zN c s f g) K := by
  refine zb ?_
  exact p_checkTimes_loop hst hK 5 (t := 0) rfl h0 (Or.inl rfl)
end CP1
