/-! Upkeep by switching off, by sending -/
section OP2
variable {f F : zM} {N : Nat} {l : Nat → List Nat} {α : Nat → zAt} {M : Nat → Nat} {Z : Nat → Nat → Nat} {W Q : Nat → Nat}
theorem zpo_41 {s : zM} {b n j : Nat} : zpo s b n (41, 0, 0) j = if b ≤ j ∧ j < b + n ∧ s (41, 0, 0) j = nI 2 then nI 1 else s (41, 0, 0) j := by
  unfold zpo
  by_cases q : b ≤ j ∧ j < b + n ∧ s (41, 0, 0) j = nI 2
  · rw [if_pos ⟨rfl, q⟩, if_pos q]
  · rw [if_neg (fun w => q w.2), if_neg (fun w => absurd w.1 (by decide)), if_neg q]
theorem zpo_43 {s : zM} {b n j : Nat} : zpo s b n (43, 0, 0) j = if b ≤ j ∧ j < b + n then nI 0 else s (43, 0, 0) j := by
  unfold zpo
  rw [if_neg (fun w => absurd w.1 (by decide))]
  by_cases q : b ≤ j ∧ j < b + n
  · rw [if_pos ⟨rfl, q⟩, if_pos q]
  · rw [if_neg (fun w => q w.2), if_neg q]
theorem zpo_ne {s : zM} {b n j : Nat} {x : zA} (h1 : x ≠ (41, 0, 0)) (h2 : x ≠ (43, 0, 0)) : zpo s b n x j = s x j := by
  unfold zpo
  rw [if_neg (fun w => h1 w.1), if_neg (fun w => h2 w.1)]
theorem u_off {t : Nat} (h : zINV f f N l α M Z W Q) (ht : t < 5) (hF : zFr t (zup f (3, t, 0) 4 (nI 0)) F) (hB : zBR F t (l t) ((l t).foldl (fun α x => zau (zau α x 3 0) x 5 0) (α t)) (nI (M t))) : ∃ α', zINV (zpo (zup (zup (zup F (30, 0, 0) 0 (nI 0)) (31, 0, 0) t (nI 0)) (32, 0, 0) t (nI 0)) (366 * t) 366) (zpo (zup (zup (zup F (30, 0, 0) 0 (nI 0)) (31, 0, 0) t (nI 0)) (32, 0, 0) t (nI 0)) (366 * t) 366) N l α' M Z W Q := by
  have hFf : ∀ x j, ¬ (x.2.1 = t ∧ (x.1 = 4 ∨ x.1 = 5 ∨ x.1 = 6)) → ¬ (x = (3, t, 0) ∧ j = 4) → F x j = f x j := fun x j h1 h2 => (hF x j h1).trans (zup_ne h2)
  have nF : ∀ x j, x ≠ (41, 0, 0) → x ≠ (43, 0, 0) → ¬ (x = (32, 0, 0) ∧ j = t) → ¬ (x = (31, 0, 0) ∧ j = t) → ¬ (x = (30, 0, 0) ∧ j = 0) → zpo (zup (zup (zup F (30, 0, 0) 0 (nI 0)) (31, 0, 0) t (nI 0)) (32, 0, 0) t (nI 0)) (366 * t) 366 x j = F x j := fun x j h1 h2 h3 h4 h5 => by
    rw [zpo_ne h1 h2, zup_ne h3, zup_ne h4, zup_ne h5]
  have hk : ∀ κ j, 33 ≤ κ → κ ≠ 41 → κ ≠ 43 → zpo (zup (zup (zup F (30, 0, 0) 0 (nI 0)) (31, 0, 0) t (nI 0)) (32, 0, 0) t (nI 0)) (366 * t) 366 (κ, 0, 0) j = f (κ, 0, 0) j := fun κ j h1 h2 h3 => by
    have ne : ∀ {k : Nat}, κ ≠ k → ((κ, 0, 0) : zA) ≠ (k, 0, 0) := fun hk w => hk (congrArg Prod.fst w)
    rw [nF _ _ (ne h2) (ne h3) (fun w => ne (k := 32) (by omega) w.1) (fun w => ne (k := 31) (by omega) w.1) (fun w => ne (k := 30) (by omega) w.1)]
    exact hFf _ _ (fun w => by have := w.2; simp at this; omega) (fun w => by have := congrArg Prod.fst w.1; simp at this; omega)
  have hc : ∀ x j, x.1 < 30 → ¬ (x.2.1 = t ∧ (x.1 = 4 ∨ x.1 = 5 ∨ x.1 = 6)) → ¬ (x = (3, t, 0) ∧ j = 4) → zpo (zup (zup (zup F (30, 0, 0) 0 (nI 0)) (31, 0, 0) t (nI 0)) (32, 0, 0) t (nI 0)) (366 * t) 366 x j = f x j := fun x j h1 h2 h3 => by
    rw [nF x j (zlt h1 (by omega)) (zlt h1 (by omega)) (fun w => zlt h1 (κ := 32) (by omega) w.1) (fun w => zlt h1 (κ := 31) (by omega) w.1) (fun w => zlt h1 (κ := 30) (by omega) w.1)]
    exact hFf x j h2 h3
  have e41 : ∀ j, zpo (zup (zup (zup F (30, 0, 0) 0 (nI 0)) (31, 0, 0) t (nI 0)) (32, 0, 0) t (nI 0)) (366 * t) 366 (41, 0, 0) j = if 366 * t ≤ j ∧ j < 366 * t + 366 ∧ f (41, 0, 0) j = nI 2 then nI 1 else f (41, 0, 0) j := fun j => by
    rw [zpo_41, zup_nk (by decide), zup_nk (by decide), zup_nk (by decide), hFf _ _ (by simp) (by rintro ⟨w, -⟩; cases w)]
  have e43 : ∀ j, zpo (zup (zup (zup F (30, 0, 0) 0 (nI 0)) (31, 0, 0) t (nI 0)) (32, 0, 0) t (nI 0)) (366 * t) 366 (43, 0, 0) j = if 366 * t ≤ j ∧ j < 366 * t + 366 then nI 0 else f (43, 0, 0) j := fun j => by
    rw [zpo_43, zup_nk (by decide), zup_nk (by decide), zup_nk (by decide), hFf _ _ (by simp) (by rintro ⟨w, -⟩; cases w)]
  have e31 : ∀ κ j, κ = 31 ∨ κ = 32 → zpo (zup (zup (zup F (30, 0, 0) 0 (nI 0)) (31, 0, 0) t (nI 0)) (32, 0, 0) t (nI 0)) (366 * t) 366 (κ, 0, 0) j = if j = t then nI 0 else f (κ, 0, 0) j := fun κ j hκ => by
    have hF' : F (κ, 0, 0) j = f (κ, 0, 0) j := hFf _ _ (fun w => by have := w.2; simp at this; omega) (fun w => by have := congrArg Prod.fst w.1; simp at this; omega)
    rcases hκ with rfl | rfl
    · rw [zpo_ne (by decide) (by decide), zup_nk (by decide), zup_at]
      by_cases q : j = t
      · rw [if_pos q, if_pos ⟨rfl, q⟩]
      · rw [if_neg q, if_neg (fun w => q w.2), zup_nk (by decide)]; exact hF'
    · rw [zpo_ne (by decide) (by decide), zup_at]
      by_cases q : j = t
      · rw [if_pos q, if_pos ⟨rfl, q⟩]
      · rw [if_neg q, if_neg (fun w => q w.2), zup_nk (by decide), zup_nk (by decide)]; exact hF'
  have e3 : ∀ j, zpo (zup (zup (zup F (30, 0, 0) 0 (nI 0)) (31, 0, 0) t (nI 0)) (32, 0, 0) t (nI 0)) (366 * t) 366 (3, t, 0) j = if j = 4 then nI 0 else f (3, t, 0) j := fun j => by
    by_cases q : j = 4
    · rw [if_pos q, nF _ _ (fun w => by cases w) (fun w => by cases w) (fun w => by cases w.1) (fun w => by cases w.1) (fun w => by cases w.1), hF _ _ (by simp), q, zup_eq]
    · rw [if_neg q]; exact hc _ _ (by simp) (by simp) (fun w => q w.2)
  refine ⟨fun x => if x = t then (l t).foldl (fun α x => zau (zau α x 3 0) x 5 0) (α t) else α x, h.cg3 (fun x j h1 h2 => hc x j h1 (fun w => h2 (by omega)) (fun w => h2 (by rw [w.1]; exact Or.inl rfl))) ⟨fun κ j hκ => hk κ j (by omega) (by omega) (by omega), fun j hj => ?_⟩ (fun t' ht' => ?_) (fun t' ht' => (h.1 t' ht').2.1.2.1.cg (fun d _ => hk 51 _ (by omega) (by omega) (by omega))) (h.2.2.1.cg (fun j => hk 56 _ (by omega) (by omega) (by omega)) (fun j => hk 57 _ (by omega) (by omega) (by omega))) (fun t' ht' => ?_) h.2.2.2.2.1⟩
  · rw [nF _ _ (by decide) (by decide) (by rintro ⟨w, -⟩; cases w) (by rintro ⟨w, -⟩; cases w) (fun w => hj w.2)]
    exact hFf _ _ (by simp) (by rintro ⟨w, -⟩; cases w)
  · have _x := 0
    by_cases q : t' = t
    · subst q
      rw [if_pos rfl]
      obtain ⟨⟨a1, a2, a3, a4, a5, a6, a7⟩, ao, c, d, av, g⟩ := (h.1 t' ht').1
      refine ⟨⟨?_, ?_, ?_, ?_, ?_, ?_, ?_⟩, ?_, c.cg' (hk 36 _ (by omega) (by omega) (by omega)) (fun d _ => hk 40 _ (by omega) (by omega) (by omega)), d.off (fun i hi => ?_) (fun i hi => ?_), ⟨?_, ?_⟩, hB.fr (fun a k h1 h2 => nF a k (zlt (by omega) (by omega)) (zlt (by omega) (by omega)) (fun w => zlt (x := a) (by omega) (κ := 32) (by omega) w.1) (fun w => zlt (x := a) (by omega) (κ := 31) (by omega) w.1) (fun w => zlt (x := a) (by omega) (κ := 30) (by omega) w.1))⟩
      · rw [e3, hk 38 _ (by omega) (by omega) (by omega)]; exact a1
      · rw [e3, hk 39 _ (by omega) (by omega) (by omega)]; exact a2
      · rw [e3, hk 34 _ (by omega) (by omega) (by omega)]; exact a3
      · rw [e3, e31 31 _ (by omega), if_pos (show 4 = 4 from rfl), if_pos (show t' = t' from rfl)]
      · rw [e31 31 _ (by omega), if_pos rfl]
        exact fun w => absurd w (by decide)
      · rw [e3, hk 35 _ (by omega) (by omega) (by omega)]; exact a6
      · rw [e3, hk 37 _ (by omega) (by omega) (by omega)]; exact a7
      · unfold zRo
        rw [e3, hk 33 _ (by omega) (by omega) (by omega)]; exact ao
      · rw [e41]
        by_cases q2 : f (41, 0, 0) (366 * t' + i) = nI 2
        · rw [if_pos ⟨by omega, by omega, q2⟩, if_pos q2]
        · rw [if_neg (fun w => q2 w.2.2), if_neg q2]
      · rw [e43, if_pos ⟨by omega, by omega⟩]
      · rw [e31 31 _ (by omega), if_pos rfl]; exact Or.inl rfl
      · rw [e31 31 _ (by omega), if_pos rfl]; exact fun w => absurd w (by decide)
    · rw [if_neg q]
      refine (h.1 t' ht').1.cg (fun a k h1 h2 => hc a k (by omega) (fun w => q (h1.symm.trans w.1)) (fun w => q (by rw [← h1, w.1]))) ⟨fun κ h1 h2 => ?_, fun i hi => ⟨?_, hk 42 _ (by omega) (by omega) (by omega), ?_⟩, fun d _ => hk 40 _ (by omega) (by omega) (by omega)⟩
      · by_cases q2 : κ = 31 ∨ κ = 32
        · rw [e31 κ _ q2, if_neg q]
        · exact hk κ _ (by omega) (by omega) (by omega)
      · rw [e41, if_neg (fun w => by omega)]
      · rw [e43, if_neg (fun w => by omega)]
  · rw [hk 38 _ (by omega) (by omega) (by omega), hk 39 _ (by omega) (by omega) (by omega)]
    exact h.2.2.2.1 t' ht'
theorem u_send {t n : Nat} {α1 : zAt} (h : zINV f f N l α M Z W Q) (ht : t < 5) (n1 : 1 ≤ n) (n6 : n ≤ 6) (hm : M t < 60) (hF : zFr t f F) (hB : zBR F t (l t ++ (List.range' 0 n).map (6 * (M t + 1) + ·)) α1 (nI (M t + 1))) (hA : zAd (α t) α1 (M t + 1) n (nI (M t + 1)) (List.range' 0 n)) : ∃ l' α' M' Z', zINV (zgv (zup (zup (zup F (30, 0, 0) 0 (nI 0)) (36, 0, 0) t (nI (M t + 1))) (40, 0, 0) (61 * t + (M t + 1)) (nI n)) (366 * t + 6 * (M t + 1)) n (nI 1)) (zgv (zup (zup (zup F (30, 0, 0) 0 (nI 0)) (36, 0, 0) t (nI (M t + 1))) (40, 0, 0) (61 * t + (M t + 1)) (nI n)) (366 * t + 6 * (M t + 1)) n (nI 1)) N l' α' M' Z' W Q := by
  have hFf : ∀ x j, ¬ (x.2.1 = t ∧ (x.1 = 4 ∨ x.1 = 5 ∨ x.1 = 6)) → F x j = f x j := fun x j h1 => hF x j h1
  have nF : ∀ x j, x ≠ (41, 0, 0) → x ≠ (36, 0, 0) → x ≠ (40, 0, 0) → ¬ (x = (30, 0, 0) ∧ j = 0) → zgv (zup (zup (zup F (30, 0, 0) 0 (nI 0)) (36, 0, 0) t (nI (M t + 1))) (40, 0, 0) (61 * t + (M t + 1)) (nI n)) (366 * t + 6 * (M t + 1)) n (nI 1) x j = F x j := fun x j h1 h2 h3 h4 => by
    rw [zgv_ne h1, zup_nk h3, zup_nk h2, zup_ne h4]
  have hk : ∀ κ j, 31 ≤ κ → κ ≠ 41 → κ ≠ 36 → κ ≠ 40 → zgv (zup (zup (zup F (30, 0, 0) 0 (nI 0)) (36, 0, 0) t (nI (M t + 1))) (40, 0, 0) (61 * t + (M t + 1)) (nI n)) (366 * t + 6 * (M t + 1)) n (nI 1) (κ, 0, 0) j = f (κ, 0, 0) j := fun κ j h1 h2 h3 h4 => by
    have ne : ∀ {k : Nat}, κ ≠ k → ((κ, 0, 0) : zA) ≠ (k, 0, 0) := fun hk w => hk (congrArg Prod.fst w)
    rw [nF _ _ (ne h2) (ne h3) (ne h4) (fun w => ne (k := 30) (by omega) w.1)]
    exact hFf _ _ (fun w => by have := w.2; simp at this; omega)
  have hc : ∀ x j, x.1 < 30 → ¬ (x.2.1 = t ∧ (x.1 = 4 ∨ x.1 = 5 ∨ x.1 = 6)) → zgv (zup (zup (zup F (30, 0, 0) 0 (nI 0)) (36, 0, 0) t (nI (M t + 1))) (40, 0, 0) (61 * t + (M t + 1)) (nI n)) (366 * t + 6 * (M t + 1)) n (nI 1) x j = f x j := fun x j h1 h2 => by
    rw [nF x j (zlt h1 (by omega)) (zlt h1 (by omega)) (zlt h1 (by omega)) (fun w => zlt h1 (κ := 30) (by omega) w.1)]
    exact hFf x j h2
  have e41 : ∀ j, zgv (zup (zup (zup F (30, 0, 0) 0 (nI 0)) (36, 0, 0) t (nI (M t + 1))) (40, 0, 0) (61 * t + (M t + 1)) (nI n)) (366 * t + 6 * (M t + 1)) n (nI 1) (41, 0, 0) j = if 366 * t + 6 * (M t + 1) ≤ j ∧ j < 366 * t + 6 * (M t + 1) + n then nI 1 else f (41, 0, 0) j := fun j => by
    unfold zgv
    by_cases q : 366 * t + 6 * (M t + 1) ≤ j ∧ j < 366 * t + 6 * (M t + 1) + n
    · rw [if_pos ⟨rfl, q⟩, if_pos q]
    · rw [if_neg (fun w => q w.2), if_neg q, zup_nk (by decide), zup_nk (by decide), zup_nk (by decide)]
      exact hFf _ _ (by simp)
  have e36 : ∀ j, zgv (zup (zup (zup F (30, 0, 0) 0 (nI 0)) (36, 0, 0) t (nI (M t + 1))) (40, 0, 0) (61 * t + (M t + 1)) (nI n)) (366 * t + 6 * (M t + 1)) n (nI 1) (36, 0, 0) j = if j = t then nI (M t + 1) else f (36, 0, 0) j := fun j => by
    rw [zgv_ne (by decide), zup_nk (by decide), zup_at]
    by_cases q : j = t
    · rw [if_pos q, if_pos ⟨rfl, q⟩]
    · rw [if_neg q, if_neg (fun w => q w.2), zup_nk (by decide)]
      exact hFf _ _ (by simp)
  have e40 : ∀ j, zgv (zup (zup (zup F (30, 0, 0) 0 (nI 0)) (36, 0, 0) t (nI (M t + 1))) (40, 0, 0) (61 * t + (M t + 1)) (nI n)) (366 * t + 6 * (M t + 1)) n (nI 1) (40, 0, 0) j = if j = 61 * t + (M t + 1) then nI n else f (40, 0, 0) j := fun j => by
    rw [zgv_ne (by decide), zup_at]
    by_cases q : j = 61 * t + (M t + 1)
    · rw [if_pos q, if_pos ⟨rfl, q⟩]
    · rw [if_neg q, if_neg (fun w => q w.2), zup_nk (by decide), zup_nk (by decide)]
      exact hFf _ _ (by simp)
  have hvn : ∀ i, zval (M t) (Z t) i → zval (M t + 1) (zfu (Z t) (M t + 1) n) i := fun i v => by
    refine ⟨v.1, by have := v.2.1; omega, ?_⟩
    unfold zfu
    rw [if_neg (by have := v.2.1; omega)]
    exact v.2.2
  refine ⟨fun x => if x = t then l t ++ (List.range' 0 n).map (6 * (M t + 1) + ·) else l x, fun x => if x = t then α1 else α x, fun x => if x = t then M t + 1 else M x, fun x => if x = t then zfu (Z t) (M t + 1) n else Z x, h.cg3 (fun x j h1 h2 => hc x j h1 (fun w => h2 (by omega))) ⟨fun κ j hκ => hk κ j (by omega) (by omega) (by omega) (by omega), fun j hj => ?_⟩ (fun t' ht' => ?_) (fun t' ht' => ?_) (fun p k hp hk' => ?_) (fun t' ht' => ?_) h.2.2.2.2.1⟩
  · rw [nF _ _ (by decide) (by decide) (by decide) (fun w => hj w.2)]
    exact hFf _ _ (by simp)
  · have _x := 0
    by_cases q : t' = t
    · subst q
      rw [if_pos rfl, if_pos rfl, if_pos rfl, if_pos rfl]
      obtain ⟨⟨a1, a2, a3, a4, a5, a6, a7⟩, ao, c, d, av, g⟩ := (h.1 t' ht').1
      have e3 : ∀ j, zgv (zup (zup (zup F (30, 0, 0) 0 (nI 0)) (36, 0, 0) t' (nI (M t' + 1))) (40, 0, 0) (61 * t' + (M t' + 1)) (nI n)) (366 * t' + 6 * (M t' + 1)) n (nI 1) (3, t', 0) j = f (3, t', 0) j := fun j => hc _ _ (by simp) (by simp)
      refine ⟨⟨?_, ?_, ?_, ?_, ?_, ?_, ?_⟩, ?_, ⟨by rw [e36, if_pos rfl], by omega, fun d d1 d2 => ?_⟩, d.send n1 n6 hm hA (fun i hi => ?_) (fun i hi => hk 42 _ (by omega) (by omega) (by omega) (by omega)) (fun i hi => hk 43 _ (by omega) (by omega) (by omega) (by omega)), ⟨?_, ?_⟩, hB.fr (fun a k h1 h2 => nF a k (zlt (by omega) (by omega)) (zlt (by omega) (by omega)) (zlt (by omega) (by omega)) (fun w => zlt (x := a) (by omega) (κ := 30) (by omega) w.1))⟩
      · rw [e3, hk 38 _ (by omega) (by omega) (by omega) (by omega)]; exact a1
      · rw [e3, hk 39 _ (by omega) (by omega) (by omega) (by omega)]; exact a2
      · rw [e3, hk 34 _ (by omega) (by omega) (by omega) (by omega)]; exact a3
      · rw [e3, hk 31 _ (by omega) (by omega) (by omega) (by omega)]; exact a4
      · rw [e3, hk 31 _ (by omega) (by omega) (by omega) (by omega), hk 32 _ (by omega) (by omega) (by omega) (by omega)]; exact a5
      · rw [e3, hk 35 _ (by omega) (by omega) (by omega) (by omega)]; exact a6
      · rw [e3, hk 37 _ (by omega) (by omega) (by omega) (by omega)]; exact a7
      · unfold zRo
        rw [e3, hk 33 _ (by omega) (by omega) (by omega) (by omega)]; exact ao
      · rw [e40]
        unfold zfu
        by_cases qd : d = M t' + 1
        · rw [if_pos (by omega), if_pos qd]
          exact ⟨rfl, n1, n6⟩
        · rw [if_neg (by omega), if_neg qd]
          exact c.2.2 d d1 (by omega)
      · rw [e41]
        by_cases qi : 6 * (M t' + 1) ≤ i ∧ i < 6 * (M t' + 1) + n
        · rw [if_pos qi, if_pos (by omega)]
        · rw [if_neg qi, if_neg (by omega)]
      · rw [hk 31 _ (by omega) (by omega) (by omega) (by omega)]; exact av.1
      · rw [hk 31 _ (by omega) (by omega) (by omega) (by omega), hk 32 _ (by omega) (by omega) (by omega) (by omega)]; exact av.2
    · rw [if_neg q, if_neg q, if_neg q, if_neg q]
      refine (h.1 t' ht').1.cg (fun a k h1 h2 => hc a k (by omega) (fun w => q (h1.symm.trans w.1))) ⟨fun κ h1 h2 => ?_, fun i hi => ⟨?_, hk 42 _ (by omega) (by omega) (by omega) (by omega), hk 43 _ (by omega) (by omega) (by omega) (by omega)⟩, fun d hd => ?_⟩
      · by_cases q2 : κ = 36
        · subst q2
          rw [e36, if_neg q]
        · exact hk κ _ (by omega) (by omega) q2 (by omega)
      · rw [e41, if_neg (fun w => by omega)]
      · rw [e40, if_neg (by omega)]
  · have h51 := (h.1 t' ht').2.1.2.1
    intro d hd
    rw [hk 51 _ (by omega) (by omega) (by omega) (by omega)]
    rcases h51 d hd with w | ⟨w1, w2, w3⟩
    · exact Or.inl w
    · refine Or.inr ⟨w1, ?_, ?_⟩
      · split
        · rename_i q; subst q; omega
        · exact w2
      · rw [w3]
        split
        · rename_i q
          subst q
          unfold zfu
          rw [if_neg (by omega)]
        · rfl
  · rw [hk 57 _ (by omega) (by omega) (by omega) (by omega), hk 56 _ (by omega) (by omega) (by omega) (by omega)]
    rcases h.2.2.1 p k hp hk' with w | w | ⟨t2, i, w1, w2, w3, w4, w5⟩
    · exact Or.inl w
    · exact Or.inr (Or.inl w)
    · refine Or.inr (Or.inr ⟨t2, i, w1, w2, w3, w4, ?_⟩)
      split
      · rename_i q; subst q; exact hvn i w5
      · exact w5
  · rw [hk 38 _ (by omega) (by omega) (by omega) (by omega), hk 39 _ (by omega) (by omega) (by omega) (by omega)]
    exact h.2.2.2.1 t' ht'
end OP2
