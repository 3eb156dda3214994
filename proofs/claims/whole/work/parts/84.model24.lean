/-! The reference: asking it -/
/-- a range of marks is set -/
def zgv (f : zM) (b n : Nat) (v : Int32) : zM := fun x j => if x = (41, 0, 0) ∧ b ≤ j ∧ j < b + n then v else f x j
theorem zgv_ne {f : zM} {b n j : Nat} {v : Int32} {x : zA} (h : x ≠ (41, 0, 0)) : zgv f b n v x j = f x j := if_neg (fun w => h w.1)
theorem zgv_0 {f : zM} {b : Nat} {v : Int32} : zgv f b 0 v = f := by
  funext x j
  exact if_neg (fun w => by omega)
theorem zgv_up {f : zM} {b n : Nat} {v : Int32} : zup (zgv f b n v) (41, 0, 0) (b + n) v = zgv f b (n + 1) v := by
  funext x j
  rw [zup_at]
  unfold zgv
  by_cases q : x = (41, 0, 0) ∧ j = b + n
  · obtain ⟨rfl, rfl⟩ := q
    rw [if_pos ⟨rfl, rfl⟩, if_pos ⟨rfl, by omega, by omega⟩]
  · rw [if_neg q]
    by_cases q2 : x = (41, 0, 0) ∧ b ≤ j ∧ j < b + n
    · rw [if_pos q2, if_pos ⟨q2.1, q2.2.1, by omega⟩]
    · rw [if_neg q2, if_neg (fun w => q2 ⟨w.1, w.2.1, by
        have : j ≠ b + n := fun e => q ⟨w.1, e⟩
        omega⟩)]
/-- switched off: what was under way is fresh, no times -/
def zpo (f : zM) (b n : Nat) : zM := fun x j => if x = (41, 0, 0) ∧ b ≤ j ∧ j < b + n ∧ f x j = nI 2 then nI 1 else if x = (43, 0, 0) ∧ b ≤ j ∧ j < b + n then nI 0 else f x j
theorem zpo_0 {f : zM} {b : Nat} : zpo f b 0 = f := by
  funext x j
  unfold zpo
  rw [if_neg (fun w => by omega), if_neg (fun w => by omega)]
theorem zpo_at {f : zM} {b n : Nat} : zpo f b n (41, 0, 0) (b + n) = f (41, 0, 0) (b + n) := by
  unfold zpo
  rw [if_neg (fun w => by omega), if_neg (fun w => by omega)]
theorem zpo_st {f : zM} {b n : Nat} : zup (zup (zpo f b n) (41, 0, 0) (b + n) (if f (41, 0, 0) (b + n) = nI 2 then nI 1 else f (41, 0, 0) (b + n))) (43, 0, 0) (b + n) (nI 0) = zpo f b (n + 1) := by
  funext x j
  rw [zup_at, zup_at]
  by_cases q : x = (43, 0, 0) ∧ j = b + n
  · obtain ⟨rfl, rfl⟩ := q
    rw [if_pos ⟨rfl, rfl⟩]
    unfold zpo
    rw [if_neg (fun w => absurd w.1 (by decide)), if_pos ⟨rfl, by omega, by omega⟩]
  · rw [if_neg q]
    by_cases q2 : x = (41, 0, 0) ∧ j = b + n
    · obtain ⟨rfl, rfl⟩ := q2
      rw [if_pos ⟨rfl, rfl⟩]
      unfold zpo
      by_cases q3 : f (41, 0, 0) (b + n) = nI 2
      · rw [if_pos q3, if_pos ⟨rfl, by omega, by omega, q3⟩]
      · rw [if_neg q3, if_neg (fun w => q3 w.2.2.2), if_neg (fun w => absurd w.1 (by decide))]
    · rw [if_neg q2]
      unfold zpo
      have e1 : (x = (41, 0, 0) ∧ b ≤ j ∧ j < b + n ∧ f x j = nI 2) ↔ (x = (41, 0, 0) ∧ b ≤ j ∧ j < b + (n + 1) ∧ f x j = nI 2) := by
        constructor
        · rintro ⟨a1, a2, a3, a4⟩; exact ⟨a1, a2, by omega, a4⟩
        · rintro ⟨a1, a2, a3, a4⟩
          have : j ≠ b + n := fun e => q2 ⟨a1, e⟩
          exact ⟨a1, a2, by omega, a4⟩
      have e2 : (x = (43, 0, 0) ∧ b ≤ j ∧ j < b + n) ↔ (x = (43, 0, 0) ∧ b ≤ j ∧ j < b + (n + 1)) := by
        constructor
        · rintro ⟨a1, a2, a3⟩; exact ⟨a1, a2, by omega⟩
        · rintro ⟨a1, a2, a3⟩
          have : j ≠ b + n := fun e => q ⟨a1, e⟩
          exact ⟨a1, a2, by omega⟩
      simp only [e1, e2]
section MO24
variable {sc : zC} {c s : Nat} {f : zM} {g : zW} {K : zR → Prop} {x y w : Int32}
theorem q_power_loop {F : zM} {t : Nat} (ht : t < 5) (r : Nat) : ∀ {i : Nat} {cl : Bool}, i + r = 366 → K (.inl (some (.inl (nI 1))), zN c s (zpo F (366 * t) 366) g) → zT sc 56 72 cl [zmo, some (.inl (nI t)), some (.inl (nI 0)), some (.inl (nI (366 * t + i)))] [] (zN c s (zpo F (366 * t) i) g) K := by
  induction r with
  | zero =>
    intro i cl hi hK
    have e : i = 366 := by omega
    subst e
    refine zb ?_
    refine q_atI ?_
    refine zip (show nI 6 * (nI 61 * (nI t + nI 1) + nI 0) + nI 0 ≤ nI (366 * t + 366) by rw [zat_1]; exact nI_le (Nat.le_refl _) (by omega)) ?_
    refine zb ?_
    exact hK
  | succ r ih =>
    intro i cl hi hK
    have h := ih (i := i + 1) (cl := false) (by omega) hK
    rw [← zpo_st, ← Nat.add_assoc, ← nI_add (366 * t + i) 1] at h
    refine zb ?_
    refine q_atI ?_
    refine zin (show ¬ nI 6 * (nI 61 * (nI t + nI 1) + nI 0) + nI 0 ≤ nI (366 * t + i) by rw [zat_1]; exact nI_ge (by omega) (by omega)) ?_
    refine zin (nI_in (N := 1830) (by omega) (by decide)) ?_
    rw [nI_clamp (show 366 * t + i < 2 ^ 31 by omega)]
    refine zif (fun q => ?_) (fun q => ?_)
    · have q : zpo F (366 * t) i (41, 0, 0) (366 * t + i) = nI 2 := q
      rw [zpo_at] at q
      rw [if_pos q] at h
      refine zb ?_
      refine zin (nI_in (N := 1830) (by omega) (by decide)) ?_
      refine zin (nI_in (N := 1830) (by omega) (by decide)) ?_
      rw [nI_clamp (show 366 * t + i < 2 ^ 31 by omega)]
      exact h
    · have q : ¬ zpo F (366 * t) i (41, 0, 0) (366 * t + i) = nI 2 := q
      rw [zpo_at] at q
      rw [if_neg q, ← zpo_at (f := F) (b := 366 * t) (n := i)] at h
      refine zb ?_
      refine zin (nI_in (N := 1830) (by omega) (by decide)) ?_
      refine zb ?_
      refine zin (nI_in (N := 1830) (by omega) (by decide)) ?_
      refine zin (nI_in (N := 1830) (by omega) (by decide)) ?_
      rw [nI_clamp (show 366 * t + i < 2 ^ 31 by omega)]
      exact h
theorem q_power (hy : y = nI 0 ∨ y = nI 1) (k0 : ¬ zter x → K (.inl (some (.inl (nI 0))), zN c s (zup f (30, 0, 0) 0 (nI 1)) g))
    (kn : ∀ t, t < 5 → x = nI t → y = (if f (31, 0, 0) t = 0 then nI 0 else nI 1) → K (.inl (some (.inl (nI 0))), zN c s (zup f (30, 0, 0) 0 (nI 0)) g))
    (ka : ∀ t, t < 5 → x = nI t → f (31, 0, 0) t = 0 → y = nI 1 → K (.inl (some (.inl (nI 1))), zN c s (zup (zup (zup f (30, 0, 0) 0 (nI 0)) (31, 0, 0) t (nI 1)) (32, 0, 0) t (nI 0)) g))
    (kb : ∀ t, t < 5 → x = nI t → ¬ f (31, 0, 0) t = 0 → y = nI 0 → K (.inl (some (.inl (nI 1))), zN c s (zpo (zup (zup (zup f (30, 0, 0) 0 (nI 0)) (31, 0, 0) t (nI 0)) (32, 0, 0) t (nI 0)) (366 * t) 366) g)) : zT sc 56 0 true [zmo, some (.inl x), some (.inl y)] [] (zN c s f g) K := by
  refine zb ?_
  refine q_isTerminal (fun a => ?_) (fun a => ?_)
  · obtain ⟨t, ht, rfl⟩ := zter_n a
    have e31 : zup f (30, 0, 0) 0 (nI 0) (31, 0, 0) t = f (31, 0, 0) t := zup_nk (by decide)
    have h38 : ∀ b cl, b = (if f (31, 0, 0) t = 0 then nI 0 else nI 1) → zT sc 56 38 cl [zmo, some (.inl (nI t)), some (.inl y)] [.inl b, .inl y] (zN c s (zup f (30, 0, 0) 0 (nI 0)) g) K := fun b cl hb => by
      refine zb ?_
      refine zif (fun q => ?_) (fun q => ?_)
      · have q : y = b := q
        refine zb ?_
        exact kn t ht rfl (q.trans hb)
      · have q : ¬ y = b := q
        by_cases hs : f (31, 0, 0) t = 0
        · rw [if_pos hs] at hb
          rcases hy with rfl | rfl
          · exact absurd hb.symm q
          · refine zb ?_
            refine zb ?_
            refine zin (nI_in (N := 5) ht (by decide)) ?_
            refine zin (nI_in (N := 5) ht (by decide)) ?_
            rw [nI_clamp (show t < 2 ^ 31 by omega)]
            refine q_atI ?_
            refine zb ?_
            refine q_atI ?_
            refine zin (show ¬ nI 6 * (nI 61 * (nI t + nI 1) + nI 0) + nI 0 ≤ nI 6 * (nI 61 * nI t + nI 0) + nI 0 by rw [zat_1, zat_e]; exact nI_ge (by omega) (by omega)) ?_
            refine zb ?_
            exact ka t ht rfl hs rfl
        · rw [if_neg hs] at hb
          rcases hy with rfl | rfl
          · refine zb ?_
            refine zb ?_
            refine zb ?_
            refine zin (nI_in (N := 5) ht (by decide)) ?_
            refine zin (nI_in (N := 5) ht (by decide)) ?_
            rw [nI_clamp (show t < 2 ^ 31 by omega)]
            refine q_atI ?_
            have h := q_power_loop (sc := sc) (K := K) (c := c) (s := s) (g := g) (F := zup (zup (zup f (30, 0, 0) 0 (nI 0)) (31, 0, 0) t (nI 0)) (32, 0, 0) t (nI 0)) (cl := false) ht 366 (i := 0) rfl (kb t ht rfl hs rfl)
            rw [zpo_0, show nI (366 * t + 0) = nI 6 * (nI 61 * nI t + nI 0) + nI 0 by rw [zat_e]] at h
            exact h
          · exact absurd hb.symm q
    refine zb ?_
    refine zin (nI_in (N := 5) ht (by decide)) ?_
    rw [nI_clamp (show t < 2 ^ 31 by omega)]
    refine zif (fun q => ?_) (fun q => ?_)
    · have q : zup f (30, 0, 0) 0 (nI 0) (31, 0, 0) t = 0 := q
      rw [e31] at q
      refine zb ?_
      exact h38 _ _ (by rw [if_pos q]; rfl)
    · have q : ¬ zup f (30, 0, 0) 0 (nI 0) (31, 0, 0) t = 0 := q
      rw [e31] at q
      exact h38 _ _ (by rw [if_neg q]; rfl)
  · refine zb ?_
    refine zb ?_
    refine zb ?_
    exact k0 a
theorem q_lose (k1 : ∀ sl ca, sl < 10 → ca < 3 → x = nI sl → y = nI ca → K (.inl none, zN c s (zup (zup f (30, 0, 0) 0 (nI 0)) (58, 0, 0) (3 * sl + ca) (nI 1)) g)) (k0 : ¬ zslo x y → K (.inl none, zN c s (zup f (30, 0, 0) 0 (nI 1)) g)) : zT sc 59 0 true [zmo, some (.inl x), some (.inl y)] [] (zN c s f g) K := by
  refine zb ?_
  refine q_isSlot (fun a => ?_) (fun a => ?_)
  · obtain ⟨sl, ca, h1, h2, rfl, rfl⟩ := zslo_n a
    have e : nI 3 * nI sl + nI ca = nI (3 * sl + ca) := by rw [nI_mul, nI_add]
    refine zb ?_
    refine zin (show ¬ (nI 3 * nI sl + nI ca < 0 ∨ 30 ≤ (nI 3 * nI sl + nI ca).toNatClampNeg) by rw [e]; exact nI_in (N := 30) (by omega) (by decide)) ?_
    have h := k1 sl ca h1 h2 rfl rfl
    rw [show 3 * sl + ca = (nI 3 * nI sl + nI ca).toNatClampNeg by rw [e, nI_clamp (by omega)]] at h
    refine zb ?_
    exact h
  · refine zb ?_
    refine zb ?_
    refine zb ?_
    exact k0 a
theorem q_heard {N : Nat} (hN : N ≤ 500) (hn : f (30, 0, 0) 1 = nI N) (k1 : ∀ sl ca, sl < 10 → ca < 3 → x = nI sl → y = nI ca → K (.inl (some (.inl (f (56, 0, 0) (30 * ((N + 1) % 2) + 3 * sl + ca)))), zN c s (zup f (30, 0, 0) 0 (nI 0)) g)) (k0 : ¬ zslo x y → K (.inl (some (.inl (nI 0))), zN c s (zup f (30, 0, 0) 0 (nI 1)) g)) : zT sc 65 0 true [zmo, some (.inl x), some (.inl y)] [] (zN c s f g) K := by
  refine zb ?_
  refine q_isSlot (fun a => ?_) (fun a => ?_)
  · obtain ⟨sl, ca, h1, h2, rfl, rfl⟩ := zslo_n a
    have e : nI 30 * ((f (30, 0, 0) 1 + nI 1) - (f (30, 0, 0) 1 + nI 1) / nI 2 * nI 2) + nI 3 * nI sl + nI ca = nI (30 * ((N + 1) % 2) + 3 * sl + ca) := by
      rw [hn, nI_add, nI_rem (by omega) (by decide), nI_mul, nI_mul, nI_add, nI_add]
    have hm : (N + 1) % 2 < 2 := Nat.mod_lt _ (by decide)
    have h := k1 sl ca h1 h2 rfl rfl
    rw [show 30 * ((N + 1) % 2) + 3 * sl + ca = (nI 30 * ((f (30, 0, 0) 1 + nI 1) - (f (30, 0, 0) 1 + nI 1) / nI 2 * nI 2) + nI 3 * nI sl + nI ca).toNatClampNeg by rw [e, nI_clamp (by omega)]] at h
    refine zb ?_
    refine zb ?_
    refine zin (show ¬ (nI 30 * ((f (30, 0, 0) 1 + nI 1) - (f (30, 0, 0) 1 + nI 1) / nI 2 * nI 2) + nI 3 * nI sl + nI ca < 0 ∨ 60 ≤ (nI 30 * ((f (30, 0, 0) 1 + nI 1) - (f (30, 0, 0) 1 + nI 1) / nI 2 * nI 2) + nI 3 * nI sl + nI ca).toNatClampNeg) by rw [e]; exact nI_in (N := 60) (by omega) (by decide)) ?_
    refine zb ?_
    rw [← zup_nk (f := f) (a := (30, 0, 0)) (k := 0) (v := nI 0) (x := (56, 0, 0)) (by decide)] at h
    exact h
  · refine zb ?_
    refine zb ?_
    refine zb ?_
    exact k0 a
theorem zah_iff {w : Int32} : (0 ≤ w ∧ w ≤ 1) ↔ (w = 0 ∨ w = nI 1) := by
  constructor
  · intro h
    obtain ⟨a, ha, rfl⟩ := zah_n h
    have : a = 0 ∨ a = 1 := by omega
    rcases this with rfl | rfl
    · exact Or.inl nI_0
    · exact Or.inr rfl
  · rintro (rfl | rfl) <;> decide
theorem q_plan {N : Nat} (hN : N ≤ 500) (hn : f (30, 0, 0) 1 = nI N) (k1 : ∀ sl ca a, sl < 10 → ca < 3 → a < 2 → x = nI sl → y = nI ca → w = nI a → K (.inl (some (.inl (f (55, 0, 0) (30 * ((N + a) % 2) + 3 * sl + ca)))), zN c s (zup f (30, 0, 0) 0 (nI 0)) g)) (k0 : ¬ (zslo x y ∧ (0 ≤ w ∧ w ≤ 1)) → K (.inl (some (.inl (nI 0))), zN c s (zup f (30, 0, 0) 0 (nI 1)) g)) : zT sc 63 0 true [zmo, some (.inl x), some (.inl y), some (.inl w)] [] (zN c s f g) K := by
  have hno : ¬ (zslo x y ∧ (0 ≤ w ∧ w ≤ 1)) → zT sc 63 22 true [zmo, some (.inl x), some (.inl y), some (.inl w)] [.inr (.inl (30, 0, 0))] (zN c s f g) K := fun h => by
    refine zb ?_
    refine zb ?_
    refine zb ?_
    exact k0 h
  have hyes : zslo x y → (0 ≤ w ∧ w ≤ 1) → zT sc 63 18 true [zmo, some (.inl x), some (.inl y), some (.inl w)] [.inr (.inl (30, 0, 0))] (zN c s f g) K := fun a b => by
    obtain ⟨sl, ca, h1, h2, rfl, rfl⟩ := zslo_n a
    obtain ⟨ah, h3, rfl⟩ := zah_n b
    have e : nI 30 * ((f (30, 0, 0) 1 + nI ah) - (f (30, 0, 0) 1 + nI ah) / nI 2 * nI 2) + nI 3 * nI sl + nI ca = nI (30 * ((N + ah) % 2) + 3 * sl + ca) := by
      rw [hn, nI_add, nI_rem (by omega) (by decide), nI_mul, nI_mul, nI_add, nI_add]
    have hm : (N + ah) % 2 < 2 := Nat.mod_lt _ (by decide)
    have h := k1 sl ca ah h1 h2 h3 rfl rfl rfl
    rw [show 30 * ((N + ah) % 2) + 3 * sl + ca = (nI 30 * ((f (30, 0, 0) 1 + nI ah) - (f (30, 0, 0) 1 + nI ah) / nI 2 * nI 2) + nI 3 * nI sl + nI ca).toNatClampNeg by rw [e, nI_clamp (by omega)]] at h
    refine zb ?_
    refine zb ?_
    refine zb ?_
    refine zin (show ¬ (nI 30 * ((f (30, 0, 0) 1 + nI ah) - (f (30, 0, 0) 1 + nI ah) / nI 2 * nI 2) + nI 3 * nI sl + nI ca < 0 ∨ 60 ≤ (nI 30 * ((f (30, 0, 0) 1 + nI ah) - (f (30, 0, 0) 1 + nI ah) / nI 2 * nI 2) + nI 3 * nI sl + nI ca).toNatClampNeg) by rw [e]; exact nI_in (N := 60) (by omega) (by decide)) ?_
    refine zb ?_
    rw [← zup_nk (f := f) (a := (30, 0, 0)) (k := 0) (v := nI 0) (x := (55, 0, 0)) (by decide)] at h
    exact h
  refine zb ?_
  refine q_isSlot (fun a => ?_) (fun a => hno (fun h => a h.1))
  refine zif (fun q => ?_) (fun q => ?_)
  · exact hyes a (zah_iff.mpr (Or.inl q))
  · refine zif (fun q2 => ?_) (fun q2 => ?_)
    · exact hyes a (zah_iff.mpr (Or.inr q2))
    · exact hno (fun h => (zah_iff.mp h.2).elim q q2)
theorem q_places_loop {t N a : Nat} (hN : N ≤ 500) (ha : a < 2) (hn : f (30, 0, 0) 1 = nI N) (h0 : f (30, 0, 0) 0 = nI 0) (r : Nat) : ∀ {i : Nat}, i + r = 29 → K (.inl (some (.inl (nI (zmc (f (55, 0, 0)) (nI t) (30 * ((N + a) % 2) + 1) 29)))), zN c s f g) → zT sc 64 30 false [zmo, some (.inl (nI t)), some (.inl (nI a)), some (.inl (nI (zmc (f (55, 0, 0)) (nI t) (30 * ((N + a) % 2) + 1) i))), some (.inl (nI (i + 1)))] [] (zN c s f g) K := by
  have hm : (N + a) % 2 < 2 := Nat.mod_lt _ (by decide)
  induction r with
  | zero =>
    intro i hi hK
    have e : i = 29 := by omega
    subst e
    refine zb ?_
    refine zb ?_
    exact hK
  | succ r ih =>
    intro i hi hK
    have h := ih (i := i + 1) (by omega) hK
    have e : zmc (f (55, 0, 0)) (nI t) (30 * ((N + a) % 2) + 1) (i + 1) = zmc (f (55, 0, 0)) (nI t) (30 * ((N + a) % 2) + 1) i + (if f (55, 0, 0) (30 * ((N + a) % 2) + 1 + i) = nI t then 1 else 0) := rfl
    have e2 : nI 30 * ((f (30, 0, 0) 1 + nI a) - (f (30, 0, 0) 1 + nI a) / nI 2 * nI 2) + nI (i + 1) = nI (30 * ((N + a) % 2) + 1 + i) := by
      rw [hn, nI_add, nI_rem (by omega) (by decide), nI_mul, nI_add]
      congr 1; omega
    have ec : (nI 30 * ((f (30, 0, 0) 1 + nI a) - (f (30, 0, 0) 1 + nI a) / nI 2 * nI 2) + nI (i + 1)).toNatClampNeg = 30 * ((N + a) % 2) + 1 + i := by rw [e2, nI_clamp (by omega)]
    rw [e, ← nI_add (i + 1) 1] at h
    refine zb ?_
    refine zin (nI_ge (a := i + 1) (b := 30) (by omega) (by decide)) ?_
    refine zip (show f (30, 0, 0) 0 = 0 from h0.trans nI_0) ?_
    refine zin (show ¬ (nI 30 * ((f (30, 0, 0) 1 + nI a) - (f (30, 0, 0) 1 + nI a) / nI 2 * nI 2) + nI (i + 1) < 0 ∨ 60 ≤ (nI 30 * ((f (30, 0, 0) 1 + nI a) - (f (30, 0, 0) 1 + nI a) / nI 2 * nI 2) + nI (i + 1)).toNatClampNeg) by rw [e2]; exact nI_in (N := 60) (by omega) (by decide)) ?_
    refine zif (fun q => ?_) (fun q => ?_)
    · have q : f (55, 0, 0) (nI 30 * ((f (30, 0, 0) 1 + nI a) - (f (30, 0, 0) 1 + nI a) / nI 2 * nI 2) + nI (i + 1)).toNatClampNeg = nI t := q
      rw [ec] at q
      rw [if_pos q, ← nI_add _ 1] at h
      refine zb ?_
      exact h
    · have q : ¬ f (55, 0, 0) (nI 30 * ((f (30, 0, 0) 1 + nI a) - (f (30, 0, 0) 1 + nI a) / nI 2 * nI 2) + nI (i + 1)).toNatClampNeg = nI t := q
      rw [ec] at q
      rw [if_neg q, Nat.add_zero] at h
      refine zb ?_
      refine zb ?_
      exact h
theorem q_places {N : Nat} (hN : N ≤ 500) (hn : f (30, 0, 0) 1 = nI N) (k1 : ∀ t a, t < 5 → a < 2 → x = nI t → y = nI a → K (.inl (some (.inl (nI (zmc (f (55, 0, 0)) (nI t) (30 * ((N + a) % 2) + 1) 29)))), zN c s (zup f (30, 0, 0) 0 (nI 0)) g)) (k0 : ¬ (zter x ∧ (0 ≤ y ∧ y ≤ 1)) → K (.inl (some (.inl (nI 0))), zN c s (zup f (30, 0, 0) 0 (nI 1)) g)) : zT sc 64 0 true [zmo, some (.inl x), some (.inl y)] [] (zN c s f g) K := by
  have hno : ¬ (zter x ∧ (0 ≤ y ∧ y ≤ 1)) → zT sc 64 21 true [zmo, some (.inl x), some (.inl y)] [.inr (.inl (30, 0, 0))] (zN c s f g) K := fun h => by
    refine zb ?_
    refine zb ?_
    refine zb ?_
    refine zb ?_
    exact k0 h
  have hyes : zter x → (0 ≤ y ∧ y ≤ 1) → zT sc 64 17 true [zmo, some (.inl x), some (.inl y)] [.inr (.inl (30, 0, 0))] (zN c s f g) K := fun h1 h2 => by
    obtain ⟨t, ht, rfl⟩ := zter_n h1
    obtain ⟨a, ha, rfl⟩ := zah_n h2
    have h := k1 t a ht ha rfl rfl
    have e : zup f (30, 0, 0) 0 (nI 0) (55, 0, 0) = f (55, 0, 0) := funext fun j => zup_nk (by decide)
    rw [← e] at h
    refine zb ?_
    refine zb ?_
    exact q_places_loop (f := zup f (30, 0, 0) 0 (nI 0)) hN ha hn rfl 29 (i := 0) rfl h
  refine zb ?_
  refine q_isTerminal (fun a => ?_) (fun a => hno (fun h => a h.1))
  refine zif (fun q => ?_) (fun q => ?_)
  · exact hyes a (zah_iff.mpr (Or.inl q))
  · refine zif (fun q2 => ?_) (fun q2 => ?_)
    · exact hyes a (zah_iff.mpr (Or.inr q2))
    · exact hno (fun h => (zah_iff.mp h.2).elim q q2)
def zcenM (f : zM) (t w : Nat) : Int32 := match w with
  | 0 => if f (44, 0, 0) t = 0 then nI 0 else nI 1
  | 1 => f (45, 0, 0) t
  | 2 => f (47, 0, 0) t
  | 3 => f (48, 0, 0) t
  | _ => f (49, 0, 0) t
theorem zwn_iff {y : Int32} {n : Nat} (hn : n < 2 ^ 31) : (¬ (y.toInt < 0 ∨ (n : Int) < y.toInt)) ↔ (¬ y < 0 ∧ ¬ nI n < y) := by
  rw [Int32.lt_iff_toInt_lt, Int32.lt_iff_toInt_lt, nI_toInt hn]
  have e0 : (0 : Int32).toInt = 0 := rfl
  rw [e0]
  omega
theorem q_centre (k1 : ∀ t w, t < 5 → w ≤ 4 → x = nI t → y = nI w → K (.inl (some (.inl (zcenM f t w))), zN c s (zup f (30, 0, 0) 0 (nI 0)) g)) (k0 : ¬ (zter x ∧ ¬ (y.toInt < 0 ∨ 4 < y.toInt)) → K (.inl (some (.inl (nI 0))), zN c s (zup f (30, 0, 0) 0 (nI 1)) g)) : zT sc 62 0 true [zmo, some (.inl x), some (.inl y)] [] (zN c s f g) K := by
  have hno : ¬ (zter x ∧ ¬ (y.toInt < 0 ∨ 4 < y.toInt)) → zT sc 62 21 true [zmo, some (.inl x), some (.inl y)] [.inr (.inl (30, 0, 0))] (zN c s f g) K := fun h => by
    refine zb ?_
    refine zb ?_
    exact k0 h
  refine zb ?_
  refine q_isTerminal (fun a => ?_) (fun a => hno (fun h => a h.1))
  refine zif (fun q => hno (fun h => ((zwn_iff (n := 4) (by decide)).mp h.2).1 q)) (fun q => ?_)
  refine zif (fun q2 => hno (fun h => ((zwn_iff (n := 4) (by decide)).mp h.2).2 q2)) (fun q2 => ?_)
  obtain ⟨t, ht, rfl⟩ := zter_n a
  obtain ⟨w, hw, rfl⟩ := zsm (n := 4) ((zwn_iff (n := 4) (by decide)).mpr ⟨q, q2⟩) (by decide)
  have key := k1 t w ht hw rfl rfl
  have ne : ∀ {x : zA} {j : Nat}, x ≠ (30, 0, 0) → zup f (30, 0, 0) 0 (nI 0) x j = f x j := fun h => zup_nk h
  refine zb ?_
  match w, hw, key with
  | 0, _, key =>
    refine zb ?_
    refine zin (nI_in (N := 5) ht (by decide)) ?_
    rw [nI_clamp (show t < 2 ^ 31 by omega)]
    refine zif (fun q => ?_) (fun q => ?_)
    · have q : zup f (30, 0, 0) 0 (nI 0) (44, 0, 0) t = 0 := q
      rw [ne (by decide)] at q
      unfold zcenM at key
      rw [if_pos q] at key
      refine zb ?_
      refine zb ?_
      exact key
    · have q : ¬ zup f (30, 0, 0) 0 (nI 0) (44, 0, 0) t = 0 := q
      rw [ne (by decide)] at q
      unfold zcenM at key
      rw [if_neg q] at key
      refine zb ?_
      exact key
  | 1, _, key =>
    rw [show zcenM f t 1 = zup f (30, 0, 0) 0 (nI 0) (45, 0, 0) t from (ne (by decide)).symm] at key
    refine zb ?_
    refine zb ?_
    refine zin (nI_in (N := 5) ht (by decide)) ?_
    rw [nI_clamp (show t < 2 ^ 31 by omega)]
    refine zb ?_
    exact key
  | 2, _, key =>
    rw [show zcenM f t 2 = zup f (30, 0, 0) 0 (nI 0) (47, 0, 0) t from (ne (by decide)).symm] at key
    refine zb ?_
    refine zb ?_
    refine zb ?_
    refine zin (nI_in (N := 5) ht (by decide)) ?_
    rw [nI_clamp (show t < 2 ^ 31 by omega)]
    refine zb ?_
    exact key
  | 3, _, key =>
    rw [show zcenM f t 3 = zup f (30, 0, 0) 0 (nI 0) (48, 0, 0) t from (ne (by decide)).symm] at key
    refine zb ?_
    refine zb ?_
    refine zb ?_
    refine zb ?_
    refine zin (nI_in (N := 5) ht (by decide)) ?_
    rw [nI_clamp (show t < 2 ^ 31 by omega)]
    refine zb ?_
    exact key
  | 4, _, key =>
    rw [show zcenM f t 4 = zup f (30, 0, 0) 0 (nI 0) (49, 0, 0) t from (ne (by decide)).symm] at key
    refine zb ?_
    refine zb ?_
    refine zb ?_
    refine zb ?_
    refine zb ?_
    refine zin (nI_in (N := 5) ht (by decide)) ?_
    rw [nI_clamp (show t < 2 ^ 31 by omega)]
    refine zb ?_
    exact key
  | n + 5, h, _ => omega
end MO24
