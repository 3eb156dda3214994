/-! The reference: terminal, send -/
def zterV (f : zM) (M : Nat → Nat) (z : Nat → Nat → Nat) (t w : Nat) (v : Int32) : Prop := match w with
  | 0 => v = f (31, 0, 0) t
  | 1 => v = if f (31, 0, 0) t = nI 1 then f (32, 0, 0) t else zK (-1)
  | 2 => v = f (33, 0, 0) t
  | 3 => v = nI (zmc (f (41, 0, 0)) (nI 1) (366 * t) 366)
  | 4 => v = nI (zmc (f (41, 0, 0)) (nI 2) (366 * t) 366)
  | 5 => ∃ b, zBs f t (M t) (z t) b ∧ v = nI b
  | _ => v = f (37, 0, 0) t
section MO25
variable {sc : zC} {c s : Nat} {f : zM} {g : zW} {K : zR → Prop} {x y : Int32} {M : Nat → Nat} {z : Nat → Nat → Nat}
theorem q_terminal (hS : ∀ t, t < 5 → zSz f t (M t) (z t)) (k1 : ∀ t w v, t < 5 → w ≤ 6 → x = nI t → y = nI w → zterV f M z t w v → K (.inl (some (.inl v)), zN c s (zup f (30, 0, 0) 0 (nI 0)) g)) (k0 : ¬ (zter x ∧ ¬ (y.toInt < 0 ∨ 6 < y.toInt)) → K (.inl (some (.inl (nI 0))), zN c s (zup f (30, 0, 0) 0 (nI 1)) g)) : zT sc 61 0 true [zmo, some (.inl x), some (.inl y)] [] (zN c s f g) K := by
  have hno : ¬ (zter x ∧ ¬ (y.toInt < 0 ∨ 6 < y.toInt)) → zT sc 61 22 true [zmo, some (.inl x), some (.inl y)] [.inr (.inl (30, 0, 0))] (zN c s f g) K := fun h => by
    refine zb ?_
    refine zb ?_
    exact k0 h
  refine zb ?_
  refine q_isTerminal (fun a => ?_) (fun a => hno (fun h => a h.1))
  refine zif (fun q => hno (fun h => ((zwn_iff (n := 6) (by decide)).mp h.2).1 q)) (fun q => ?_)
  refine zif (fun q2 => hno (fun h => ((zwn_iff (n := 6) (by decide)).mp h.2).2 q2)) (fun q2 => ?_)
  obtain ⟨t, ht, rfl⟩ := zter_n a
  obtain ⟨w, hw, rfl⟩ := zsm (n := 6) ((zwn_iff (n := 6) (by decide)).mpr ⟨q, q2⟩) (by decide)
  have key := fun v => k1 t w v ht hw rfl rfl
  have ne : ∀ {x : zA} {j : Nat}, x ≠ (30, 0, 0) → zup f (30, 0, 0) 0 (nI 0) x j = f x j := fun h => zup_nk h
  have e41 : zup f (30, 0, 0) 0 (nI 0) (41, 0, 0) = f (41, 0, 0) := funext fun j => zup_nk (by decide)
  refine zb ?_
  refine zb ?_
  match w, hw, key with
  | 0, _, key =>
    refine zb ?_
    refine zin (nI_in (N := 5) ht (by decide)) ?_
    rw [nI_clamp (show t < 2 ^ 31 by omega)]
    exact key _ (show zup f (30, 0, 0) 0 (nI 0) (31, 0, 0) t = f (31, 0, 0) t from ne (by decide))
  | 1, _, key =>
    refine zb ?_
    refine zin (nI_in (N := 5) ht (by decide)) ?_
    rw [nI_clamp (show t < 2 ^ 31 by omega)]
    refine zif (fun q => ?_) (fun q => ?_)
    · have q : zup f (30, 0, 0) 0 (nI 0) (31, 0, 0) t = nI 1 := q
      rw [ne (by decide)] at q
      refine zin (nI_in (N := 5) ht (by decide)) ?_
      rw [nI_clamp (show t < 2 ^ 31 by omega)]
      refine zb ?_
      refine key _ ?_
      show _ = if f (31, 0, 0) t = nI 1 then f (32, 0, 0) t else zK (-1)
      rw [if_pos q]
      exact (show zup f (30, 0, 0) 0 (nI 0) (32, 0, 0) t = f (32, 0, 0) t from ne (by decide))
    · have q : ¬ zup f (30, 0, 0) 0 (nI 0) (31, 0, 0) t = nI 1 := q
      rw [ne (by decide)] at q
      refine zb ?_
      refine zb ?_
      refine key _ ?_
      show _ = if f (31, 0, 0) t = nI 1 then f (32, 0, 0) t else zK (-1)
      rw [if_neg q]
  | 2, _, key =>
    refine zb ?_
    refine zin (nI_in (N := 5) ht (by decide)) ?_
    rw [nI_clamp (show t < 2 ^ 31 by omega)]
    exact key _ (show zup f (30, 0, 0) 0 (nI 0) (33, 0, 0) t = f (33, 0, 0) t from ne (by decide))
  | 3, _, key =>
    refine zb ?_
    refine q_count ht ?_
    refine key _ ?_
    show nI (zmc (zup f (30, 0, 0) 0 (nI 0) (41, 0, 0)) (nI 1) (366 * t) 366) = nI (zmc (f (41, 0, 0)) (nI 1) (366 * t) 366)
    rw [e41]
  | 4, _, key =>
    refine zb ?_
    refine q_count ht ?_
    refine key _ ?_
    show nI (zmc (zup f (30, 0, 0) 0 (nI 0) (41, 0, 0)) (nI 2) (366 * t) 366) = nI (zmc (f (41, 0, 0)) (nI 2) (366 * t) 366)
    rw [e41]
  | 5, _, key =>
    refine zb ?_
    refine q_base (f := zup f (30, 0, 0) 0 (nI 0)) ht ((hS t ht).cg (fun j => ne (by decide)) (fun j => ne (by decide))) (fun b hb => ?_)
    exact key _ ⟨b, hb.cg (fun j => (ne (by decide)).symm), rfl⟩
  | 6, _, key =>
    refine zb ?_
    refine zin (nI_in (N := 5) ht (by decide)) ?_
    rw [nI_clamp (show t < 2 ^ 31 by omega)]
    exact key _ (show zup f (30, 0, 0) 0 (nI 0) (37, 0, 0) t = f (37, 0, 0) t from ne (by decide))
  | n + 7, h, _ => omega
theorem q_send_loop {F : zM} {t m n : Nat} (ht : t < 5) (hm : F (36, 0, 0) t = nI m) (hm60 : m ≤ 60) (hn : n ≤ 6) (r : Nat) : ∀ {i : Nat} {cl : Bool}, i + r = n → K (.inl (some (.inl (nI m))), zN c s (zgv F (366 * t + 6 * m) n (nI 1)) g) → zT sc 58 100 cl [zmo, some (.inl (nI t)), some (.inl (nI n)), some (.inl (nI i))] [] (zN c s (zgv F (366 * t + 6 * m) i (nI 1)) g) K := by
  induction r with
  | zero =>
    intro i cl hi hK
    have e : i = n := by omega
    subst e
    refine zb ?_
    refine zip (nI_le (a := i) (b := i) (Nat.le_refl _) (by omega)) ?_
    refine zb ?_
    refine zin (nI_in (N := 5) ht (by decide)) ?_
    rw [nI_clamp (show t < 2 ^ 31 by omega)]
    rw [← hm, ← zgv_ne (f := F) (b := 366 * t + 6 * m) (n := i) (v := nI 1) (x := (36, 0, 0)) (by decide)] at hK
    exact hK
  | succ r ih =>
    intro i cl hi hK
    have h := ih (i := i + 1) (cl := false) (by omega) hK
    rw [← zgv_up, ← nI_add i 1] at h
    refine zb ?_
    refine zin (nI_ge (a := i) (b := n) (by omega) (by omega)) ?_
    refine zin (nI_in (N := 5) ht (by decide)) ?_
    rw [nI_clamp (show t < 2 ^ 31 by omega)]
    show zT sc 37 0 true [some (.inl (nI t)), some (.inl (zgv F (366 * t + 6 * m) i (nI 1) (36, 0, 0) t)), some (.inl (nI i))] [] _ _
    rw [zgv_ne (by decide), hm]
    refine q_atI ?_
    rw [zat_e]
    refine zin (nI_in (N := 1830) (by omega) (by decide)) ?_
    rw [nI_clamp (show 366 * t + 6 * m + i < 2 ^ 31 by omega)]
    exact h
theorem q_send (hS : ∀ t, t < 5 → zSz f t (M t) (z t))
    (k1 : ∀ t n, t < 5 → 1 ≤ n → n ≤ 6 → x = nI t → y = nI n → zmc (f (41, 0, 0)) (nI 1) (366 * t) 366 + zmc (f (41, 0, 0)) (nI 2) (366 * t) 366 + n ≤ 24 → M t < 60 → K (.inl (some (.inl (nI (M t + 1)))), zN c s (zgv (zup (zup (zup f (30, 0, 0) 0 (nI 0)) (36, 0, 0) t (nI (M t + 1))) (40, 0, 0) (61 * t + (M t + 1)) (nI n)) (366 * t + 6 * (M t + 1)) n (nI 1)) g))
    (k2 : ∀ t n, t < 5 → 1 ≤ n → n ≤ 6 → x = nI t → y = nI n → ¬ (zmc (f (41, 0, 0)) (nI 1) (366 * t) 366 + zmc (f (41, 0, 0)) (nI 2) (366 * t) 366 + n ≤ 24 ∧ M t < 60) → K (.inl (some (.inl (nI 0))), zN c s (zup f (30, 0, 0) 0 (nI 2)) g))
    (k0 : ¬ (zter x ∧ nI 1 ≤ y ∧ y ≤ nI 6) → K (.inl (some (.inl (nI 0))), zN c s (zup f (30, 0, 0) 0 (nI 1)) g)) : zT sc 58 0 true [zmo, some (.inl x), some (.inl y)] [] (zN c s f g) K := by
  have hno : ¬ (zter x ∧ nI 1 ≤ y ∧ y ≤ nI 6) → zT sc 58 19 true [zmo, some (.inl x), some (.inl y)] [.inr (.inl (30, 0, 0))] (zN c s f g) K := fun h => by
    refine zb ?_
    refine zb ?_
    exact k0 h
  refine zb ?_
  refine q_isTerminal (fun a => ?_) (fun a => hno (fun h => a h.1))
  obtain ⟨t, ht, rfl⟩ := zter_n a
  refine zif (fun q => hno (fun h => ile.mp h.2.1 q)) (fun q => ?_)
  refine zif (fun q2 => ?_) (fun q2 => hno (fun h => q2 h.2.2))
  obtain ⟨n, n1, n6, rfl⟩ := zw6 (ile.mpr q) q2
  obtain ⟨hM, hM60, hz⟩ := hS t ht
  have c1 := zmc_le (f (41, 0, 0)) (nI 1) (366 * t) 366
  have c2 := zmc_le (f (41, 0, 0)) (nI 2) (366 * t) 366
  have hfull : ¬ (zmc (f (41, 0, 0)) (nI 1) (366 * t) 366 + zmc (f (41, 0, 0)) (nI 2) (366 * t) 366 + n ≤ 24 ∧ M t < 60) → ∀ cl, zT sc 58 54 cl [zmo, some (.inl (nI t)), some (.inl (nI n))] [.inr (.inl (30, 0, 0))] (zN c s f g) K := fun h cl => by
    refine zb ?_
    refine zb ?_
    exact k2 t n ht n1 n6 rfl rfl h
  refine zb ?_
  refine q_count ht ?_
  refine q_count ht ?_
  refine zif (fun q3 => ?_) (fun q3 => ?_)
  · have q3 : nI 24 < nI (zmc (f (41, 0, 0)) (nI 1) (366 * t) 366) + nI (zmc (f (41, 0, 0)) (nI 2) (366 * t) 366) + nI n := q3
    rw [nI_add, nI_add, nI_ltI (by decide) (by omega)] at q3
    exact hfull (fun h => by omega) _
  · have q3 : ¬ nI 24 < nI (zmc (f (41, 0, 0)) (nI 1) (366 * t) 366) + nI (zmc (f (41, 0, 0)) (nI 2) (366 * t) 366) + nI n := q3
    rw [nI_add, nI_add, nI_ltI (by decide) (by omega)] at q3
    refine zin (nI_in (N := 5) ht (by decide)) ?_
    rw [nI_clamp (show t < 2 ^ 31 by omega)]
    refine zif (fun q4 => ?_) (fun q4 => ?_)
    · have q4 : f (36, 0, 0) t = nI 60 := q4
      rw [hM] at q4
      have q4 := (nI_eq (by omega) (by decide)).mp q4
      exact hfull (fun h => by omega) _
    · have q4 : ¬ f (36, 0, 0) t = nI 60 := q4
      rw [hM] at q4
      have q4 : M t < 60 := by
        have : M t ≠ 60 := fun w => q4 (by rw [w])
        omega
      refine zb ?_
      refine zb ?_
      refine zb ?_
      refine zin (nI_in (N := 5) ht (by decide)) ?_
      refine zin (nI_in (N := 5) ht (by decide)) ?_
      refine zin (nI_in (N := 5) ht (by decide)) ?_
      rw [nI_clamp (show t < 2 ^ 31 by omega)]
      have eM : zup f (30, 0, 0) 0 (nI 0) (36, 0, 0) t + nI 1 = nI (M t + 1) := by rw [zup_nk (by decide), hM, nI_add]
      have eM2 : zup (zup f (30, 0, 0) 0 (nI 0)) (36, 0, 0) t (zup f (30, 0, 0) 0 (nI 0) (36, 0, 0) t + nI 1) (36, 0, 0) t = nI (M t + 1) := by rw [zup_eq, eM]
      have e61 : nI 61 * nI t + zup (zup f (30, 0, 0) 0 (nI 0)) (36, 0, 0) t (zup f (30, 0, 0) 0 (nI 0) (36, 0, 0) t + nI 1) (36, 0, 0) t = nI (61 * t + (M t + 1)) := by rw [eM2, zsz_e]
      refine zin (show ¬ (nI 61 * nI t + zup (zup f (30, 0, 0) 0 (nI 0)) (36, 0, 0) t (zup f (30, 0, 0) 0 (nI 0) (36, 0, 0) t + nI 1) (36, 0, 0) t < 0 ∨ 305 ≤ (nI 61 * nI t + zup (zup f (30, 0, 0) 0 (nI 0)) (36, 0, 0) t (zup f (30, 0, 0) 0 (nI 0) (36, 0, 0) t + nI 1) (36, 0, 0) t).toNatClampNeg) by rw [e61]; exact nI_in (N := 305) (by omega) (by decide)) ?_
      have h := q_send_loop (sc := sc) (K := K) (c := c) (s := s) (g := g) (F := zup (zup (zup f (30, 0, 0) 0 (nI 0)) (36, 0, 0) t (nI (M t + 1))) (40, 0, 0) (61 * t + (M t + 1)) (nI n)) (m := M t + 1) (cl := false) ht ((zup_nk (by decide)).trans zup_eq) (by omega) n6 n (i := 0) (by omega) (k1 t n ht n1 n6 rfl rfl (by omega) q4)
      rw [zgv_0, show 61 * t + (M t + 1) = (nI 61 * nI t + zup (zup f (30, 0, 0) 0 (nI 0)) (36, 0, 0) t (zup f (30, 0, 0) 0 (nI 0) (36, 0, 0) t + nI 1) (36, 0, 0) t).toNatClampNeg by rw [e61, nI_clamp (by omega)]] at h
      rw [← eM] at h
      exact h
end MO25
