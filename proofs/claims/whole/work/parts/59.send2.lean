/-! Sending a datagram -/
section SN2
variable {sc : zC} {c s : Nat} {f : zM} {g : zW} {K : zR → Prop} {x y : Int32} {l : Nat → List Nat} {α : Nat → zAt} {M : Nat → Nat}
theorem zw6 {y : Int32} (h1 : nI 1 ≤ y) (h2 : y ≤ nI 6) : ∃ n, 1 ≤ n ∧ n ≤ 6 ∧ y = nI n := by
  rw [Int32.le_iff_toInt_le, nI_toInt (by decide)] at h1 h2
  refine ⟨y.toInt.toNat, by omega, by omega, ?_⟩
  rw [← Int32.toInt_inj, nI_toInt (by omega)]
  omega
theorem p_send (hc : 258 ≤ c) (hB : ∀ t, t < 5 → zBR f t (l t) (α t) (nI (M t))) (hM : ∀ t, t < 5 → M t ≤ 60) (hx : ∀ t, t < 5 → ∀ j, 6 * (M t + 1) + j ∉ l t)
    (k1 : ∀ t n f' α', t < 5 → 1 ≤ n → n ≤ 6 → x = nI t → y = nI n → (l t).length + n ≤ 24 → M t < 60 → zFr t f f' → zBR f' t (l t ++ (List.range' 0 n).map (6 * (M t + 1) + ·)) α' (nI (M t + 1)) → zAd (α t) α' (M t + 1) n (nI (M t + 1)) (List.range' 0 n) → K (.inl (some (.inl (nI (M t + 1)))), zN c s f' g))
    (k2 : ∀ t n, t < 5 → 1 ≤ n → n ≤ 6 → x = nI t → y = nI n → ¬ ((l t).length + n ≤ 24 ∧ M t < 60) → K (.inr (1, (99, c, 0)), zN (c + 1) (s + 6) f g))
    (k0 : ¬ (zter x ∧ nI 1 ≤ y ∧ y ≤ nI 6) → K (.inr (0, (99, c, 0)), zN (c + 1) (s + 6) f g)) : zT sc 4 0 true [zsu, some (.inl x), some (.inl y)] [] (zN c s f g) K := by
  refine zb ?_
  refine p_isTerminal (fun a => ?_) (fun a => ?_)
  · obtain ⟨t, ht, rfl⟩ := zter_n a
    have hBt := hB t ht
    have h24 := hBt.2.1
    have hMt := hM t ht
    refine zb ?_
    refine p_isWithin (fun a1 b1 => ?_) (fun a1 => ?_)
    · obtain ⟨n, n1, n6, rfl⟩ := zw6 a1 b1
      refine zb ?_
      refine zin (nI_in (N := 5) ht (by decide)) ?_
      rw [nI_clamp (show t < 2 ^ 31 by omega)]
      have hroom : (nI (l t).length + nI n ≤ 24 ∧ nI (M t) < 60) ↔ ((l t).length + n ≤ 24 ∧ M t < 60) := by
        rw [nI_add]
        have e1 : nI ((l t).length + n) ≤ 24 ↔ (l t).length + n ≤ 24 := nI_leI (a := (l t).length + n) (b := 24) (by omega) (by decide)
        have e2 : nI (M t) < 60 ↔ M t < 60 := by
          rw [Int32.lt_iff_toInt_lt, nI_toInt (by omega)]
          have : (60 : Int32).toInt = 60 := rfl
          omega
        rw [e1, e2]
      refine p_hasRoom hBt (fun w => ?_) (fun w => ?_)
      · have w := hroom.mp w
        refine zb ?_
        refine zin (nI_in (N := 5) ht (by decide)) ?_
        rw [nI_clamp (show t < 2 ^ 31 by omega)]
        refine p_add n6 w.1 (d := M t + 1) (fun j _ => hx t ht j) hBt (fun f' α' w1 w2 w3 => ?_)
        rw [nI_add] at w2 w3
        have key := k1 t n f' α' ht n1 n6 rfl rfl w.1 w.2 w1 w2 w3
        rw [← nI_add] at key
        exact key
      · exact zib (zthr hc) (k2 t n ht n1 n6 rfl rfl (fun q => w (hroom.mpr q)))
    · exact zib (zthr hc) (k0 (fun w => a1 w.2))
  · exact zib (zthr hc) (k0 (fun w => a w.1))
end SN2
