/-! Small methods of the class -/
theorem zslo_n {x y : Int32} (h : zslo x y) : ∃ sl ca, sl < 10 ∧ ca < 3 ∧ x = nI sl ∧ y = nI ca := by
  obtain ⟨⟨h1, h2⟩, h3, h4⟩ := h
  rw [Int32.le_iff_toInt_le] at h1 h2 h3 h4
  have e0 : (0 : Int32).toInt = 0 := rfl
  have e9 : (9 : Int32).toInt = 9 := rfl
  have e2 : (2 : Int32).toInt = 2 := rfl
  rw [e0] at h1 h3
  rw [e9] at h2
  rw [e2] at h4
  refine ⟨x.toInt.toNat, y.toInt.toNat, by omega, by omega, ?_, ?_⟩
  · rw [← Int32.toInt_inj, nI_toInt (by omega)]
    omega
  · rw [← Int32.toInt_inj, nI_toInt (by omega)]
    omega
theorem zah_n {x : Int32} (h : 0 ≤ x ∧ x ≤ 1) : ∃ a, a < 2 ∧ x = nI a := by
  obtain ⟨h1, h2⟩ := h
  rw [Int32.le_iff_toInt_le] at h1 h2
  have e0 : (0 : Int32).toInt = 0 := rfl
  have e1 : (1 : Int32).toInt = 1 := rfl
  rw [e0] at h1
  rw [e1] at h2
  refine ⟨x.toInt.toNat, by omega, ?_⟩
  rw [← Int32.toInt_inj, nI_toInt (by omega)]
  omega
section SM
variable {sc : zC} {c s : Nat} {f : zM} {g : zW} {K : zR → Prop} {x y z : Int32}
theorem zthr (hc : 258 ≤ c) : (true && (Nat.ble 258 c && Nat.ble 0 8)) = true := by
  rw [Bool.and_eq_true, Bool.and_eq_true]; exact ⟨rfl, Nat.ble_eq_true_of_le hc, rfl⟩
theorem p_drift (hc : 258 ≤ c) (k1 : ∀ t, t < 5 → x = nI t → (zK (-4) ≤ y ∧ y ≤ nI 4) → K (.inl none, zN c s (zup f (3, t, 0) 3 y) g)) (k0 : ¬ (zter x ∧ (zK (-4) ≤ y ∧ y ≤ nI 4)) → K (.inr (0, (99, c, 0)), zN (c + 1) (s + 6) f g)) : zT sc 3 0 true [zsu, some (.inl x), some (.inl y)] [] (zN c s f g) K := by
  refine zb ?_
  refine p_isTerminal (fun a => ?_) (fun a => ?_)
  · obtain ⟨t, ht, rfl⟩ := zter_n a
    refine zb ?_
    refine p_isWithin (fun a1 b1 => ?_) (fun a1 => ?_)
    · refine zb ?_
      refine zin (nI_in (N := 5) ht (by decide)) ?_
      rw [nI_clamp (by omega)]
      exact k1 t ht rfl ⟨a1, b1⟩
    · exact zib (zthr hc) (k0 (fun w => a1 w.2))
  · exact zib (zthr hc) (k0 (fun w => a w.1))
theorem p_lose (hc : 258 ≤ c) (k1 : ∀ sl ca, sl < 10 → ca < 3 → x = nI sl → y = nI ca → K (.inl none, zN c s (zup f (20, 0, 0) (sl * 3 + ca) 1) g)) (k0 : ¬ zslo x y → K (.inr (0, (99, c, 0)), zN (c + 1) (s + 6) f g)) : zT sc 5 0 true [zsu, some (.inl x), some (.inl y)] [] (zN c s f g) K := by
  refine zb ?_
  refine p_isSlot (fun a => ?_) (fun a => ?_)
  · obtain ⟨sl, ca, h1, h2, rfl, rfl⟩ := zslo_n a
    have e2 : nI sl * nI 3 + nI ca = nI (sl * 3 + ca) := by rw [nI_mul, nI_add]
    refine zb ?_
    refine p_positionOf ?_
    rw [e2]
    refine zin (nI_in (N := 30) (show sl * 3 + ca < 30 by omega) (by decide)) ?_
    rw [nI_clamp (show sl * 3 + ca < 2 ^ 31 by omega)]
    exact k1 sl ca h1 h2 rfl rfl
  · exact zib (zthr hc) (k0 a)
theorem p_heard (hc : 258 ≤ c) (k1 : ∀ sl ca, sl < 10 → ca < 3 → x = nI sl → y = nI ca → K (.inl (some (.inl (f (21, 0, 0) (sl * 3 + ca)))), zN c s f g)) (k0 : ¬ zslo x y → K (.inr (0, (99, c, 0)), zN (c + 1) (s + 6) f g)) : zT sc 12 0 true [zsu, some (.inl x), some (.inl y)] [] (zN c s f g) K := by
  refine zb ?_
  refine p_isSlot (fun a => ?_) (fun a => ?_)
  · obtain ⟨sl, ca, h1, h2, rfl, rfl⟩ := zslo_n a
    have e2 : nI sl * nI 3 + nI ca = nI (sl * 3 + ca) := by rw [nI_mul, nI_add]
    refine zb ?_
    refine p_positionOf ?_
    rw [e2]
    refine zin (nI_in (N := 30) (show sl * 3 + ca < 30 by omega) (by decide)) ?_
    rw [nI_clamp (show sl * 3 + ca < 2 ^ 31 by omega)]
    exact k1 sl ca h1 h2 rfl rfl
  · exact zib (zthr hc) (k0 a)
theorem p_played (k : K (.inl (some (.inl (f (0, 0, 0) 8))), zN c s f g)) : zT sc 7 0 true [zsu] [] (zN c s f g) K := by
  refine zb ?_
  exact k
theorem p_missed (k : K (.inl (some (.inl (f (0, 0, 0) 9))), zN c s f g)) : zT sc 13 0 true [zsu] [] (zN c s f g) K := by
  refine zb ?_
  exact k
theorem p_planOf {n : Nat} (k : K (.inl (some (.inr (.inl (17, n % 2, 0)))), zN c s f g)) : zT sc 19 0 true [zsu, some (.inl (nI n))] [] (zN c s f g) K := by
  have e : nI n &&& nI 1 = nI (n % 2) := nI_par n
  refine zb ?_
  refine zin (show ¬ (nI n &&& nI 1 < 0 ∨ 2 ≤ (nI n &&& nI 1).toNatClampNeg) by rw [e]; exact nI_in (Nat.mod_lt _ (by decide)) (by decide)) ?_
  show K (.inl (some (.inr (.inl (17, (nI n &&& nI 1).toNatClampNeg, 0)))), zN c s f g)
  rw [e, nI_clamp (by have := Nat.mod_lt n (show 2 > 0 by decide); omega)]
  exact k
theorem p_planAt {n : Nat} (hc : 258 ≤ c) (hn : f (0, 0, 0) 8 = nI n) (k1 : ∀ sl ca a, sl < 10 → ca < 3 → a < 2 → x = nI sl → y = nI ca → z = nI a → K (.inl (some (.inl (f (17, (n + a) % 2, 0) (sl * 3 + ca)))), zN c s f g)) (k0 : ¬ (zslo x y ∧ (0 ≤ z ∧ z ≤ 1)) → K (.inr (0, (99, c, 0)), zN (c + 1) (s + 6) f g)) : zT sc 10 0 true [zsu, some (.inl x), some (.inl y), some (.inl z)] [] (zN c s f g) K := by
  refine zb ?_
  refine p_isSlot (fun a => ?_) (fun a => ?_)
  · obtain ⟨sl, ca, h1, h2, rfl, rfl⟩ := zslo_n a
    have e2 : nI sl * nI 3 + nI ca = nI (sl * 3 + ca) := by rw [nI_mul, nI_add]
    refine zb ?_
    refine p_isAhead (fun b => ?_) (fun b => ?_)
    · obtain ⟨ah, h3, rfl⟩ := zah_n b
      refine zb ?_
      show zT sc 19 0 true [zsu, some (.inl (f (0, 0, 0) 8 + nI ah))] [] (zN c s f g) _
      rw [hn, nI_add]
      refine p_planOf ?_
      refine p_positionOf ?_
      rw [e2]
      refine zin (nI_in (N := 30) (show sl * 3 + ca < 30 by omega) (by decide)) ?_
      rw [nI_clamp (show sl * 3 + ca < 2 ^ 31 by omega)]
      exact k1 sl ca ah h1 h2 h3 rfl rfl rfl
    · exact zib (zthr hc) (k0 (fun w => b w.2))
  · exact zib (zthr hc) (k0 (fun w => a w.1))
end SM
