/-! The law: its loop -/
section LW4
variable {L : Nat} {xs : Nat → Int32} {c s i : Nat} {f : zM} {g : zW} {cl : Bool} {tl : zL}
def zKe (r : zR) : Prop := r.1 = .inl (some (.inl 1)) ∧ r.2.1 ≤ 601024 ∧ r.2.2.1 ≤ 7293033
theorem zl4 (hL : L ≤ 2048) (hi : i ≤ 2052) : nI L - nI 4 < nI i ↔ L < i + 4 := by
  rw [Int32.lt_iff_toInt_lt, nI_toInt (by omega), Int32.toInt_sub, nI_toInt (by omega), nI_toInt (by omega), Int.bmod_eq_of_le (by omega) (by omega)]
  omega
theorem J_end (h1 : c ≤ 601024) (h2 : s ≤ 7293033) : zT (some (L, xs)) 124 847 cl (zLL i tl) [] (zN c s f g) zKe := by
  refine zb ?_
  exact ⟨rfl, h1, h2⟩
theorem J_sw (hL : L ≤ 2048) (hi : i + 4 ≤ L) (hc : 258 ≤ c) (hI : zIv f) (htl : zt2 tl) {K : zR → Prop} (hnx : zNx L xs c s i K) : zT (some (L, xs)) 124 23 cl (zLL i tl) [] (zN c s f g) K := by
  have e0 : ¬ (nI i < 0 ∨ L ≤ (nI i).toNatClampNeg) := nI_in (N := L) (by omega) (by omega)
  have ex : ¬ nI L - nI 4 < nI i := fun w => by have := (zl4 hL (by omega)).mp w; omega
  by_cases q : (xs (nI i).toNatClampNeg &&& nI 15).toInt < 0 ∨ 12 < (xs (nI i).toNatClampNeg &&& nI 15).toInt
  · refine zb ?_
    refine zin ex ?_
    refine zin e0 ?_
    refine zip q ?_
    exact hnx _ _ _ _ _ _ hI (by omega) (by omega) (by omega) htl
  · obtain ⟨w, hw, ew⟩ := zsm (n := 12) q (by decide)
    refine zb ?_
    refine zin ex ?_
    refine zin e0 ?_
    refine zin q ?_
    have key : ∀ A : Nat → Prop, (∀ v, v ≤ 12 → A v) → A w := fun A h => h w hw
    show match (#[65, 125, 216, 264, 332, 380, 424, 437, 505, 573, 653, 721, 789] : Array Int)[((xs (nI i).toNatClampNeg &&& nI 15).toInt - 0).toNat]? with
      | some o => zT (some (L, xs)) 124 (((39 : Nat) : Int) + o).toNat cl (zLL i tl) [] (zN c s f g) K
      | none => False
    rw [ew, nI_toInt (by omega)]
    match w, hw with
    | 0, _ => exact J_rates hL hi hc hI htl hnx
    | 1, _ => exact J_power hL hi hc hI htl hnx
    | 2, _ => exact J_drift hL hi hc hI htl hnx
    | 3, _ => exact J_send hL hi hc hI htl hnx
    | 4, _ => exact J_lose hL hi hc hI htl hnx
    | 5, _ => exact J_play hc hI htl hnx
    | 6, _ => exact J_played hI htl hnx
    | 7, _ => exact J_terminal hL hi hc hI htl hnx
    | 8, _ => exact J_centre hL hi hc hI htl hnx
    | 9, _ => exact J_plan hL hi hc hI htl hnx
    | 10, _ => exact J_places hL hi hc hI htl hnx
    | 11, _ => exact J_heard hL hi hc hI htl hnx
    | 12, _ => exact J_missed hI htl hnx
    | n + 13, h => omega
theorem J_loop (hL : L ≤ 2048) (r : Nat) : ∀ {i c s : Nat} {f : zM} {g : zW} {cl : Bool} {tl : zL}, L ≤ i + r → i ≤ 2052 → 258 ≤ c → c + r ≤ 601024 → s + 6 * r ≤ 7293033 → zIv f → zt2 tl → zT (some (L, xs)) 124 23 cl (zLL i tl) [] (zN c s f g) zKe := by
  induction r with
  | zero =>
    intro i c s f g cl tl h1 h0 h2 h3 h4 hI htl
    refine zb ?_
    refine zip (show nI L - nI 4 < nI i from (zl4 hL h0).mpr (by omega)) ?_
    exact J_end (by omega) (by omega)
  | succ r ih =>
    intro i c s f g cl tl h1 h0 h2 h3 h4 hI htl
    by_cases q : L < i + 4
    · refine zb ?_
      refine zip (show nI L - nI 4 < nI i from (zl4 hL h0).mpr q) ?_
      exact J_end (by omega) (by omega)
    · refine J_sw hL (by omega) h2 hI htl (fun c' s' f' g' cl tl hf a1 a2 a3 ht => ?_)
      refine zb ?_
      show zT (some (L, xs)) 124 23 cl (some (.inr (.inl (98, 0, 0))) :: zsu :: zmo :: zout :: some (.inl (nI i + nI 4)) :: tl) [] (zN c' s' f' g') zKe
      rw [nI_add]
      exact ih (by omega) (by omega) (by omega) (by omega) (by omega) hf ht
end LW4
