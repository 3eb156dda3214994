/-! The class plays a superframe -/
section PLY
variable {sc : zC} {c s : Nat} {g : zW} {K : zR → Prop} {f0 : zM} {N : Nat} {l : Nat → List Nat} {α : Nat → zAt} {M : Nat → Nat} {Z : Nat → Nat → Nat} {W Q : Nat → Nat}
theorem zINV.eq {σ : zM} (hI : zINV f0 f0 N l α M Z W Q) (hσ : zEq f0 σ) : ∀ t, t < 5 → zT1 f0 σ N t (l t) (α t) (M t) (Z t) := fun t ht => (hI.1 t ht).1.cg2 (fun _ _ _ => rfl) (fun x j h1 h2 => hσ x j h1 h2)
theorem p_play (hc : 258 ≤ c) (hI : zINV f0 f0 N l α M Z W Q) (k0 : N = 500 → K (.inr (1, (99, c, 0)), zN (c + 1) (s + 6) f0 g)) (k1 : N < 500 → ∀ F h, (∀ x j, 30 ≤ x.1 → F x j = f0 x j) → (∀ s9 n, zPlay F N M Z W Q s9 n → n = h ∧ ∃ l' α', zINV F s9 (N + 1) l' α' M Z W Q) → K (.inl (some (.inl (nI h))), zN c s F g)) : zT sc 6 0 true [zsu] [] (zN c s f0 g) K := by
  have hp : N % 2 < 2 := Nat.mod_lt _ (by decide)
  have h8 : f0 (0, 0, 0) 8 = nI N := hI.2.1.2.2.2.2.1
  have hN5 : N ≤ 500 := hI.2.1.2.2.2.2.2.2.1
  have hnow : f0 (30, 0, 0) 1 = nI N := hI.2.1.2.2.2.2.2.1
  refine zb ?_
  by_cases h500 : N = 500
  · refine zin (show ¬ f0 (0, 0, 0) 8 < nI 500 by rw [h8]; exact nI_nlt (by omega) (by omega)) ?_
    exact zib (zthr hc) (k0 h500)
  · have hN : N < 500 := by omega
    have k1 := k1 hN
    refine zip (show f0 (0, 0, 0) 8 < nI 500 by rw [h8]; exact nI_lt hN (by decide)) ?_
    refine zb ?_
    show zT sc 20 0 true [zsu, some (.inl (f0 (0, 0, 0) 8))] [] (zN c s f0 g) _
    rw [h8]
    refine p_stage1 (l0 := l) (α0 := α) (M := M) (Z := Z) (fun σ hσ => hI.eq hσ) hnow (fun t ht => (hI.1 t ht).2.2 _ hp) hI.2.2.1 (fun f1 l1 α1 hF1 hT1 => ?_)
    show zT sc 21 0 true [zsu, some (.inl (f0 (0, 0, 0) 8))] [] (zN c s f1 g) _
    rw [h8]
    refine p_stage2 (f0 := f0) (M := M) (Z := Z) ⟨l1, α1, hF1, fun σ hσ t ht => ⟨(hT1 σ hσ t ht).t0, by rw [if_neg (by omega)]; exact (hT1 σ hσ t ht).2.1⟩⟩ hnow (fun f2 h2 => ?_)
    refine p_driftOffsets (fun f2' hd => ?_)
    have h2' := zdrifted h2 hd
    show zT sc 23 0 true [zsu, some (.inl (f0 (0, 0, 0) 8))] [] (zN c s f2' g) _
    rw [h8]
    refine p_stage3 (f0 := f0) (M := M) (Z := Z) h2' (fun j hj => hI.2.1.1 _ j hp hj) (hI.2.1.2.1 _ hp) hnow (fun u f3 h3 => ?_)
    obtain ⟨l3, α3, hF3, hB3, hT3⟩ := h3
    have hK3 : zK3 f0 f3 (zf5 f3 N) N u M Z l3 α3 := ⟨hF3, fun s3 ⟨σ, hσ, hB⟩ => hT3 σ hσ s3 hB, fun x j hx => zf5_ne (fun w => hx (Or.inl w)) (fun w => hx (by rw [w]; simp)) (fun w => hx (by rw [w]; simp))⟩
    refine p_listen (hK3.S hI) ?_
    show zT sc 28 0 true [zsu, some (.inl (f0 (0, 0, 0) 8))] [] (zN c s (zls f3 (zsnC f3) 30) g) _
    rw [h8]
    refine p_moveLevels (f := zls f3 (zsnC f3) 30) (o := zho f3 0) ?_ (fun t ht => (zho_lt hI hK3 (by omega) ht).1) ?_
    · unfold zls
      rw [if_neg (fun w => absurd w.1 (by decide)), if_pos ⟨rfl, by omega⟩]
      unfold zhr zho
      cases zheB f3 (zsnC f3) 0 <;> rfl
    show zT sc 31 0 true [zsu, some (.inl (f0 (0, 0, 0) 8))] [] (zN c s (zf5 f3 N) g) _
    rw [h8]
    refine p_stage6 (f5 := zf5 f3 N) hI hK3 (fun j hj => (zf5_20 hj).2) (fun g6 h6 => ?_)
    obtain ⟨D0, G0, S0, hPR⟩ := hI.2.2.2.2.2
    have hf6 : ∀ x j, ¬ (x.1 = 3 ∨ x.1 = 4 ∨ x.1 = 5 ∨ x.1 = 6 ∨ x.1 = 7 ∨ x.1 = 8 ∨ x.1 = 9 ∨ x.1 = 19 ∨ x.1 = 20 ∨ x.1 = 21) → ¬ (x = (0, 0, 0) ∧ j = 7) → zfgN g6 (nI N) 5 x j = f0 x j := fun x j hx hx2 => by
      rw [zfgN_ne (fun w => hx (by omega)), h6.1 x j (by omega), zf5_ne (by omega) (fun w => hx (by rw [w]; simp)) (fun w => hx (by rw [w]; simp)), hF3 x j (by omega) hx2]
    have hf63 : ∀ t j, j ≠ 4 → j ≠ 5 → zfgN g6 (nI N) 5 (3, t, 0) j = f3 (3, t, 0) j := fun t j h4 h5 => by
      rw [zfgN_ne (by simp), h6.1 _ _ (by simp), zf5_3 h4 h5]
    obtain ⟨s3e, hse⟩ := zCh.ex hI
    obtain ⟨hTe, hBe⟩ := hK3.2.1 s3e hse
    have hrt : ∀ t, t < 5 → f3 (3, t, 0) 0 = nI (Q t) ∧ f3 (3, t, 0) 1 = nI (W t) ∧ Q t ≤ 5 ∧ W t ≤ 4 := fun t ht => by
      obtain ⟨⟨a1, a2, -⟩, -⟩ := hTe t ht
      obtain ⟨b1, b2, b3, b4, b5⟩ := hI.2.2.2.1 t ht
      rw [hse.ne (by omega) (by omega)] at a1 a2
      exact ⟨a1.trans b1, a2.trans b3, b2, b5⟩
    show zT sc 32 0 true [zsu, some (.inl (f0 (0, 0, 0) 8))] [] (zN c s (zfgN g6 (nI N) 5) g) _
    rw [h8]
    refine p_stage7 (f6 := zfgN g6 (nI N) 5) (ho := zho f3) (W := W) (Q := Q) (D0 := D0) (G0 := G0) (S0 := S0) (fun j hj => ?_) (fun j t hj ht => (zho_lt hI hK3 hj ht).1) (fun t i j i1 j1 hi hj e hi' hj' => ?_) ⟨fun t ht => ?_, ?_, hPR.2.2⟩ (fun t ht => ?_) (fun t ht => ?_) (fun f7 h7 => ?_)
    · rw [zfgN_ne (by simp), h6.1 _ _ (by simp)]; exact (zf5_20 hj).2
    · have hpl : ∀ {j}, 1 ≤ j → j < 30 → zho f3 j = some t → f0 (55, 0, 0) (30 * (N % 2) + j) = nI t := fun {j} j1 hj hq => by
        obtain ⟨-, -, hs⟩ := zho_lt hI hK3 hj hq
        rcases hBe.2.2.2 j j1 (by omega) with ⟨q, -⟩ | ⟨t', ht', q, -, -, -, -, q2⟩
        · have : zsnC f3 j = none := by unfold zsnC; rw [q]; rfl
          rw [this] at hs; cases hs
        · have : zsnC f3 j = some t' := by unfold zsnC; rw [q, if_neg (nI_pos (by omega)), nI_clamp (by omega)]
          rw [this] at hs
          cases hs
          rw [hse.ne (by omega) (by omega)] at q2
          exact q2
      exact (hI.2.1.2.1 _ hp).2.2 i j t hi hj (zho_lt hI hK3 hi hi').1 e (hpl i1 hi hi') (hpl j1 hj hj')
    · rw [hf6 _ _ (by simp) (by rintro ⟨w, -⟩; cases w), hf6 _ _ (by simp) (by rintro ⟨w, -⟩; cases w)]; exact hPR.1 t ht
    · rw [hf6 _ _ (by simp) (by rintro ⟨w, -⟩; cases w)]; exact hPR.2.1
    · rw [hf63 t 0 (by decide) (by decide)]
      exact ⟨(hrt t ht).1, by have := (hrt t ht).2.2.1; omega⟩
    · rw [hf63 t 1 (by decide) (by decide)]
      exact ⟨(hrt t ht).2.1, by have := (hrt t ht).2.2.2; omega⟩
    · have e8 : zup f7 (0, 0, 0) 9 (f7 (0, 0, 0) 9 + (nI u - nI (zct f3 (zsnC f3) 30))) (0, 0, 0) 8 = nI N := by
        rw [zup_ne (by decide), h7.1 _ _ (by simp) (fun w => by cases w), hf6 _ _ (by simp) (by decide)]; exact h8
      have hall : zAll f0 f3 (zfgN g6 (nI N) 5) f7 (zup (zup f7 (0, 0, 0) 9 (f7 (0, 0, 0) 9 + (nI u - nI (zct f3 (zsnC f3) 30)))) (0, 0, 0) 8 (nI (N + 1))) N u M Z W Q D0 G0 l3 α3 := ⟨hK3, ⟨g6, h6, rfl⟩, h7, rfl⟩
      have hfr : ∀ x j, 30 ≤ x.1 → zup (zup f7 (0, 0, 0) 9 (f7 (0, 0, 0) 9 + (nI u - nI (zct f3 (zsnC f3) 30)))) (0, 0, 0) 8 (nI (N + 1)) x j = f0 x j := fun x j hx => by
        have h0 : x ≠ (0, 0, 0) := fun w => by rw [w] at hx; exact absurd hx (by decide)
        rw [zup_nk h0, zup_nk h0, h7.1 x j (by omega) (fun w => by rw [w] at hx; exact absurd hx (by show ¬ 30 ≤ 17; decide)), hf6 x j (by omega) (fun w => h0 w.1)]
      have key := k1 _ (zct f3 (zsnC f3) 30) hfr (fun s9 n h9 => by
        obtain ⟨r1, r2⟩ := z_fin hI hN hall hfr h9
        exact ⟨r1, l3, α3, r2⟩)
      rw [← nI_add, ← e8] at key
      exact key
end PLY
