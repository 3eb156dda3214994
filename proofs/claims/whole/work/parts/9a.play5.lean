/-! A superframe's upkeep: the times; the drift -/
section S2
variable {M : Nat → Nat} {Z : Nat → Nat → Nat} {N : Nat}
theorem zck_c {f s : zM} {t : Nat} (h4 : f (3, t, 0) 4 = s (31, 0, 0) t) (h6 : f (3, t, 0) 6 = s (35, 0, 0) t) (hN : s (30, 0, 0) 1 = nI N) : (f (3, t, 0) 4 = nI 3 ∧ nI 5 ≤ nI N - f (3, t, 0) 6) ↔ (s (31, 0, 0) t = nI 3 ∧ nI 5 ≤ s (30, 0, 0) 1 - s (35, 0, 0) t) := by
  rw [h4, h6, hN]
theorem zT0.ck {f s : zM} {t m : Nat} {l : List Nat} {α : zAt} {z : Nat → Nat} (h : zT0 f s N t l α m z) (hN : s (30, 0, 0) 1 = nI N) : zT0 (zckC f t (nI N)) (zck s t) N t l α m z := by
  obtain ⟨⟨a1, a2, a3, a4, a5, a6, a7⟩, c, d, e, g⟩ := h
  have hc := zck_c (N := N) a4 a6 hN
  have nf : ∀ {x : zA} {j : Nat}, (x ≠ (3, t, 0) ∨ (j ≠ 4 ∧ j ≠ 5)) → zckC f t (nI N) x j = f x j := fun h => zckC_ne h
  have ns : ∀ {x : zA} {j : Nat}, x ≠ (31, 0, 0) → x ≠ (32, 0, 0) → zck s t x j = s x j := fun h1 h2 => zck_ne h1 h2
  refine ⟨⟨?_, ?_, ?_, ?_, ?_, ?_, ?_⟩, c.cg (fun j => ns (by decide) (by decide)) (fun j => ns (by decide) (by decide)), d.cg (fun i _ => ns (by decide) (by decide)) (fun i _ => ns (by decide) (by decide)) (fun i _ => ns (by decide) (by decide)), ⟨?_, ?_⟩, g.fr (fun a k h1 h2 => nf (Or.inl (fun w => by rw [w] at h2; omega)))⟩
  · rw [nf (Or.inr ⟨by decide, by decide⟩), ns (by decide) (by decide)]; exact a1
  · rw [nf (Or.inr ⟨by decide, by decide⟩), ns (by decide) (by decide)]; exact a2
  · rw [nf (Or.inr ⟨by decide, by decide⟩), ns (by decide) (by decide)]; exact a3
  · unfold zckC zck
    by_cases q : s (31, 0, 0) t = nI 3 ∧ nI 5 ≤ s (30, 0, 0) 1 - s (35, 0, 0) t
    · rw [if_pos q, if_pos (hc.mpr q), zup_ne (fun w => absurd w.2 (by decide)), zup_eq, zup_nk (by decide), zup_eq]
    · rw [if_neg q, if_neg (fun w => q (hc.mp w))]; exact a4
  · unfold zckC zck
    by_cases q : s (31, 0, 0) t = nI 3 ∧ nI 5 ≤ s (30, 0, 0) 1 - s (35, 0, 0) t
    · rw [if_pos q, if_pos (hc.mpr q), zup_eq, zup_eq]
      exact fun _ => rfl
    · rw [if_neg q, if_neg (fun w => q (hc.mp w))]; exact a5
  · rw [nf (Or.inr ⟨by decide, by decide⟩), ns (by decide) (by decide)]; exact a6
  · rw [nf (Or.inr ⟨by decide, by decide⟩), ns (by decide) (by decide)]; exact a7
  · unfold zck
    split
    · rw [zup_nk (by decide), zup_eq]; exact Or.inr (Or.inl rfl)
    · exact e.1
  · unfold zck
    split
    · rw [zup_eq]; exact fun _ => ⟨0, by omega, rfl⟩
    · exact e.2
theorem zAg_sb {s : zM} {t t' : Nat} (hne : t' ≠ t) (hz : ∀ d, 1 ≤ d → d ≤ M t → Z t d ≤ 6) (hm : M t ≤ 60) : zSb s (zAg s t (M t) (Z t)) t' ∧ zAg s t (M t) (Z t) (33, 0, 0) t' = s (33, 0, 0) t' := by
  obtain ⟨r1, r2, r3, r4, r5⟩ := zgA_R (zck s t) t (Z t) (M t) hz
  have hck : ∀ κ : Nat, zck s t (κ, 0, 0) t' = s (κ, 0, 0) t' := fun κ => by
    unfold zck
    split
    · rw [zup_ne (fun w => hne w.2), zup_ne (fun w => hne w.2)]
    · rfl
  have hk : ∀ κ : Nat, κ ≠ 41 → zAg s t (M t) (Z t) (κ, 0, 0) t' = s (κ, 0, 0) t' := fun κ h41 => by
    have h41 : ((κ, 0, 0) : zA) ≠ (41, 0, 0) := fun w => h41 (congrArg Prod.fst w)
    unfold zAg
    rw [zup_ne (fun w => hne w.2)]
    by_cases q : κ = 37
    · subst q
      exact (r4 t' hne).trans (hck 37)
    · rw [zgA_ne h41 (fun w => q (congrArg Prod.fst w))]; exact hck κ
  have ne : ∀ {x : zA} {j : Nat}, x ≠ (31, 0, 0) → x ≠ (32, 0, 0) → x ≠ (33, 0, 0) → x ≠ (41, 0, 0) → x ≠ (37, 0, 0) → zAg s t (M t) (Z t) x j = s x j := fun a b c d e => zAg_ne a b c d e
  refine ⟨⟨fun κ h1 h2 _ => hk κ (by omega), fun i hi => ⟨?_, ne (by decide) (by decide) (by decide) (by decide) (by decide), ne (by decide) (by decide) (by decide) (by decide) (by decide)⟩, fun d _ => ne (by decide) (by decide) (by decide) (by decide) (by decide)⟩, hk 33 (by decide)⟩
  unfold zAg
  rw [zup_nk (by decide), r2, zck_ne (by decide) (by decide)]
  intro d k d1 d2 hk' e
  have := hz d d1 d2
  omega
/-- what stage 2 keeps -/
def zP2 (f0 : zM) (N : Nat) (M : Nat → Nat) (Z : Nat → Nat → Nat) (t : Nat) (f : zM) : Prop := ∃ (l : Nat → List Nat) (α : Nat → zAt), zF12 f0 f ∧ ∀ σ, zEq f0 σ → ∀ t', t' < 5 → zT0 f (zAgN (zLiN σ (N % 2) 5) M Z t) N t' (l t') (α t') (M t') (Z t') ∧ (if t' < t then f (3, t', 0) 2 + f (3, t', 0) 3 = zAgN (zLiN σ (N % 2) 5) M Z t (33, 0, 0) t' else f (3, t', 0) 2 = zAgN (zLiN σ (N % 2) 5) M Z t (33, 0, 0) t')
theorem p_stage2 {sc : zC} {c s : Nat} {g : zW} {K : zR → Prop} {f0 f1 : zM} (h0 : zP2 f0 N M Z 0 f1) (hN : f0 (30, 0, 0) 1 = nI N) (hK : ∀ f, zP2 f0 N M Z 5 f → K (.inl none, zN c s f g)) : zT sc 21 0 true [zsu, some (.inl (nI N))] [] (zN c s f1 g) K := by
  refine p_checkTimes (P := zP2 f0 N M Z) (fun t f ht hPt => ?_) h0 hK
  obtain ⟨l, α, hF, hT⟩ := hPt
  have hself : zEq f0 f0 := fun _ _ _ _ => rfl
  have eN : ∀ σ, zEq f0 σ → zAgN (zLiN σ (N % 2) 5) M Z t (30, 0, 0) 1 = nI N := fun σ hσ => by
    rw [zAgN_ne (by decide) (by decide) (by decide) (by decide) (by decide), zLiN_ne (by decide) (by decide) (by decide) (by decide), hσ _ _ (by decide) (by decide)]; exact hN
  have eA : ∀ σ, zAgN (zLiN σ (N % 2) 5) M Z (t + 1) = zAg (zAgN (zLiN σ (N % 2) 5) M Z t) t (M t) (Z t) := fun σ => rfl
  have hsz := (hT f0 hself t ht).1.2.1
  have hz : ∀ d, 1 ≤ d → d ≤ M t → Z t d ≤ 6 := fun d a b => (hsz.2.2 d a b).2.2
  have hm : M t ≤ 60 := hsz.2.1
  refine ⟨l t, α t, nI (M t), (hT f0 hself t ht).1.2.2.2.2, fun f' w1 w2 => ?_⟩
  have hf3 : ∀ j, f' (3, t, 0) j = zckC f t (nI N) (3, t, 0) j := fun j => w1 _ _ (by rintro ⟨-, w⟩; omega)
  refine ⟨fun x => if x = t then (l t).filter (zal0 ((l t).foldl (zgu (l t) (nI N - nI 2)) (α t, 0)).1) else l x, fun x => if x = t then ((l t).foldl (zgu (l t) (nI N - nI 2)) (α t, 0)).1 else α x, fun x j hx => ?_, fun σ hσ t' ht' => ?_⟩
  · rw [zup_nk (fun w => hx (by rw [w]; exact Or.inl rfl)), w1 x j (fun w => hx (Or.inr w.2)), zckC_ne (Or.inl (fun w => hx (by rw [w]; exact Or.inl rfl)))]; exact hF x j hx
  · rw [eA]
    have eN' := eN σ hσ
    obtain ⟨hT0, ho⟩ := hT σ hσ t' ht'
    generalize zAgN (zLiN σ (N % 2) 5) M Z t = s at eN' hT0 ho ⊢
    by_cases q : t' = t
    · subst q
      dsimp only
      rw [if_pos rfl, if_pos rfl, if_pos (by omega)]
      rw [if_neg (by omega)] at ho
      have hck := hT0.ck eN'
      have hR := zgA_R (zck s t') t' (Z t') (M t') hz
      obtain ⟨⟨a1, a2, a3, a4, a5, a6, a7⟩, c', d', e', -⟩ := hck
      have hag := zBk.again d' hz hm (by rw [zck_ne (by decide) (by decide)]; exact eN') hR
      have nA : ∀ {x : zA} {j : Nat}, x ≠ (33, 0, 0) → x ≠ (41, 0, 0) → x ≠ (37, 0, 0) → zAg s t' (M t') (Z t') x j = zck s t' x j := fun h1 h2 h3 => by
        unfold zAg
        rw [zup_nk h1, zgA_ne h2 h3]
      have nF : ∀ j, j ≠ 7 → zup f' (3, t', 0) 7 (f (3, t', 0) 7 + nI ((l t').foldl (zgu (l t') (nI N - nI 2)) (α t', 0)).2) (3, t', 0) j = zckC f t' (nI N) (3, t', 0) j := fun j hj => by
        rw [zup_ne (fun w => hj w.2)]; exact hf3 j
      refine ⟨⟨⟨?_, ?_, ?_, ?_, ?_, ?_, ?_⟩, c'.cg (fun j => nA (by decide) (by decide) (by decide)) (fun j => nA (by decide) (by decide) (by decide)), hag.1.cg (fun i _ => ?_) (fun i _ => ?_) (fun i _ => ?_), ⟨?_, ?_⟩, w2.off (show ¬ (3 = 4 ∨ 3 = 5 ∨ 3 = 6) by decide)⟩, ?_⟩
      · rw [nF _ (by decide), nA (by decide) (by decide) (by decide)]; exact a1
      · rw [nF _ (by decide), nA (by decide) (by decide) (by decide)]; exact a2
      · rw [nF _ (by decide), nA (by decide) (by decide) (by decide)]; exact a3
      · rw [nF _ (by decide), nA (by decide) (by decide) (by decide)]; exact a4
      · rw [nF _ (by decide), nA (by decide) (by decide) (by decide), nA (by decide) (by decide) (by decide)]; exact a5
      · rw [nF _ (by decide), nA (by decide) (by decide) (by decide)]; exact a6
      · rw [zup_eq]
        unfold zAg
        rw [zup_nk (by decide), hR.2.2.2.2, hag.2]
        have := a7
        rw [zckC_ne (Or.inr ⟨by decide, by decide⟩)] at this
        rw [this]
      · unfold zAg; rw [zup_nk (by decide)]
      · unfold zAg; rw [zup_nk (by decide)]
      · unfold zAg; rw [zup_nk (by decide)]
      · rw [nA (by decide) (by decide) (by decide)]; exact e'.1
      · rw [nA (by decide) (by decide) (by decide), nA (by decide) (by decide) (by decide)]; exact e'.2
      · rw [nF _ (by decide), nF _ (by decide), zckC_ne (Or.inr ⟨by decide, by decide⟩), zckC_ne (Or.inr ⟨by decide, by decide⟩)]
        unfold zAg
        rw [zup_eq, ho, hT0.1.2.2.1]
    · dsimp only
      rw [if_neg q, if_neg q]
      obtain ⟨b1, b2⟩ := zAg_sb (M := M) (Z := Z) (s := s) q hz hm
      have nf : ∀ a k, a.2.1 = t' → zup f' (3, t, 0) 7 (f (3, t, 0) 7 + nI ((l t).foldl (zgu (l t) (nI N - nI 2)) (α t, 0)).2) a k = f a k := fun a k h1 => by
        have hne : a ≠ (3, t, 0) := fun w => q (by rw [← h1, w])
        rw [zup_nk hne, w1 a k (fun w => q (h1.symm.trans w.1)), zckC_ne (Or.inl hne)]
      refine ⟨hT0.cg (fun a k h1 _ => nf a k h1) b1, ?_⟩
      rw [nf _ _ rfl, nf _ _ rfl, b2]
      by_cases q2 : t' < t
      · rw [if_pos (by omega)]
        rw [if_pos q2] at ho
        exact ho
      · rw [if_neg (by omega)]
        rw [if_neg q2] at ho
        exact ho
/-- drifted: class and reference agree again -/
theorem zdrifted {f0 f f' : zM} (h : zP2 f0 N M Z 5 f) (hd : ∀ x k, f' x k = if x.1 = 3 ∧ 0 ≤ x.2.1 ∧ x.2.1 < 5 ∧ x.2.2 = 0 ∧ k = 2 then f x 2 + f x 3 else f x k) : ∃ (l : Nat → List Nat) (α : Nat → zAt), zF12 f0 f' ∧ ∀ σ, zEq f0 σ → ∀ t, t < 5 → zT1 f' (zAgN (zLiN σ (N % 2) 5) M Z 5) N t (l t) (α t) (M t) (Z t) := by
  obtain ⟨l, α, hF, hT⟩ := h
  refine ⟨l, α, fun x j hx => ?_, fun σ hσ t ht => ?_⟩
  · rw [hd, if_neg (fun w => hx (Or.inl w.1))]; exact hF x j hx
  · obtain ⟨a, b⟩ := hT σ hσ t ht
    rw [if_pos ht] at b
    refine (a.cg (f' := f') (s' := zAgN (zLiN σ (N % 2) 5) M Z 5) (fun x k h1 h2 => ?_) ⟨fun _ _ _ _ => rfl, fun _ _ => ⟨rfl, rfl, rfl⟩, fun _ _ => rfl⟩).t1 ?_
    · rw [hd, if_neg]
      rintro ⟨w1, -, -, -, w2⟩
      rcases h2 with h2 | h2
      · exact h2.2 w2
      · omega
    · show f' (3, t, 0) 2 = _
      rw [hd, if_pos ⟨rfl, by show 0 ≤ t; omega, ht, rfl, rfl⟩]
      exact b
end S2
