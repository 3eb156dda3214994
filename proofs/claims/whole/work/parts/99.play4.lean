/-! A superframe's upkeep: the loops of what was told, of the times -/
def zEq (f0 σ : zM) : Prop := ∀ x j, 30 ≤ x.1 → ¬ (x = (30, 0, 0) ∧ j = 0) → σ x j = f0 x j
def zF12 (f0 f : zM) : Prop := ∀ x j, ¬ (x.1 = 3 ∨ x.1 = 4 ∨ x.1 = 5 ∨ x.1 = 6) → f x j = f0 x j
/-- terminal t but for its offset -/
def zT0 (f s : zM) (N t : Nat) (l : List Nat) (α : zAt) (m : Nat) (z : Nat → Nat) : Prop := zRs f s t ∧ zSz s t m z ∧ zBk s t l α m z ∧ zLv s N t ∧ zBR f t l α (nI m)
theorem zT1.t0 {f s : zM} {N t m : Nat} {l : List Nat} {α : zAt} {z : Nat → Nat} (h : zT1 f s N t l α m z) : zT0 f s N t l α m z := ⟨h.1, h.2.2.1, h.2.2.2.1, h.2.2.2.2.1, h.2.2.2.2.2⟩
theorem zT0.t1 {f s : zM} {N t m : Nat} {l : List Nat} {α : zAt} {z : Nat → Nat} (h : zT0 f s N t l α m z) (h2 : zRo f s t) : zT1 f s N t l α m z := ⟨h.1, h2, h.2.1, h.2.2.1, h.2.2.2.1, h.2.2.2.2⟩
def zSb (s s' : zM) (t : Nat) : Prop := (∀ κ, 31 ≤ κ → κ ≤ 39 → κ ≠ 33 → s' (κ, 0, 0) t = s (κ, 0, 0) t) ∧ (∀ i, i < 366 → s' (41, 0, 0) (366 * t + i) = s (41, 0, 0) (366 * t + i) ∧ s' (42, 0, 0) (366 * t + i) = s (42, 0, 0) (366 * t + i) ∧ s' (43, 0, 0) (366 * t + i) = s (43, 0, 0) (366 * t + i)) ∧ ∀ d, d ≤ 60 → s' (40, 0, 0) (61 * t + d) = s (40, 0, 0) (61 * t + d)
theorem zT0.cg {f f' s s' : zM} {N t m : Nat} {l : List Nat} {α : zAt} {z : Nat → Nat} (h : zT0 f s N t l α m z) (hf : ∀ a k, a.2.1 = t → ((a.1 = 3 ∧ k ≠ 2) ∨ a.1 = 4 ∨ a.1 = 5 ∨ a.1 = 6) → f' a k = f a k) (hs : zSb s s' t) : zT0 f' s' N t l α m z := by
  obtain ⟨⟨a1, a2, a3, a4, a5, a6, a7⟩, c, d, e, g⟩ := h
  obtain ⟨s1, s2, s3⟩ := hs
  have h3 : ∀ k, k ≠ 2 → f' (3, t, 0) k = f (3, t, 0) k := fun k hk => hf _ _ rfl (Or.inl ⟨rfl, hk⟩)
  refine ⟨⟨?_, ?_, ?_, ?_, ?_, ?_, ?_⟩, c.cg' (s1 36 (by omega) (by omega) (by omega)) s3, d.cg (fun i hi => (s2 i hi).1) (fun i hi => (s2 i hi).2.1) (fun i hi => (s2 i hi).2.2), ?_, g.fr (fun a k h1 h2 => hf a k h1 (Or.inr h2))⟩
  · rw [h3 _ (by omega), s1 38 (by omega) (by omega) (by omega)]; exact a1
  · rw [h3 _ (by omega), s1 39 (by omega) (by omega) (by omega)]; exact a2
  · rw [h3 _ (by omega), s1 34 (by omega) (by omega) (by omega)]; exact a3
  · rw [h3 _ (by omega), s1 31 (by omega) (by omega) (by omega)]; exact a4
  · rw [h3 _ (by omega), s1 31 (by omega) (by omega) (by omega), s1 32 (by omega) (by omega) (by omega)]; exact a5
  · rw [h3 _ (by omega), s1 35 (by omega) (by omega) (by omega)]; exact a6
  · rw [h3 _ (by omega), s1 37 (by omega) (by omega) (by omega)]; exact a7
  · unfold zLv
    rw [s1 31 (by omega) (by omega) (by omega), s1 32 (by omega) (by omega) (by omega)]; exact e
theorem zRR.cg {f f' : zM} {t p : Nat} {rl : List (Int32 × Int32)} (h : zRR f t p rl) (h1 : ∀ x k, x.1 = 10 ∨ x.1 = 11 ∨ x.1 = 12 → f' x k = f x k) : zRR f' t p rl := ⟨(h1 _ _ (Or.inl rfl)).trans h.1, h.2.1, fun i hi => ⟨(h1 _ _ (Or.inr (Or.inl rfl))).trans (h.2.2 i hi).1, (h1 _ _ (Or.inr (Or.inr rfl))).trans (h.2.2 i hi).2⟩⟩
section S1L
variable {M : Nat → Nat} {Z : Nat → Nat → Nat} {N : Nat}
theorem zHc.cg {s s' : zM} (h : zHc s M Z) (h1 : ∀ j, s' (56, 0, 0) j = s (56, 0, 0) j) (h2 : ∀ j, s' (57, 0, 0) j = s (57, 0, 0) j) : zHc s' M Z := fun p k a b => by
  rw [h2, h1]; exact h p k a b
theorem zNm.cg {s s' : zM} {t p : Nat} {rl : List (Int32 × Int32)} (h : zNm s t p rl) (h1 : ∀ j, s' (56, 0, 0) j = s (56, 0, 0) j) (h2 : ∀ j, s' (57, 0, 0) j = s (57, 0, 0) j) : zNm s' t p rl := fun x => by
  rw [h x]
  simp only [h1, h2]
theorem zLi_sa {s : zM} {t t' p : Nat} (hp : p < 2) (ht : t < 5) (hne : t' ≠ t) (hc : zHc s M Z) : zSa s (zLi s t p) t' := by
  have ne : ∀ {x : zA} {j : Nat}, x ≠ (31, 0, 0) → x ≠ (35, 0, 0) → x ≠ (33, 0, 0) → x ≠ (41, 0, 0) → zLi s t p x j = s x j := fun a b c d => zLi_ne a b c d
  have hk : ∀ κ : Nat, κ ≠ 41 → zLi s t p (κ, 0, 0) t' = s (κ, 0, 0) t' := fun κ h41 => by
    have h41 : ((κ, 0, 0) : zA) ≠ (41, 0, 0) := fun w => h41 (congrArg Prod.fst w)
    have e1 : zli1 s t p (κ, 0, 0) t' = s (κ, 0, 0) t' := by
      unfold zli1
      split
      · rw [zup_ne (fun w => hne w.2), zup_ne (fun w => hne w.2)]
      · rfl
    unfold zLi
    split
    · rw [zli3_ne h41]
      unfold zli2
      split
      · rw [zup_ne (fun w => hne w.2), zup_ne (fun w => hne w.2)]; exact e1
      · exact e1
    · exact e1
  refine ⟨fun κ h1 h2 => hk κ (by omega), fun i hi => ⟨?_, ne (by decide) (by decide) (by decide) (by decide), ne (by decide) (by decide) (by decide) (by decide)⟩, fun d _ => ne (by decide) (by decide) (by decide) (by decide)⟩
  unfold zLi
  split
  · rw [zli3_n 29, zli2_ne (by decide) (by decide), zli1_ne (by decide) (by decide)]
    rintro ⟨k, k1, k2, h3, h4, h5⟩
    rw [zli2_ne (by decide) (by decide), zli1_ne (by decide) (by decide)] at h3 h4 h5
    rcases hc p k hp (by omega) with w | ⟨w, -⟩ | ⟨t2, i2, ht2, hi2, w1, w2, -⟩
    · rw [w] at h4; exact absurd (by decide) h4
    · rw [w] at h3; exact absurd h3.symm (zK1 (by omega))
    · rw [w1] at h3
      have : t2 = t := (nI_eq (by omega) (by omega)).mp h3
      subst this
      rw [w2, nI_clamp (by omega)] at h5
      omega
  · rw [zli1_ne (by decide) (by decide)]
theorem p_stage1 {sc : zC} {c s : Nat} {g : zW} {K : zR → Prop} {f0 : zM} {l0 : Nat → List Nat} {α0 : Nat → zAt} (h0 : ∀ σ, zEq f0 σ → ∀ t, t < 5 → zT1 f0 σ N t (l0 t) (α0 t) (M t) (Z t)) (hN : f0 (30, 0, 0) 1 = nI N) (hP : ∀ t, t < 5 → zRP f0 f0 t (N % 2)) (hc : zHc f0 M Z)
    (hK : ∀ f (l : Nat → List Nat) (α : Nat → zAt), zF12 f0 f → (∀ σ, zEq f0 σ → ∀ t, t < 5 → zT1 f (zLiN σ (N % 2) 5) N t (l t) (α t) (M t) (Z t)) → K (.inl none, zN c s f g)) : zT sc 20 0 true [zsu, some (.inl (nI N))] [] (zN c s f0 g) K := by
  have hp : N % 2 < 2 := Nat.mod_lt _ (by decide)
  have hEq : ∀ σ, zEq f0 σ → ∀ n {x : zA} {j : Nat}, x ≠ (31, 0, 0) → x ≠ (35, 0, 0) → x ≠ (33, 0, 0) → x ≠ (41, 0, 0) → 30 ≤ x.1 → ¬ (x = (30, 0, 0) ∧ j = 0) → zLiN σ (N % 2) n x j = f0 x j := fun σ hσ n x j a b c d e g => (zLiN_ne a b c d n).trans (hσ x j e g)
  refine p_takeAll (P := fun t f => ∃ (l : Nat → List Nat) (α : Nat → zAt), zF12 f0 f ∧ ∀ σ, zEq f0 σ → ∀ t', t' < 5 → zT1 f (zLiN σ (N % 2) t) N t' (l t') (α t') (M t') (Z t')) (fun t f ht hPt => ?_) ⟨l0, α0, fun _ _ _ => rfl, h0⟩ (fun f' hP5 => ?_)
  · obtain ⟨l, α, hF, hT⟩ := hPt
    obtain ⟨q0, q1, q2, rl, q3, q4⟩ := hP t ht
    have hrr : zRR f t (N % 2) rl := q3.cg (fun x k hx => hF x k (by omega))
    have e0 : ∀ σ, zEq f0 σ → f (10, t, N % 2) 0 = zLiN σ (N % 2) t (54, 0, 0) (5 * (N % 2) + t) := fun σ hσ => by
      rw [hF _ _ (by show ¬ (10 = 3 ∨ 10 = 4 ∨ 10 = 5 ∨ 10 = 6); decide), hEq σ hσ t (by decide) (by decide) (by decide) (by decide) (by decide) (by rintro ⟨w, -⟩; cases w)]; exact q0
    have e1 : ∀ σ, zEq f0 σ → f (10, t, N % 2) 1 = zLiN σ (N % 2) t (52, 0, 0) (5 * (N % 2) + t) := fun σ hσ => by
      rw [hF _ _ (by show ¬ (10 = 3 ∨ 10 = 4 ∨ 10 = 5 ∨ 10 = 6); decide), hEq σ hσ t (by decide) (by decide) (by decide) (by decide) (by decide) (by rintro ⟨w, -⟩; cases w)]; exact q1
    have e2 : ∀ σ, zEq f0 σ → f (10, t, N % 2) 2 = (if zLiN σ (N % 2) t (52, 0, 0) (5 * (N % 2) + t) = 0 then nI 0 else zLiN σ (N % 2) t (53, 0, 0) (5 * (N % 2) + t)) := fun σ hσ => by
      rw [hF _ _ (by show ¬ (10 = 3 ∨ 10 = 4 ∨ 10 = 5 ∨ 10 = 6); decide), hEq σ hσ t (by decide) (by decide) (by decide) (by decide) (by decide) (by rintro ⟨w, -⟩; cases w), hEq σ hσ t (by decide) (by decide) (by decide) (by decide) (by decide) (by rintro ⟨w, -⟩; cases w)]; exact q2
    have eN : ∀ σ, zEq f0 σ → zLiN σ (N % 2) t (30, 0, 0) 1 = nI N := fun σ hσ => by
      rw [hEq σ hσ t (by decide) (by decide) (by decide) (by decide) (by decide) (by decide)]; exact hN
    have e56 : ∀ σ, zEq f0 σ → ∀ j, zLiN σ (N % 2) t (56, 0, 0) j = f0 (56, 0, 0) j := fun σ hσ j => hEq σ hσ t (by decide) (by decide) (by decide) (by decide) (by decide) (by rintro ⟨w, -⟩; cases w)
    have e57 : ∀ σ, zEq f0 σ → ∀ j, zLiN σ (N % 2) t (57, 0, 0) j = f0 (57, 0, 0) j := fun σ hσ j => hEq σ hσ t (by decide) (by decide) (by decide) (by decide) (by decide) (by rintro ⟨w, -⟩; cases w)
    have eL : ∀ σ, zLiN σ (N % 2) (t + 1) = zLi (zLiN σ (N % 2) t) t (N % 2) := fun σ => rfl
    have k1 : ∀ σ, zEq f0 σ → zT1 (ztk1 f t (N % 2) (nI N)) (zli1 (zLiN σ (N % 2) t) t (N % 2)) N t (l t) (α t) (M t) (Z t) := fun σ hσ => (hT σ hσ t ht).k1 (e0 σ hσ) (eN σ hσ)
    refine ⟨l t, α t, nI (M t), rl, (hT f0 (fun _ _ _ _ => rfl) t ht).2.2.2.2.2, hrr, fun hno => ?_, fun hyes f' w1 w2 => ?_⟩
    · refine ⟨l, α, fun x j hx => ?_, fun σ hσ t' ht' => ?_⟩
      · rw [ztk1_ne (fun w => hx (by rw [w]; exact Or.inl rfl))]; exact hF x j hx
      · rw [eL]
        by_cases q : t' = t
        · subst q
          have e4 := (k1 σ hσ).1.2.2.2.1
          unfold zLi
          rw [if_neg (by rw [← e4]; exact hno)]
          exact k1 σ hσ
        · exact (hT σ hσ t' ht').cg (fun a k h1 h2 => ztk1_ne (fun w => q (by rw [← h1, w]))) (zLi_sa hp ht q (hc.cg (e56 σ hσ) (e57 σ hσ)))
    · refine ⟨fun x => if x = t then (l t).filter (zal0 ((l t).foldl (zdr rl) (α t))) else l x, fun x => if x = t then (l t).foldl (zdr rl) (α t) else α x, fun x j hx => ?_, fun σ hσ t' ht' => ?_⟩
      · rw [w1 x j (fun w => hx (Or.inr w.2)), ztk2_ne (fun w => hx (by rw [w]; exact Or.inl rfl)), ztk1_ne (fun w => hx (by rw [w]; exact Or.inl rfl))]; exact hF x j hx
      · rw [eL]
        by_cases q : t' = t
        · subst q
          dsimp only
          rw [if_pos rfl, if_pos rfl]
          have e4 := (k1 σ hσ).1.2.2.2.1
          unfold zLi
          rw [if_pos (by rw [← e4]; exact hyes)]
          have k2 := (k1 σ hσ).k2 (p := N % 2) (by rw [ztk1_ne (fun w => by cases w), zli1_ne (by decide) (by decide)]; exact e1 σ hσ) (by rw [ztk1_ne (fun w => by cases w), zli1_ne (by decide) (by decide), zli1_ne (by decide) (by decide)]; exact e2 σ hσ) (by rw [zli1_ne (by decide) (by decide)]; exact eN σ hσ)
          refine k2.k3 hp ht (rl := rl) (q4.cg (fun j => ?_) (fun j => ?_)) (hc.cg (fun j => ?_) (fun j => ?_)) (fun j => w1 _ _ (by rintro ⟨-, w⟩; omega)) w2
          · rw [zli2_ne (by decide) (by decide), zli1_ne (by decide) (by decide)]; exact e56 σ hσ j
          · rw [zli2_ne (by decide) (by decide), zli1_ne (by decide) (by decide)]; exact e57 σ hσ j
          · rw [zli2_ne (by decide) (by decide), zli1_ne (by decide) (by decide)]; exact e56 σ hσ j
          · rw [zli2_ne (by decide) (by decide), zli1_ne (by decide) (by decide)]; exact e57 σ hσ j
        · dsimp only
          rw [if_neg q, if_neg q]
          refine (hT σ hσ t' ht').cg (fun a k h1 h2 => ?_) (zLi_sa hp ht q (hc.cg (e56 σ hσ) (e57 σ hσ)))
          rw [w1 a k (fun w => q (h1.symm.trans w.1)), ztk2_ne (fun w => q (by rw [← h1, w])), ztk1_ne (fun w => q (by rw [← h1, w]))]
  · obtain ⟨l, α, hF, hT⟩ := hP5
    exact hK f' l α hF hT
end S1L
