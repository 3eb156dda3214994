/-! A superframe's upkeep: the bursts -/
def zF3 (f0 f : zM) : Prop := ∀ x j, ¬ (x.1 = 3 ∨ x.1 = 4 ∨ x.1 = 5 ∨ x.1 = 6 ∨ x.1 = 19) → ¬ (x = (0, 0, 0) ∧ j = 7) → f x j = f0 x j
/-- a burst in a place, by both -/
def zBj (f s : zM) (p j : Nat) (M : Nat → Nat) (Z : Nat → Nat → Nat) : Prop := (f (19, j, 0) 0 = zK (-1) ∧ s (59, 0, 0) j = zK (-1)) ∨ ∃ t, t < 5 ∧ f (19, j, 0) 0 = nI t ∧ s (59, 0, 0) j = nI t ∧ f (19, j, 0) 1 = s (61, 0, 0) j ∧ f (19, j, 0) 2 = s (62, 0, 0) j ∧ zCe f s t j (M t) (Z t) ∧ s (55, 0, 0) (30 * p + j) = nI t
def zB3 (f s : zM) (p k u : Nat) (M : Nat → Nat) (Z : Nat → Nat → Nat) : Prop := f (0, 0, 0) 7 = s (30, 0, 0) 35 ∧ f (19, 0, 0) 0 = s (59, 0, 0) 0 ∧ (∃ A, s (30, 0, 0) 35 = nI A ∧ u = A + zse s k) ∧ ∀ j, 1 ≤ j → j ≤ k → zBj f s p j M Z
def zS2 (σ : zM) (N : Nat) (M : Nat → Nat) (Z : Nat → Nat → Nat) : zM := zAgN (zLiN σ (N % 2) 5) M Z 5
def zS3 (σ : zM) (N : Nat) (M : Nat → Nat) (Z : Nat → Nat → Nat) : zM := zdq (zS2 σ N M Z) ((List.range' 0 5).foldl (zdm (zS2 σ N M Z)) (none, 0))
def zP3 (f0 : zM) (N : Nat) (M : Nat → Nat) (Z : Nat → Nat → Nat) (k u : Nat) (f : zM) : Prop := ∃ (l : Nat → List Nat) (α : Nat → zAt), zF3 f0 f ∧ (∀ t, t < 5 → zBR f t (l t) (α t) (nI (M t))) ∧ ∀ σ, zEq f0 σ → ∀ s, zBuN M Z (zS3 σ N M Z) (N % 2) k s → (∀ t, t < 5 → zT1 f s N t (l t) (α t) (M t) (Z t)) ∧ zB3 f s (N % 2) k u M Z
theorem zBj.cg {f f' s s' : zM} {p j : Nat} {M : Nat → Nat} {Z : Nat → Nat → Nat} (h : zBj f s p j M Z) (hf : ∀ k, f' (19, j, 0) k = f (19, j, 0) k) (h1 : s' (59, 0, 0) j = s (59, 0, 0) j) (h2 : s' (60, 0, 0) j = s (60, 0, 0) j) (h3 : s' (61, 0, 0) j = s (61, 0, 0) j) (h4 : s' (62, 0, 0) j = s (62, 0, 0) j) (h5 : s' (55, 0, 0) (30 * p + j) = s (55, 0, 0) (30 * p + j)) : zBj f' s' p j M Z := by
  unfold zBj zCe at *
  simp only [hf, h1, h2, h3, h4, h5]
  exact h
theorem zdo_m {f s : zM} (h : ∀ t, t < 5 → zRs f s t) (w : Option Nat × Nat) : (List.range' 0 5).foldl (zdo f) w = (List.range' 0 5).foldl (zdm s) w := by
  have e : ∀ t, t < 5 → ∀ w, zdo f w t = zdm s w t := fun t ht w => by
    obtain ⟨-, -, -, a4, a5, -, -⟩ := h t ht
    unfold zdo zdm zask zaq
    rw [a4]
    by_cases q : s (31, 0, 0) t = nI 1
    · rw [a5 q]
    · rw [decide_eq_false q]; rfl
  show zdo f (zdo f (zdo f (zdo f (zdo f w 0) 1) 2) 3) 4 = zdm s (zdm s (zdm s (zdm s (zdm s w 0) 1) 2) 3) 4
  rw [e 0 (by omega), e 1 (by omega), e 2 (by omega), e 3 (by omega), e 4 (by omega)]
theorem zSa.rf {s s' : zM} {t : Nat} (h : ∀ κ j, 31 ≤ κ → κ ≤ 43 → s' (κ, 0, 0) j = s (κ, 0, 0) j) : zSa s s' t := ⟨fun κ a b => h κ t a (by omega), fun i _ => ⟨h 41 _ (by omega) (by omega), h 42 _ (by omega) (by omega), h 43 _ (by omega) (by omega)⟩, fun d _ => h 40 _ (by omega) (by omega)⟩
section S3
variable {M : Nat → Nat} {Z : Nat → Nat → Nat} {N : Nat} {f0 : zM}
theorem zS2_ne {σ : zM} {x : zA} {j : Nat} (h1 : x ≠ (31, 0, 0)) (h2 : x ≠ (32, 0, 0)) (h3 : x ≠ (33, 0, 0)) (h4 : x ≠ (41, 0, 0)) (h5 : x ≠ (37, 0, 0)) (h6 : x ≠ (35, 0, 0)) : zS2 σ N M Z x j = σ x j := (zAgN_ne h1 h2 h3 h4 h5 5).trans (zLiN_ne h1 h6 h3 h4 5)
theorem zS3_ne {σ : zM} {x : zA} {j : Nat} (h0 : x ≠ (30, 0, 0)) (h1 : x ≠ (31, 0, 0)) (h2 : x ≠ (32, 0, 0)) (h3 : x ≠ (33, 0, 0)) (h4 : x ≠ (41, 0, 0)) (h5 : x ≠ (37, 0, 0)) (h6 : x ≠ (35, 0, 0)) (h7 : x ≠ (59, 0, 0)) : zS3 σ N M Z x j = σ x j := (zdq_ne h0 h7).trans (zS2_ne h1 h2 h3 h4 h5 h6)
theorem zP3_0 {f : zM} (h : ∃ (l : Nat → List Nat) (α : Nat → zAt), zF12 f0 f ∧ ∀ σ, zEq f0 σ → ∀ t, t < 5 → zT1 f (zAgN (zLiN σ (N % 2) 5) M Z 5) N t (l t) (α t) (M t) (Z t)) : zP3 f0 N M Z 0 ((List.range' 0 5).foldl (zdo f) (none, 0)).2 (zdh f ((List.range' 0 5).foldl (zdo f) (none, 0))) := by
  obtain ⟨l, α, hF, hT⟩ := h
  have nd : ∀ {w : Option Nat × Nat} {x : zA} {j : Nat}, x ≠ (0, 0, 0) → x ≠ (19, 0, 0) → zdh f w x j = f x j := fun h1 h2 => (zup_nk h2).trans (zup_nk h1)
  refine ⟨l, α, fun x j hx hj => ?_, fun t ht => ?_, fun σ hσ s hs => ?_⟩
  · have h19 : x ≠ (19, 0, 0) := fun w => hx (by rw [w]; simp)
    unfold zdh
    rw [zup_nk h19, zup_ne hj]
    exact hF x j (fun w => hx (by omega))
  · exact (hT f0 (fun _ _ _ _ => rfl) t ht).2.2.2.2.2.fr (fun a k h1 h2 => nd (fun w => by rw [w] at h2; simp at h2) (fun w => by rw [w] at h2; simp at h2))
  · have hs : s = zS3 σ N M Z := hs
    subst hs
    have hT := hT σ hσ
    have hT : ∀ t, t < 5 → zT1 f (zS2 σ N M Z) N t (l t) (α t) (M t) (Z t) := hT
    have ew := zdo_m (f := f) (s := zS2 σ N M Z) (fun t ht => (hT t ht).1) (none, 0)
    refine ⟨fun t ht => (hT t ht).cg (fun a k h1 h2 => nd (fun w => by rw [w] at h2; simp at h2) (fun w => by rw [w] at h2; simp at h2)) (zSa.rf (fun κ j a b => ?_)), ?_, ?_, ⟨((List.range' 0 5).foldl (zdm (zS2 σ N M Z)) (none, 0)).2, ?_, ?_⟩, fun j a b => by omega⟩
    · unfold zS3
      rw [zdq_ne (fun w => by have := congrArg Prod.fst w; simp at this; omega) (fun w => by have := congrArg Prod.fst w; simp at this; omega)]
    · unfold zS3 zdh zdq
      rw [zup_nk (by decide), zup_eq, zup_nk (by decide), zup_eq, ew]
    · unfold zS3 zdh zdq
      rw [zup_eq, zup_eq, ew]
    · unfold zS3 zdq
      rw [zup_nk (by decide), zup_eq]
    · rw [ew]; rfl
/-- no burst in a place -/
theorem zP3_no {f : zM} {k u : Nat} (h : zP3 f0 N M Z k u f) (hno : ∀ σ, zEq f0 σ → ∀ s, zBuN M Z (zS3 σ N M Z) (N % 2) k s → ∀ t, t < 5 → s (55, 0, 0) (30 * (N % 2) + (k + 1)) = nI t → ¬ s (31, 0, 0) t = nI 3) : zP3 f0 N M Z (k + 1) u (zup f (19, k + 1, 0) 0 (zK (-1))) := by
  obtain ⟨l, α, hF, hB, hT⟩ := h
  have nf : ∀ {x : zA} {j : Nat}, x ≠ (19, k + 1, 0) → zup f (19, k + 1, 0) 0 (zK (-1)) x j = f x j := fun h => zup_nk h
  refine ⟨l, α, fun x j hx hj => ?_, fun t ht => (hB t ht).off (show ¬ (19 = 4 ∨ 19 = 5 ∨ 19 = 6) by decide), fun σ hσ s' hs' => ?_⟩
  · rw [nf (fun w => hx (by rw [w]; simp))]; exact hF x j hx hj
  · obtain ⟨s, hs, hst⟩ := hs'
    obtain ⟨hT1, b1, b2, ⟨A, b3, b4⟩, b5⟩ := hT σ hσ s hs
    have es : s' = zup s (59, 0, 0) (k + 1) (zK (-1)) := by
      rcases hst with ⟨t, ht, w1, w2, -⟩ | ⟨-, w⟩
      · exact absurd w2 (hno σ hσ s hs t ht w1)
      · exact w
    subst es
    have ns : ∀ {x : zA} {j : Nat}, x ≠ (59, 0, 0) → zup s (59, 0, 0) (k + 1) (zK (-1)) x j = s x j := fun h => zup_nk h
    have e59 : ∀ j, j ≠ k + 1 → zup s (59, 0, 0) (k + 1) (zK (-1)) (59, 0, 0) j = s (59, 0, 0) j := fun j hj => zup_ne (fun w => hj w.2)
    have ese : ∀ n, n ≤ k → zse (zup s (59, 0, 0) (k + 1) (zK (-1))) n = zse s n := fun n => by
      induction n with
      | zero => exact fun _ => rfl
      | succ n ih =>
        intro hn
        unfold zse
        rw [ih (by omega), e59 (n + 1) (by omega)]
    refine ⟨fun t ht => (hT1 t ht).cg (fun a k' h1 h2 => nf (fun w => by rw [w] at h2; simp at h2)) (zSa.rf (fun κ j a b => ns (fun w => by have := congrArg Prod.fst w; simp at this; omega))), ?_, ?_, ⟨A, ?_, ?_⟩, fun j j1 j2 => ?_⟩
    · rw [nf (fun w => by cases w), ns (by decide)]; exact b1
    · rw [nf (fun w => by have := congrArg (fun x => x.2.1) w; simp at this), e59 0 (by omega)]; exact b2
    · rw [ns (by decide)]; exact b3
    · unfold zse
      rw [ese k (Nat.le_refl _), zup_eq, if_pos (by decide), Nat.add_zero]; exact b4
    · by_cases q : j = k + 1
      · subst q
        exact Or.inl ⟨zup_eq, zup_eq⟩
      · exact (b5 j j1 (by omega)).cg (fun i => nf (fun w => q (by have := congrArg (fun x => x.2.1) w; simpa using this))) (e59 j q) (ns (by decide)) (ns (by decide)) (ns (by decide)) (ns (by decide))
theorem zFb.ne {t : Nat} {b : zA} {f f' : zM} (h : zFb t b f f') {x : zA} {j : Nat} (h1 : ¬ (x.1 = 4 ∨ x.1 = 5 ∨ x.1 = 6)) (h2 : x ≠ b) : f' x j = f x j := h x j (fun w => h1 w.2) h2
/-- what loading leaves -/
theorem zLd.out {f f' : zM} {t q : Nat} {k md : Int32} {l : List Nat} {α α' : zAt} (hB : zBR f t l α md) (h : zLd f t q k l α md f' α') : zBR f' t l α' md ∧ (∀ x j, ¬ (x.2.1 = t ∧ (x.1 = 4 ∨ x.1 = 5 ∨ x.1 = 6)) → x ≠ (19, q, 0) → f' x j = f x j) ∧ f' (19, q, 0) 0 = f (19, q, 0) 0 ∧ f' (19, q, 0) 1 = nI (l.length - zcu α' l) ∧ f' (19, q, 0) 2 = zbs0 α' l md := by
  rcases h with ⟨-, rfl, rfl⟩ | ⟨x, f2, -, hF, e0, -, -, -, hB2, rfl, rfl⟩
  · refine ⟨((hB.off (show ¬ (19 = 4 ∨ 19 = 5 ∨ 19 = 6) by decide)).off (show ¬ (19 = 4 ∨ 19 = 5 ∨ 19 = 6) by decide)).off (show ¬ (19 = 4 ∨ 19 = 5 ∨ 19 = 6) by decide), fun x j _ h2 => ?_, ?_, ?_, zup_eq⟩
    · rw [zup_nk h2, zup_nk h2, zup_nk h2]
    · rw [zup_ne (fun w => absurd w.2 (by decide)), zup_ne (fun w => absurd w.2 (by decide)), zup_ne (fun w => absurd w.2 (by decide))]
    · rw [zup_ne (fun w => absurd w.2 (by decide)), zup_eq]
  · refine ⟨(hB2.off (show ¬ (19 = 4 ∨ 19 = 5 ∨ 19 = 6) by decide)).off (show ¬ (19 = 4 ∨ 19 = 5 ∨ 19 = 6) by decide), fun y j h1 h2 => ?_, ?_, ?_, zup_eq⟩
    · rw [zup_nk h2, zup_nk h2]; exact hF y j h1 h2
    · rw [zup_ne (fun w => absurd w.2 (by decide)), zup_ne (fun w => absurd w.2 (by decide))]; exact e0
    · rw [zup_ne (fun w => absurd w.2 (by decide)), zup_eq]
/-- a burst in a place -/
theorem zP3_yes {f f' : zM} {k u t : Nat} {l : Nat → List Nat} {α : Nat → zAt} {α' : zAt} (hk : k < 29) (ht : t < 5) (hF : zF3 f0 f) (hB : ∀ t, t < 5 → zBR f t (l t) (α t) (nI (M t))) (hT : ∀ σ, zEq f0 σ → ∀ s, zBuN M Z (zS3 σ N M Z) (N % 2) k s → (∀ t, t < 5 → zT1 f s N t (l t) (α t) (M t) (Z t)) ∧ zB3 f s (N % 2) k u M Z) (hst : f (3, t, 0) 4 = nI 3) (hp : ∀ σ, zEq f0 σ → ∀ s, zBuN M Z (zS3 σ N M Z) (N % 2) k s → s (55, 0, 0) (30 * (N % 2) + (k + 1)) = nI t ∧ s (30, 0, 0) 1 = nI N) (hL : zLd (zup f (19, k + 1, 0) 0 (nI t)) t (k + 1) (nI N) (l t) (α t) (nI (M t)) f' α') : zP3 f0 N M Z (k + 1) (u + 1) f' := by
  have hB' : zBR (zup f (19, k + 1, 0) 0 (nI t)) t (l t) (α t) (nI (M t)) := (hB t ht).off (show ¬ (19 = 4 ∨ 19 = 5 ∨ 19 = 6) by decide)
  obtain ⟨o1, o2, o3, o4, o5⟩ := hL.out hB'
  rw [zup_eq] at o3
  have nf : ∀ {x : zA} {j : Nat}, ¬ (x.2.1 = t ∧ (x.1 = 4 ∨ x.1 = 5 ∨ x.1 = 6)) → x ≠ (19, k + 1, 0) → f' x j = f x j := fun h1 h2 => (o2 _ _ h1 h2).trans (zup_nk h2)
  refine ⟨l, fun x => if x = t then α' else α x, fun x j hx hj => ?_, fun t' ht' => ?_, fun σ hσ s' hs' => ?_⟩
  · rw [nf (fun w => hx (by omega)) (fun w => hx (by rw [w]; simp))]; exact hF x j hx hj
  · dsimp only
    by_cases q : t' = t
    · subst q
      rw [if_pos rfl]; exact o1
    · rw [if_neg q]
      exact (hB t' ht').fr (fun a k' h1 h2 => nf (fun w => q (h1.symm.trans w.1)) (fun w => by rw [w] at h2; simp at h2))
  · obtain ⟨s, hs, hstep⟩ := hs'
    obtain ⟨hT1, b1, b2, ⟨A, b3, b4⟩, b5⟩ := hT σ hσ s hs
    obtain ⟨hpl, hnow⟩ := hp σ hσ s hs
    have hs31 : s (31, 0, 0) t = nI 3 := (hT1 t ht).1.2.2.2.1.symm.trans hst
    obtain ⟨o, b, ho, hb, es⟩ : zSe M Z s t (k + 1) s' := by
      rcases hstep with ⟨t', ht', w1, w2, w3⟩ | ⟨w, -⟩
      · rw [hpl] at w1
        have : t = t' := (nI_eq (by omega) (by omega)).mp w1
        subst this
        exact w3
      · exact absurd hs31 (w t ht hpl)
    have hsz := (hT1 t ht).2.2.1
    have hz : ∀ d, 1 ≤ d → d ≤ M t → Z t d ≤ 6 := fun d a b => (hsz.2.2 d a b).2.2
    have hm := hsz.2.1
    have hbk := (hT1 t ht).2.2.2.1
    have ns : ∀ {x : zA} {j : Nat}, x ≠ (59, 0, 0) → x ≠ (60, 0, 0) → x ≠ (41, 0, 0) → x ≠ (42, 0, 0) → x ≠ (43, 0, 0) → x ≠ (61, 0, 0) → x ≠ (62, 0, 0) → s' x j = s x j := fun h1 h2 h3 h4 h5 h6 h7 => by
      rw [es, zup_nk h7, zup_nk h6, zs1_ne h1 h2 h3 h4 h5]
    have nj : ∀ {x : zA} {j : Nat}, j ≠ k + 1 → x ≠ (41, 0, 0) → x ≠ (42, 0, 0) → x ≠ (43, 0, 0) → s' x j = s x j := fun hj h3 h4 h5 => by
      rw [es, zup_ne (fun w => hj w.2), zup_ne (fun w => hj w.2), zs1_k hj h3 h4 h5]
    have e4x : ∀ {x : zA} {j : Nat}, x = (41, 0, 0) ∨ x = (42, 0, 0) ∨ x = (43, 0, 0) → s' x j = zs1 s t (k + 1) o x j := fun {x j} hx => by
      rw [es]
      rcases hx with rfl | rfl | rfl <;> rw [zup_nk (by decide), zup_nk (by decide)]
    have hfind := hbk.find ho hm
    have key : zBk s' t (l t) α' (M t) (Z t) ∧ zCe f' s' t (k + 1) (M t) (Z t) ∧ (∀ t', t' ≠ t → ∀ i, i < 366 → s' (41, 0, 0) (366 * t' + i) = s (41, 0, 0) (366 * t' + i) ∧ s' (42, 0, 0) (366 * t' + i) = s (42, 0, 0) (366 * t' + i) ∧ s' (43, 0, 0) (366 * t' + i) = s (43, 0, 0) (366 * t' + i)) := by
      have e60 : s' (60, 0, 0) (k + 1) = zopt o := by rw [es, zup_nk (by decide), zup_nk (by decide), zs1_60]
      cases o with
      | none =>
        have h0 := hfind.1 rfl
        rcases hL with ⟨-, ea, ef⟩ | ⟨x, f2, w, -⟩
        · have e41 : ∀ κ j, κ = 41 ∨ κ = 42 ∨ κ = 43 → s' (κ, 0, 0) j = s (κ, 0, 0) j := fun κ j hκ => by
            rw [e4x (by rcases hκ with rfl | rfl | rfl <;> simp)]
            show zup (zup s _ _ _) _ _ _ _ _ = _
            rw [zup_nk (fun w => by have := congrArg Prod.fst w; simp at this; omega), zup_nk (fun w => by have := congrArg Prod.fst w; simp at this; omega)]
          refine ⟨?_, Or.inl ⟨?_, e60⟩, fun t' _ i _ => ⟨e41 41 _ (by simp), e41 42 _ (by simp), e41 43 _ (by simp)⟩⟩
          · rw [ea]
            exact hbk.cg (fun i _ => e41 41 _ (by simp)) (fun i _ => e41 42 _ (by simp)) (fun i _ => e41 43 _ (by simp))
          · rw [ef, zup_ne (fun w => absurd w.2 (by decide)), zup_ne (fun w => absurd w.2 (by decide)), zup_eq]
        · rw [h0] at w; cases w
      | some j =>
        obtain ⟨x, ej, hx, hfx, hx1⟩ := hfind.2 j rfl
        subst ej
        obtain ⟨x366, xv⟩ := hbk.mem hx
        rcases hL with ⟨w, -, -⟩ | ⟨x', f2, w, -, -, c3, c4, c5, -, ea, ef⟩
        · rw [hfx] at w; cases w
        · rw [hfx] at w
          cases w
          have e41 : ∀ j, s' (41, 0, 0) j = if j = 366 * t + x then nI 2 else s (41, 0, 0) j := fun j => by
            rw [e4x (by simp)]
            show zup (zup (zup _ _ _ _) _ _ _) _ _ _ _ j = _
            rw [zup_nk (by decide), zup_nk (by decide), zup_at]
            by_cases q : j = 366 * t + x
            · rw [if_pos q, if_pos ⟨rfl, q⟩]
            · rw [if_neg q, if_neg (fun w => q w.2), zup_nk (by decide), zup_nk (by decide)]
          have e42 : ∀ j, s' (42, 0, 0) j = if j = 366 * t + x then nI N else s (42, 0, 0) j := fun j => by
            rw [e4x (by simp)]
            show zup (zup (zup _ _ _ _) _ _ _) _ _ _ _ j = _
            rw [zup_nk (by decide), zup_at]
            by_cases q : j = 366 * t + x
            · rw [if_pos q, if_pos ⟨rfl, q⟩]; exact hnow
            · rw [if_neg q, if_neg (fun w => q w.2), zup_nk (by decide), zup_nk (by decide), zup_nk (by decide)]
          have e43 : ∀ j, s' (43, 0, 0) j = if j = 366 * t + x then s (43, 0, 0) (366 * t + x) + nI 1 else s (43, 0, 0) j := fun j => by
            rw [e4x (by simp)]
            show zup (zup (zup _ _ _ _) _ _ _) _ _ _ _ j = _
            rw [zup_at]
            by_cases q : j = 366 * t + x
            · rw [if_pos q, if_pos ⟨rfl, q⟩]
            · rw [if_neg q, if_neg (fun w => q w.2), zup_nk (by decide), zup_nk (by decide), zup_nk (by decide), zup_nk (by decide)]
          refine ⟨?_, Or.inr ⟨x, x366, xv, e60, ?_, ?_, ?_⟩, fun t' hne i hi => ?_⟩
          · rw [ea]
            refine hbk.load hx hx1 (fun i hi => ?_) (fun i hi => ?_) (fun i hi => ?_)
            · rw [e41]
              by_cases q : i = x
              · rw [if_pos q, if_pos (by omega)]
              · rw [if_neg q, if_neg (by omega)]
            · rw [e42]
              by_cases q : i = x
              · rw [if_pos q, if_pos (by omega)]
              · rw [if_neg q, if_neg (by omega)]
            · rw [e43]
              by_cases q : i = x
              · subst q
                rw [if_pos rfl, if_pos rfl]
              · rw [if_neg q, if_neg (by omega)]
          · rw [ef, zup_ne (fun w => absurd w.2 (by decide)), zup_ne (fun w => absurd w.2 (by decide)), c3, (hbk.2.2.1 x hx).1]
          · rw [ef, zup_ne (fun w => absurd w.2 (by decide)), zup_ne (fun w => absurd w.2 (by decide)), c4, (hbk.2.2.1 x hx).2.1]
          · rw [ef, zup_ne (fun w => absurd w.2 (by decide)), zup_ne (fun w => absurd w.2 (by decide)), c5, (hbk.2.2.1 x hx).2.2.1]
          · rw [e41, e42, e43, if_neg (by omega), if_neg (by omega), if_neg (by omega)]
            exact ⟨rfl, rfl, rfl⟩
    obtain ⟨kb, kc, ko⟩ := key
    have hbs : zBs s' t (M t) (Z t) b := hb.cg (fun j => e4x (by simp))
    have e41' : zs1 s t (k + 1) o (41, 0, 0) = s' (41, 0, 0) := funext fun j => (e4x (by simp)).symm
    have e61 : s' (61, 0, 0) (k + 1) = nI (zmc (s' (41, 0, 0)) (nI 1) (366 * t) 366) := by
      rw [← e41', es, zup_nk (by decide), zup_eq]
    have e62 : s' (62, 0, 0) (k + 1) = nI b := by rw [es, zup_eq]
    have e59 : s' (59, 0, 0) (k + 1) = nI t := by rw [es, zup_nk (by decide), zup_nk (by decide), zs1_59]
    have ese : ∀ n, n ≤ k → zse s' n = zse s n := fun n => by
      induction n with
      | zero => exact fun _ => rfl
      | succ n ih =>
        intro hn
        unfold zse
        rw [ih (by omega), nj (by omega) (by decide) (by decide) (by decide)]
    refine ⟨fun t' ht' => ?_, ?_, ?_, ⟨A, ?_, ?_⟩, fun j j1 j2 => ?_⟩
    · dsimp only
      by_cases q : t' = t
      · subst q
        rw [if_pos rfl]
        have h3 : ∀ j, f' (3, t', 0) j = f (3, t', 0) j := fun j => nf (by rintro ⟨-, w⟩; omega) (fun w => by cases w)
        obtain ⟨⟨a1, a2, a3, a4, a5, a6, a7⟩, bo, c', -, e', -⟩ := hT1 t' ht'
        have nk : ∀ {κ : Nat}, 31 ≤ κ → κ ≤ 40 → ∀ j, s' (κ, 0, 0) j = s (κ, 0, 0) j := fun {κ} h1 h2 j => ns (fun w => by have := congrArg Prod.fst w; simp at this; omega) (fun w => by have := congrArg Prod.fst w; simp at this; omega) (fun w => by have := congrArg Prod.fst w; simp at this; omega) (fun w => by have := congrArg Prod.fst w; simp at this; omega) (fun w => by have := congrArg Prod.fst w; simp at this; omega) (fun w => by have := congrArg Prod.fst w; simp at this; omega) (fun w => by have := congrArg Prod.fst w; simp at this; omega)
        refine ⟨⟨?_, ?_, ?_, ?_, ?_, ?_, ?_⟩, ?_, c'.cg (fun j => nk (by omega) (by omega) j) (fun j => nk (by omega) (by omega) j), kb, ?_, o1⟩
        · rw [h3, nk (by omega) (by omega)]; exact a1
        · rw [h3, nk (by omega) (by omega)]; exact a2
        · rw [h3, nk (by omega) (by omega)]; exact a3
        · rw [h3, nk (by omega) (by omega)]; exact a4
        · rw [h3, nk (by omega) (by omega), nk (by omega) (by omega)]; exact a5
        · rw [h3, nk (by omega) (by omega)]; exact a6
        · rw [h3, nk (by omega) (by omega)]; exact a7
        · show f' (3, t', 0) 2 = _
          rw [h3, nk (by omega) (by omega)]; exact bo
        · unfold zLv
          rw [nk (by omega) (by omega), nk (by omega) (by omega)]; exact e'
      · rw [if_neg q]
        refine (hT1 t' ht').cg (fun a k' h1 h2 => nf (fun w => q (h1.symm.trans w.1)) (fun w => by rw [w] at h2; simp at h2)) ⟨fun κ h1 h2 => ?_, ko t' q, fun d hd => ?_⟩
        · exact ns (fun w => by have := congrArg Prod.fst w; simp at this; omega) (fun w => by have := congrArg Prod.fst w; simp at this; omega) (fun w => by have := congrArg Prod.fst w; simp at this; omega) (fun w => by have := congrArg Prod.fst w; simp at this; omega) (fun w => by have := congrArg Prod.fst w; simp at this; omega) (fun w => by have := congrArg Prod.fst w; simp at this; omega) (fun w => by have := congrArg Prod.fst w; simp at this; omega)
        · exact ns (by decide) (by decide) (by decide) (by decide) (by decide) (by decide) (by decide)
    · rw [nf (by rintro ⟨-, w⟩; simp at w) (fun w => by cases w), ns (by decide) (by decide) (by decide) (by decide) (by decide) (by decide) (by decide)]; exact b1
    · rw [nf (by rintro ⟨-, w⟩; simp at w) (fun w => by have := congrArg (fun x => x.2.1) w; simp at this), nj (by omega) (by decide) (by decide) (by decide)]; exact b2
    · rw [ns (by decide) (by decide) (by decide) (by decide) (by decide) (by decide) (by decide)]; exact b3
    · unfold zse
      rw [ese k (Nat.le_refl _), e59, if_neg (nI_pos (by omega)), b4]
      omega
    · by_cases q : j = k + 1
      · subst q
        refine Or.inr ⟨t, ht, o3, e59, ?_, ?_, kc, ?_⟩
        · rw [o4, e61, kb.fresh]
        · rw [o5, e62, kb.base hbs hz hm]
        · rw [ns (by decide) (by decide) (by decide) (by decide) (by decide) (by decide) (by decide)]; exact hpl
      · refine (b5 j j1 (by omega)).cg (fun i => nf (by rintro ⟨-, w⟩; simp at w) (fun w => q (by have := congrArg (fun x => x.2.1) w; simpa using this))) (nj q (by decide) (by decide) (by decide)) (nj q (by decide) (by decide) (by decide)) (nj q (by decide) (by decide) (by decide)) (nj q (by decide) (by decide) (by decide)) ?_
        exact ns (by decide) (by decide) (by decide) (by decide) (by decide) (by decide) (by decide)
theorem zBuN_pl {σ s : zM} {k : Nat} (hσ : zEq f0 σ) (h : zBuN M Z (zS3 σ N M Z) (N % 2) k s) {j : Nat} : s (55, 0, 0) j = f0 (55, 0, 0) j ∧ s (30, 0, 0) 1 = f0 (30, 0, 0) 1 := by
  constructor
  · rw [zBuN_ne (by decide) (by decide) (by decide) (by decide) (by decide) (by decide) (by decide) k s h, zS3_ne (by decide) (by decide) (by decide) (by decide) (by decide) (by decide) (by decide) (by decide)]
    exact hσ _ _ (by decide) (by rintro ⟨w, -⟩; cases w)
  · rw [zBuN_ne (by decide) (by decide) (by decide) (by decide) (by decide) (by decide) (by decide) k s h]
    unfold zS3 zdq
    rw [zup_nk (by decide), zup_ne (by decide), zS2_ne (by decide) (by decide) (by decide) (by decide) (by decide) (by decide)]
    exact hσ _ _ (by decide) (by decide)
theorem p_stage3 {sc : zC} {c s : Nat} {g : zW} {K : zR → Prop} {f : zM} (h : ∃ (l : Nat → List Nat) (α : Nat → zAt), zF12 f0 f ∧ ∀ σ, zEq f0 σ → ∀ t, t < 5 → zT1 f (zAgN (zLiN σ (N % 2) 5) M Z 5) N t (l t) (α t) (M t) (Z t)) (hG : ∀ j, j < 30 → f0 (17, N % 2, 0) j = f0 (55, 0, 0) (30 * (N % 2) + j)) (hR : zRow f0 (N % 2)) (hN : f0 (30, 0, 0) 1 = nI N) (hK : ∀ u f', zP3 f0 N M Z 29 u f' → K (.inl (some (.inl (nI u))), zN c s f' g)) : zT sc 23 0 true [zsu, some (.inl (nI N))] [] (zN c s f g) K := by
  refine p_sendBursts (P := zP3 f0 N M Z) (fun k u F hk hP => ?_) (zP3_0 h) hK
  obtain ⟨l, α, hF, hB, hT⟩ := id hP
  have e17 : F (17, N % 2, 0) (k + 1) = f0 (55, 0, 0) (30 * (N % 2) + (k + 1)) := by
    rw [hF _ _ (by simp) (by rintro ⟨w, -⟩; cases w)]; exact hG (k + 1) (by omega)
  rcases hR.2.1 (k + 1) (by omega) with hq | ⟨t, ht, hq⟩
  · refine Or.inl ⟨e17.trans hq, zP3_no hP (fun σ hσ s hs t ht w => ?_)⟩
    rw [(zBuN_pl hσ hs).1, hq] at w
    exact absurd w.symm (zK1 (by omega))
  · refine Or.inr ⟨t, ht, e17.trans hq, fun hno => zP3_no hP (fun σ hσ s hs t' ht' w => ?_), fun hyes => ⟨l t, α t, nI (M t), hB t ht, fun f' α' hL => ?_⟩⟩
    · rw [(zBuN_pl hσ hs).1, hq] at w
      have : t = t' := (nI_eq (by omega) (by omega)).mp w
      subst this
      have := ((hT σ hσ s hs).1 t ht).1.2.2.2.1
      rw [← this]; exact hno
    · exact zP3_yes hk ht hF hB hT hyes (fun σ hσ s hs => ⟨(zBuN_pl hσ hs).1.trans hq, (zBuN_pl (j := 0) hσ hs).2.trans hN⟩) hL
end S3
