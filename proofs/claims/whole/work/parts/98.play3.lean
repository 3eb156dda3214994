/-! A superframe's upkeep: what was told -/
/-- terminal t, by both -/
def zT1 (f s : zM) (N t : Nat) (l : List Nat) (α : zAt) (m : Nat) (z : Nat → Nat) : Prop := zRs f s t ∧ zRo f s t ∧ zSz s t m z ∧ zBk s t l α m z ∧ zLv s N t ∧ zBR f t l α (nI m)
/-- two references that agree on terminal t -/
def zSa (s s' : zM) (t : Nat) : Prop := (∀ κ, 31 ≤ κ → κ ≤ 39 → s' (κ, 0, 0) t = s (κ, 0, 0) t) ∧ (∀ i, i < 366 → s' (41, 0, 0) (366 * t + i) = s (41, 0, 0) (366 * t + i) ∧ s' (42, 0, 0) (366 * t + i) = s (42, 0, 0) (366 * t + i) ∧ s' (43, 0, 0) (366 * t + i) = s (43, 0, 0) (366 * t + i)) ∧ ∀ d, d ≤ 60 → s' (40, 0, 0) (61 * t + d) = s (40, 0, 0) (61 * t + d)
theorem zSz.cg' {s s' : zM} {t m : Nat} {z : Nat → Nat} (h : zSz s t m z) (h1 : s' (36, 0, 0) t = s (36, 0, 0) t) (h2 : ∀ d, d ≤ 60 → s' (40, 0, 0) (61 * t + d) = s (40, 0, 0) (61 * t + d)) : zSz s' t m z := ⟨h1.trans h.1, h.2.1, fun d a b => ⟨(h2 d (by have := h.2.1; omega)).trans (h.2.2 d a b).1, (h.2.2 d a b).2⟩⟩
theorem zT1.cg {f f' s s' : zM} {N t m : Nat} {l : List Nat} {α : zAt} {z : Nat → Nat} (h : zT1 f s N t l α m z) (hf : ∀ a k, a.2.1 = t → (a.1 = 3 ∨ a.1 = 4 ∨ a.1 = 5 ∨ a.1 = 6) → f' a k = f a k) (hs : zSa s s' t) : zT1 f' s' N t l α m z := by
  obtain ⟨⟨a1, a2, a3, a4, a5, a6, a7⟩, b, c, d, e, g⟩ := h
  obtain ⟨s1, s2, s3⟩ := hs
  have h3 : ∀ k, f' (3, t, 0) k = f (3, t, 0) k := fun k => hf _ _ rfl (Or.inl rfl)
  refine ⟨⟨?_, ?_, ?_, ?_, ?_, ?_, ?_⟩, ?_, c.cg' (s1 36 (by omega) (by omega)) s3, d.cg (fun i hi => (s2 i hi).1) (fun i hi => (s2 i hi).2.1) (fun i hi => (s2 i hi).2.2), ?_, g.fr (fun a k h1 h2 => hf a k h1 (Or.inr h2))⟩
  · rw [h3, s1 38 (by omega) (by omega)]; exact a1
  · rw [h3, s1 39 (by omega) (by omega)]; exact a2
  · rw [h3, s1 34 (by omega) (by omega)]; exact a3
  · rw [h3, s1 31 (by omega) (by omega)]; exact a4
  · rw [h3, s1 31 (by omega) (by omega), s1 32 (by omega) (by omega)]; exact a5
  · rw [h3, s1 35 (by omega) (by omega)]; exact a6
  · rw [h3, s1 37 (by omega) (by omega)]; exact a7
  · show f' (3, t, 0) 2 = s' (33, 0, 0) t
    rw [h3, s1 33 (by omega) (by omega)]; exact b
  · unfold zLv
    rw [s1 31 (by omega) (by omega), s1 32 (by omega) (by omega)]; exact e
theorem zli3_y {f : zM} {t row : Nat} : ∀ n j, (∃ k, 1 ≤ k ∧ k ≤ n ∧ f (56, 0, 0) (30 * row + k) = nI t ∧ ¬ f (57, 0, 0) (30 * row + k) < 0 ∧ (f (57, 0, 0) (30 * row + k)).toNatClampNeg = j) → zli3 f t row n (41, 0, 0) j = nI 3
  | 0, j, ⟨k, h1, h2, _⟩ => by omega
  | n + 1, j, ⟨k, h1, h2, h3, h4, h5⟩ => by
    unfold zli3
    by_cases e : k = n + 1
    · subst e
      rw [if_pos ⟨h3, h4⟩, h5, zup_eq]
    · have ih := zli3_y n j ⟨k, h1, by omega, h3, h4, h5⟩
      split
      · rw [zup_at]
        split
        · rfl
        · exact ih
      · exact ih
theorem zli3_n {f : zM} {t row : Nat} : ∀ n j, (¬ ∃ k, 1 ≤ k ∧ k ≤ n ∧ f (56, 0, 0) (30 * row + k) = nI t ∧ ¬ f (57, 0, 0) (30 * row + k) < 0 ∧ (f (57, 0, 0) (30 * row + k)).toNatClampNeg = j) → zli3 f t row n (41, 0, 0) j = f (41, 0, 0) j
  | 0, j, _ => rfl
  | n + 1, j, h => by
    have ih := zli3_n n j (fun ⟨k, h1, h2, h3⟩ => h ⟨k, h1, by omega, h3⟩)
    unfold zli3
    split
    · rename_i q
      rw [zup_ne (fun w => h ⟨n + 1, by omega, by omega, q.1, q.2, w.2.symm⟩)]
      exact ih
    · exact ih
section S1
variable {f s : zM} {N t p m : Nat} {l : List Nat} {α : zAt} {z : Nat → Nat}
theorem zk1_c (h4 : f (3, t, 0) 4 = s (31, 0, 0) t) (h0 : f (10, t, p) 0 = s (54, 0, 0) (5 * p + t)) (j : Nat) : ztk1 f t p (nI N) (3, t, 0) j = (if s (31, 0, 0) t = nI 2 ∧ ¬ s (54, 0, 0) (5 * p + t) = 0 then (if j = 6 then nI N else if j = 4 then nI 3 else f (3, t, 0) j) else f (3, t, 0) j) := by
  unfold ztk1
  rw [h4, h0]
  split
  · rw [zup_at, zup_at]
    by_cases q : j = 6
    · rw [if_pos q, if_pos ⟨rfl, q⟩]
    · rw [if_neg q, if_neg (fun w => q w.2)]
      by_cases q2 : j = 4
      · rw [if_pos q2, if_pos ⟨rfl, q2⟩]
      · rw [if_neg q2, if_neg (fun w => q2 w.2)]
  · rfl
theorem ztk1_ne {x : zA} {j : Nat} {k : Int32} (h : x ≠ (3, t, 0)) : ztk1 f t p k x j = f x j := by
  unfold ztk1
  split
  · rw [zup_nk h, zup_nk h]
  · rfl
theorem ztk2_ne {x : zA} {j : Nat} {k : Int32} (h : x ≠ (3, t, 0)) : ztk2 f t p k x j = f x j := by
  unfold ztk2
  split
  · rw [zup_nk h, zup_nk h]
  · rfl
/-- told to be let in -/
theorem zT1.k1 (h : zT1 f s N t l α m z) (h0 : f (10, t, p) 0 = s (54, 0, 0) (5 * p + t)) (hN : s (30, 0, 0) 1 = nI N) : zT1 (ztk1 f t p (nI N)) (zli1 s t p) N t l α m z := by
  have hbr : zBR (ztk1 f t p (nI N)) t l α (nI m) := h.2.2.2.2.2.fr (fun a k h1 h2 => ztk1_ne (fun w => by rw [w] at h2; omega))
  obtain ⟨⟨a1, a2, a3, a4, a5, a6, a7⟩, b, c, d, e, g⟩ := h
  have hk := zk1_c (f := f) (s := s) (N := N) (t := t) (p := p) a4 h0
  have ne : ∀ {x : zA} {j : Nat}, x ≠ (31, 0, 0) → x ≠ (35, 0, 0) → zli1 s t p x j = s x j := fun h1 h2 => zli1_ne h1 h2
  have e31 : zli1 s t p (31, 0, 0) t = if s (31, 0, 0) t = nI 2 ∧ ¬ s (54, 0, 0) (5 * p + t) = 0 then nI 3 else s (31, 0, 0) t := by
    unfold zli1
    split
    · rw [zup_nk (by decide), zup_eq]
    · rfl
  have e35 : zli1 s t p (35, 0, 0) t = if s (31, 0, 0) t = nI 2 ∧ ¬ s (54, 0, 0) (5 * p + t) = 0 then nI N else s (35, 0, 0) t := by
    unfold zli1
    split
    · rw [zup_eq, hN]
    · rfl
  refine ⟨⟨?_, ?_, ?_, ?_, ?_, ?_, ?_⟩, ?_, c.cg (fun j => ne (by decide) (by decide)) (fun j => ne (by decide) (by decide)), d.cg (fun i _ => ne (by decide) (by decide)) (fun i _ => ne (by decide) (by decide)) (fun i _ => ne (by decide) (by decide)), ⟨?_, ?_⟩, hbr⟩
  · rw [hk, ne (by decide) (by decide)]; simp only [Nat.reduceEqDiff, if_false, ite_self]; exact a1
  · rw [hk, ne (by decide) (by decide)]; simp only [Nat.reduceEqDiff, if_false, ite_self]; exact a2
  · rw [hk, ne (by decide) (by decide)]; simp only [Nat.reduceEqDiff, if_false, ite_self]; exact a3
  · rw [hk, e31]
    split
    · rfl
    · exact a4
  · intro w
    rw [e31] at w
    rw [hk, ne (by decide) (by decide)]
    split at w
    · exact absurd w (by decide)
    · rename_i q
      rw [if_neg q]; exact a5 w
  · rw [hk, e35]
    split
    · rfl
    · exact a6
  · rw [hk, ne (by decide) (by decide)]; simp only [Nat.reduceEqDiff, if_false, ite_self]; exact a7
  · show ztk1 f t p (nI N) (3, t, 0) 2 = zli1 s t p (33, 0, 0) t
    rw [hk, ne (by decide) (by decide)]; simp only [Nat.reduceEqDiff, if_false, ite_self]; exact b
  · rw [e31]
    split
    · exact Or.inr (Or.inr (Or.inr rfl))
    · exact e.1
  · intro w
    rw [e31] at w
    split at w
    · exact absurd w (by decide)
    · rw [ne (by decide) (by decide)]; exact e.2 w
/-- told an offset -/
theorem zT1.k2 (h : zT1 f s N t l α m z) (h1 : f (10, t, p) 1 = s (52, 0, 0) (5 * p + t)) (h2 : f (10, t, p) 2 = (if s (52, 0, 0) (5 * p + t) = 0 then nI 0 else s (53, 0, 0) (5 * p + t))) (hN : s (30, 0, 0) 1 = nI N) : zT1 (ztk2 f t p (nI N)) (zli2 s t p) N t l α m z := by
  have hbr : zBR (ztk2 f t p (nI N)) t l α (nI m) := h.2.2.2.2.2.fr (fun a k h1 h2 => ztk2_ne (fun w => by rw [w] at h2; omega))
  obtain ⟨⟨a1, a2, a3, a4, a5, a6, a7⟩, b, c, d, e, g⟩ := h
  have ne : ∀ {x : zA} {j : Nat}, x ≠ (33, 0, 0) → x ≠ (35, 0, 0) → zli2 s t p x j = s x j := fun h1 h2 => zli2_ne h1 h2
  have hk : ∀ j, ztk2 f t p (nI N) (3, t, 0) j = if s (52, 0, 0) (5 * p + t) = 0 then f (3, t, 0) j else if j = 6 then nI N else if j = 2 then f (3, t, 0) 2 - s (53, 0, 0) (5 * p + t) else f (3, t, 0) j := fun j => by
    unfold ztk2
    rw [h1, h2]
    by_cases q : s (52, 0, 0) (5 * p + t) = 0
    · rw [if_neg (fun w => w q), if_pos q]
    · rw [if_neg q, if_neg q, if_pos q, zup_at, zup_at]
      by_cases q1 : j = 6
      · rw [if_pos q1, if_pos ⟨rfl, q1⟩]
      · rw [if_neg q1, if_neg (fun w => q1 w.2)]
        by_cases q2 : j = 2
        · rw [if_pos q2, if_pos ⟨rfl, q2⟩]
        · rw [if_neg q2, if_neg (fun w => q2 w.2)]
  have e33 : zli2 s t p (33, 0, 0) t = if s (52, 0, 0) (5 * p + t) = 0 then s (33, 0, 0) t else s (33, 0, 0) t - s (53, 0, 0) (5 * p + t) := by
    unfold zli2
    by_cases q : s (52, 0, 0) (5 * p + t) = 0
    · rw [if_pos q, if_neg (fun w => w q)]
    · rw [if_neg q, if_pos q, zup_nk (by decide), zup_eq]
  have e35 : zli2 s t p (35, 0, 0) t = if s (52, 0, 0) (5 * p + t) = 0 then s (35, 0, 0) t else nI N := by
    unfold zli2
    by_cases q : s (52, 0, 0) (5 * p + t) = 0
    · rw [if_pos q, if_neg (fun w => w q)]
    · rw [if_neg q, if_pos q, zup_eq, hN]
  refine ⟨⟨?_, ?_, ?_, ?_, ?_, ?_, ?_⟩, ?_, c.cg (fun j => ne (by decide) (by decide)) (fun j => ne (by decide) (by decide)), d.cg (fun i _ => ne (by decide) (by decide)) (fun i _ => ne (by decide) (by decide)) (fun i _ => ne (by decide) (by decide)), ⟨?_, ?_⟩, hbr⟩
  · rw [hk, ne (by decide) (by decide)]; simp only [Nat.reduceEqDiff, if_false, ite_self]; exact a1
  · rw [hk, ne (by decide) (by decide)]; simp only [Nat.reduceEqDiff, if_false, ite_self]; exact a2
  · rw [hk, ne (by decide) (by decide)]; simp only [Nat.reduceEqDiff, if_false, ite_self]; exact a3
  · rw [hk, ne (by decide) (by decide)]; simp only [Nat.reduceEqDiff, if_false, ite_self]; exact a4
  · rw [hk, ne (by decide) (by decide), ne (by decide) (by decide)]; simp only [Nat.reduceEqDiff, if_false, ite_self]; exact a5
  · rw [hk, e35]
    split
    · exact a6
    · rfl
  · rw [hk, ne (by decide) (by decide)]; simp only [Nat.reduceEqDiff, if_false, ite_self]; exact a7
  · show ztk2 f t p (nI N) (3, t, 0) 2 = zli2 s t p (33, 0, 0) t
    rw [hk, e33]
    split
    · exact b
    · show f (3, t, 0) 2 - _ = _
      rw [show f (3, t, 0) 2 = s (33, 0, 0) t from b]
  · rw [ne (by decide) (by decide)]; exact e.1
  · rw [ne (by decide) (by decide), ne (by decide) (by decide)]; exact e.2
/-- told which cells came -/
theorem zT1.k3 {f' : zM} {M : Nat → Nat} {Z : Nat → Nat → Nat} (hp : p < 2) (ht : t < 5) (h : zT1 f s N t l α (M t) (Z t)) {rl : List (Int32 × Int32)} (hn : zNm s t p rl) (hc : zHc s M Z) (hf : ∀ j, f' (3, t, 0) j = f (3, t, 0) j) (hb : zBR f' t (l.filter (zal0 (l.foldl (zdr rl) α))) (l.foldl (zdr rl) α) (nI (M t))) : zT1 f' (zli3 s t p 29) N t (l.filter (zal0 (l.foldl (zdr rl) α))) (l.foldl (zdr rl) α) (M t) (Z t) := by
  obtain ⟨⟨a1, a2, a3, a4, a5, a6, a7⟩, b, c, d, e, g⟩ := h
  have ne : ∀ {x : zA} {j : Nat}, x ≠ (41, 0, 0) → zli3 s t p 29 x j = s x j := fun h1 => zli3_ne h1 29
  have key : ∀ i, i < 366 → ((∃ k, 1 ≤ k ∧ k ≤ 29 ∧ s (56, 0, 0) (30 * p + k) = nI t ∧ ¬ s (57, 0, 0) (30 * p + k) < 0 ∧ (s (57, 0, 0) (30 * p + k)).toNatClampNeg = 366 * t + i) ↔ (nI (i / 6), nI (i % 6)) ∈ rl) := fun i hi => by
    rw [hn]
    constructor
    · rintro ⟨k, k1, k2, h3, h4, h5⟩
      rcases hc p k hp (by omega) with w | ⟨w, -⟩ | ⟨t', i', ht', hi', w1, w2, -⟩
      · rw [w] at h4; exact absurd (by decide) h4
      · rw [w] at h3; exact absurd h3.symm (zK1 (by omega))
      · rw [w1] at h3
        have : t' = t := (nI_eq (by omega) (by omega)).mp h3
        subst this
        rw [w2, nI_clamp (by omega)] at h5
        have : i' = i := by omega
        subst this
        exact ⟨k, i', k1, by omega, w1, hi, w2, rfl⟩
    · rintro ⟨k, i', k1, k2, h3, hi', h4, h5⟩
      have e1 := (nI_eq (by omega) (by omega)).mp (congrArg Prod.fst h5)
      have e2 := (nI_eq (by omega) (by omega)).mp (congrArg Prod.snd h5)
      have : i' = i := by omega
      subst this
      exact ⟨k, k1, by omega, h3, by rw [h4]; exact nI_pos (by omega), by rw [h4, nI_clamp (by omega)]⟩
  refine ⟨⟨?_, ?_, ?_, ?_, ?_, ?_, ?_⟩, ?_, c.cg (fun j => ne (by decide)) (fun j => ne (by decide)), d.told key (fun i hi w => ?_) (fun i hi w => zli3_y 29 _ w) (fun i hi w => zli3_n 29 _ w) (fun i _ => ne (by decide)) (fun i _ => ne (by decide)), ⟨?_, ?_⟩, hb⟩
  · rw [hf, ne (by decide)]; exact a1
  · rw [hf, ne (by decide)]; exact a2
  · rw [hf, ne (by decide)]; exact a3
  · rw [hf, ne (by decide)]; exact a4
  · rw [hf, ne (by decide), ne (by decide)]; exact a5
  · rw [hf, ne (by decide)]; exact a6
  · rw [hf, ne (by decide)]; exact a7
  · show f' (3, t, 0) 2 = zli3 s t p 29 (33, 0, 0) t
    rw [hf, ne (by decide)]; exact b
  · obtain ⟨k, k1, k2, h3, h4, h5⟩ := w
    rcases hc p k hp (by omega) with w | ⟨w, -⟩ | ⟨t', i', ht', hi', w1, w2, w3⟩
    · rw [w] at h4; exact absurd (by decide) h4
    · rw [w] at h3; exact absurd h3.symm (zK1 (by omega))
    · rw [w1] at h3
      have : t' = t := (nI_eq (by omega) (by omega)).mp h3
      subst this
      rw [w2, nI_clamp (by omega)] at h5
      have : i' = i := by omega
      subst this
      exact w3
  · rw [ne (by decide)]; exact e.1
  · rw [ne (by decide), ne (by decide)]; exact e.2
end S1
