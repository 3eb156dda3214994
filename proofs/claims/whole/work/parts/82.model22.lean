/-! The reference: what the bursts leave -/
theorem zslN_ne {f : zM} {h : Int32} {j : Nat} {x : zA} (h1 : x ≠ (31, 0, 0)) (h2 : x ≠ (32, 0, 0)) : ∀ n, zslN f h n x j = f x j
  | 0 => rfl
  | n + 1 => by
    have e : zslN f h (n + 1) = zsl (zslN f h n) h n := rfl
    rw [e, ← zslN_ne (f := f) (h := h) (j := j) h1 h2 n]
    generalize zslN f h n = F
    unfold zsl
    split
    · split
      · split
        · exact zup_nk h1
        · exact zup_nk h2
      · exact zup_nk h2
    · rfl
theorem zC1_n2 {sn : Nat → Option Nat} {f f' : zM} {row k j : Nat} {x : zA} (h : zC1 sn f row k f') (hx : x = (38, 0, 0) ∨ x = (39, 0, 0) ∨ x = (31, 0, 0) ∨ x = (32, 0, 0) ∨ x = (34, 0, 0) ∨ x = (35, 0, 0) ∨ x = (36, 0, 0) ∨ x = (37, 0, 0) ∨ x = (41, 0, 0) ∨ x = (42, 0, 0) ∨ x = (43, 0, 0) ∨ x = (55, 0, 0)) : f' x j = f x j := by
  rcases h with ⟨-, rfl⟩ | ⟨-, t, -, ⟨-, rfl⟩ | ⟨-, h⟩⟩
  · rcases hx with rfl | rfl | rfl | rfl | rfl | rfl | rfl | rfl | rfl | rfl | rfl | rfl <;> rw [zup_nk (by decide), zup_nk (by decide)]
  · rcases hx with rfl | rfl | rfl | rfl | rfl | rfl | rfl | rfl | rfl | rfl | rfl | rfl <;> rw [zup_nk (by decide), zup_nk (by decide), zup_nk (by decide), zC2_ne (by decide) (by decide) (by decide) (by decide) (by decide)]
  · rcases hx with rfl | rfl | rfl | rfl | rfl | rfl | rfl | rfl | rfl | rfl | rfl | rfl <;> rw [zRd_ne h (by decide) (by decide) (by decide) (by decide) (by decide) (by decide), zC2_ne (by decide) (by decide) (by decide) (by decide) (by decide)]
theorem zCN_ne {sn : Nat → Option Nat} {f0 : zM} {row j : Nat} {x : zA} (hx : x = (59, 0, 0) ∨ x = (60, 0, 0) ∨ x = (61, 0, 0) ∨ x = (62, 0, 0) ∨ x = (40, 0, 0) ∨ x = (33, 0, 0) ∨ x = (58, 0, 0) ∨ x = (30, 0, 0)) : ∀ k n f', zCN sn f0 row k n f' → f' x j = f0 x j
  | 0, _, _, ⟨_, h⟩ => by rw [h]
  | k + 1, _, _, ⟨f1, n, h1, _, h2⟩ => (zC1_ne h2 hx).trans (zCN_ne hx k n f1 h1)
theorem zCN_n2 {sn : Nat → Option Nat} {f0 : zM} {row j : Nat} {x : zA} (hx : x = (38, 0, 0) ∨ x = (39, 0, 0) ∨ x = (31, 0, 0) ∨ x = (32, 0, 0) ∨ x = (34, 0, 0) ∨ x = (35, 0, 0) ∨ x = (36, 0, 0) ∨ x = (37, 0, 0) ∨ x = (41, 0, 0) ∨ x = (42, 0, 0) ∨ x = (43, 0, 0) ∨ x = (55, 0, 0)) : ∀ k n f', zCN sn f0 row k n f' → f' x j = f0 x j
  | 0, _, _, ⟨_, h⟩ => by rw [h]
  | k + 1, _, _, ⟨f1, n, h1, _, h2⟩ => (zC1_n2 h2 hx).trans (zCN_n2 hx k n f1 h1)
section MO22
variable {M : Nat → Nat} {z : Nat → Nat → Nat} {row : Nat}
/-- what is known of a burst -/
def zbk1 (f : zM) (k : Nat) : Prop := f (59, 0, 0) k = zK (-1) ∨ ∃ t, t < 5 ∧ f (59, 0, 0) k = nI t ∧ (∃ b, b ≤ 61 ∧ f (62, 0, 0) k = nI b) ∧ ∃ o, f (60, 0, 0) k = zopt o ∧ ∀ i, o = some i → 366 * t + 6 ≤ i ∧ i < 366 * t + 366 ∧ ∃ n, n ≤ 6 ∧ f (40, 0, 0) (i / 6) = nI n
theorem zbk1.cg {f f' : zM} {k : Nat} (h : zbk1 f k) (h1 : f' (59, 0, 0) k = f (59, 0, 0) k) (h2 : f' (60, 0, 0) k = f (60, 0, 0) k) (h3 : f' (62, 0, 0) k = f (62, 0, 0) k) (h4 : ∀ j, f' (40, 0, 0) j = f (40, 0, 0) j) : zbk1 f' k := by
  unfold zbk1
  rw [h1, h2, h3]
  simp only [h4]
  exact h
theorem zs1_k {f : zM} {t k : Nat} {o : Option Nat} {x : zA} {j : Nat} (hj : j ≠ k) (h3 : x ≠ (41, 0, 0)) (h4 : x ≠ (42, 0, 0)) (h5 : x ≠ (43, 0, 0)) : zs1 f t k o x j = f x j := by
  cases o with
  | none => exact (zup_ne (fun w => hj w.2)).trans (zup_ne (fun w => hj w.2))
  | some i =>
    show zup _ _ _ _ x j = _
    rw [zup_nk h5, zup_nk h4, zup_nk h3, zup_ne (fun w => hj w.2), zup_ne (fun w => hj w.2)]
theorem zBu1_k {f f' : zM} {k j : Nat} {x : zA} (h : zBu1 M z f row k f') (hj : j ≠ k) (h3 : x ≠ (41, 0, 0)) (h4 : x ≠ (42, 0, 0)) (h5 : x ≠ (43, 0, 0)) : f' x j = f x j := by
  rcases h with ⟨t, -, -, -, o, b, -, -, rfl⟩ | ⟨-, rfl⟩
  · rw [zup_ne (fun w => hj w.2), zup_ne (fun w => hj w.2), zs1_k hj h3 h4 h5]
  · rw [zup_ne (fun w => hj w.2)]
theorem zs1_59 {f : zM} {t k : Nat} {o : Option Nat} : zs1 f t k o (59, 0, 0) k = nI t := by
  cases o with
  | none => exact (zup_nk (by decide)).trans zup_eq
  | some i =>
    show zup _ _ _ _ _ k = _
    rw [zup_nk (by decide), zup_nk (by decide), zup_nk (by decide), zup_nk (by decide), zup_eq]
theorem zs1_60 {f : zM} {t k : Nat} {o : Option Nat} : zs1 f t k o (60, 0, 0) k = zopt o := by
  cases o with
  | none => exact zup_eq
  | some i =>
    show zup _ _ _ _ _ k = _
    rw [zup_nk (by decide), zup_nk (by decide), zup_nk (by decide), zup_eq]
    rfl
theorem zBu1_at {f f' : zM} {k : Nat} (hR : zRdy M z f row) (h : zBu1 M z f row k f') : zbk1 f' k := by
  rcases h with ⟨t, ht, -, -, o, b, ho, hb, rfl⟩ | ⟨-, rfl⟩
  · obtain ⟨-, m60, hz⟩ := hR.2 t ht
    have hb1 := hb.2.1
    refine Or.inr ⟨t, ht, ?_, ⟨b, by omega, zup_eq⟩, o, ?_, fun i hi => ?_⟩
    · rw [zup_nk (by decide), zup_nk (by decide), zs1_59]
    · rw [zup_nk (by decide), zup_nk (by decide), zs1_60]
    · subst hi
      obtain ⟨o1, o2, -, -⟩ := ho
      refine ⟨o1, by omega, ?_⟩
      obtain ⟨z1, z2, z3⟩ := hz (i / 6 - 61 * t) (by omega) (by omega)
      rw [show 61 * t + (i / 6 - 61 * t) = i / 6 by omega] at z1
      exact ⟨z t (i / 6 - 61 * t), z3, by rw [zup_nk (by decide), zup_nk (by decide), zs1_ne (by decide) (by decide) (by decide) (by decide) (by decide)]; exact z1⟩
  · exact Or.inl zup_eq
theorem zBuN_bk {f0 : zM} : ∀ (n : Nat) (f' : zM), zRdy M z f0 row → zBuN M z f0 row n f' → zRdy M z f' row ∧ (∀ k, 1 ≤ k → k ≤ n → zbk1 f' k) ∧ ∀ j x, (j = 0 ∨ n < j) → x ≠ (41, 0, 0) → x ≠ (42, 0, 0) → x ≠ (43, 0, 0) → f' x j = f0 x j
  | 0, f', hR, h => by
    have h : f' = f0 := h
    subst h
    exact ⟨hR, fun k a b => by omega, fun _ _ _ _ _ _ => rfl⟩
  | n + 1, f', hR, ⟨f1, h1, h2⟩ => by
    obtain ⟨a, b, c⟩ := zBuN_bk n f1 hR h1
    refine ⟨a.st h2, fun k k1 k2 => ?_, fun j x hj h3 h4 h5 => (zBu1_k h2 (by omega) h3 h4 h5).trans (c j x (by omega) h3 h4 h5)⟩
    by_cases q : k = n + 1
    · subst q; exact zBu1_at a h2
    · exact (b k k1 (by omega)).cg (zBu1_k h2 q (by decide) (by decide) (by decide)) (zBu1_k h2 q (by decide) (by decide) (by decide)) (zBu1_k h2 q (by decide) (by decide) (by decide)) (fun j => zBu1_ne h2 (by decide) (by decide) (by decide) (by decide) (by decide) (by decide) (by decide))
theorem zsnM_n {f : zM} {k : Nat} (h : f (59, 0, 0) k = zK (-1)) : zsnM f k = none := by
  unfold zsnM; rw [h]; rfl
theorem zsnM_s {f : zM} {k t : Nat} (ht : t < 5) (h : f (59, 0, 0) k = nI t) : zsnM f k = some t := by
  unfold zsnM; rw [h, if_neg (nI_pos (by omega)), nI_clamp (by omega)]
/-- the centre's loop can begin -/
theorem zCI_of {f0 f : zM} {w : Option Nat × Nat} (hR : zRdy M z f0 row) (hB : zBuN M z f0 row 29 f) (h0 : f0 (59, 0, 0) 0 = zopt w.1) (hw : ∀ t, w.1 = some t → t < 5) (hT : ∀ t, t < 5 → zTo f0 t) (he : ∀ t, t < 5 → ∃ e, 1 ≤ e ∧ e ≤ 61 ∧ f0 (47, 0, 0) t = nI e) : zCI (zsnM f) f := by
  obtain ⟨a, b, c⟩ := zBuN_bk 29 f hR hB
  have e0 : f (59, 0, 0) 0 = zopt w.1 := (c 0 _ (Or.inl rfl) (by decide) (by decide) (by decide)).trans h0
  have ne : ∀ {x : zA} {j : Nat}, x ≠ (59, 0, 0) → x ≠ (60, 0, 0) → x ≠ (41, 0, 0) → x ≠ (42, 0, 0) → x ≠ (43, 0, 0) → x ≠ (61, 0, 0) → x ≠ (62, 0, 0) → f x j = f0 x j := fun h1 h2 h3 h4 h5 h6 h7 => zBuN_ne h1 h2 h3 h4 h5 h6 h7 29 f hB
  refine ⟨fun k hk => ?_, fun t ht => (hT t ht).cg (fun j => ne (by decide) (by decide) (by decide) (by decide) (by decide) (by decide) (by decide)), fun t ht => by rw [ne (by decide) (by decide) (by decide) (by decide) (by decide) (by decide) (by decide)]; exact he t ht, fun k k1 k2 t ht => ?_⟩
  · by_cases q : k = 0
    · subst q
      cases hq : w.1 with
      | none =>
        rw [hq] at e0
        rw [zsnM_n e0]
        exact ⟨e0, fun t w => by cases w⟩
      | some t =>
        rw [hq] at e0
        have ht := hw t hq
        rw [zsnM_s ht e0]
        exact ⟨e0, fun t' w => by cases w; exact ht⟩
    · rcases b k (by omega) (by omega) with h | ⟨t, ht, h, -⟩
      · rw [zsnM_n h]
        exact ⟨h, fun t w => by cases w⟩
      · rw [zsnM_s ht h]
        exact ⟨h, fun t' w => by cases w; exact ht⟩
  · rcases b k k1 (by omega) with h | ⟨t', ht', h, h2, h3⟩
    · rw [zsnM_n h] at ht; cases ht
    · rw [zsnM_s ht' h] at ht
      cases ht
      exact ⟨h2, h3⟩
theorem zdm_lt {f : zM} : ∀ (l : List Nat) (w : Option Nat × Nat), (∀ t, t ∈ l → t < 5) → (∀ t, w.1 = some t → t < 5) → ∀ t, (l.foldl (zdm f) w).1 = some t → t < 5
  | [], w, _, hw => hw
  | x :: l, w, hl, hw => zdm_lt l (zdm f w x) (fun t ht => hl t (List.mem_cons_of_mem _ ht)) (fun t ht => by
    unfold zdm at ht
    cases h : zaq f x with
    | true =>
      rw [h] at ht
      have : x = t := Option.some.inj ht
      rw [← this]; exact hl x List.mem_cons_self
    | false => rw [h] at ht; exact hw t ht)
end MO22
