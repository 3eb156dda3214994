/-! A superframe's upkeep: hearing -/
/-- who sends where, read off the class -/
def zsnC (f : zM) (k : Nat) : Option Nat := if f (19, k, 0) 0 < 0 then none else some (f (19, k, 0) 0).toNatClampNeg
section S4
variable {M : Nat → Nat} {Z : Nat → Nat → Nat} {N : Nat} {f0 : zM}
theorem zBuN_ex {F : zM} {row : Nat} (hr : row < 2) (hR : zRdy M Z F row) : ∃ f', zBuN M Z (zdq F ((List.range' 0 5).foldl (zdm F) (none, 0))) row 29 f' := by
  have h := q_bursts (sc := none) (c := 0) (s := 0) (g := fun _ _ => 0) (K := fun _ => ∃ f', zBuN M Z (zdq F ((List.range' 0 5).foldl (zdm F) (none, 0))) row 29 f') hr hR (fun f' h => ⟨f', h⟩)
  obtain ⟨r, h1, -⟩ := zT_pick _ _ _ _ _ _ _ h
  exact h1
theorem zCN_ex {F : zM} {row : Nat} {sn : Nat → Option Nat} (hr : row < 2) (hI : zCI sn F) : ∃ n f', zCN sn (zc0N F row 5) row 30 n f' := by
  have h := q_centre0 (sc := none) (c := 0) (s := 0) (g := fun _ _ => 0) (K := fun _ => ∃ n f', zCN sn (zc0N F row 5) row 30 n f') hr hI (fun n f' h => ⟨n, f', h⟩)
  obtain ⟨r, h1, -⟩ := zT_pick _ _ _ _ _ _ _ h
  exact h1
theorem zCN_pre {sn : Nat → Option Nat} {F : zM} {row : Nat} : ∀ (d : Nat) {k n : Nat} {f' : zM}, zCN sn F row (k + d) n f' → ∃ n' f'', zCN sn F row k n' f''
  | 0, _, n, f', h => ⟨n, f', h⟩
  | d + 1, _, _, _, h => by
    obtain ⟨f1, n1, h1, -, -⟩ := h
    exact zCN_pre d h1
theorem zsn_eq {f s : zM} {k : Nat} (h : f (19, k, 0) 0 = s (59, 0, 0) k) : zsnC f k = zsnM s k := by
  unfold zsnC zsnM
  rw [h]
/-- a burst of a place or of the door is of a terminal, or there is none -/
theorem zB3.sn {f s : zM} {p u : Nat} (h : zB3 f s p 29 u M Z) {j : Nat} (hj : j < 30) : f (19, j, 0) 0 = s (59, 0, 0) j := by
  obtain ⟨-, h2, -, h4⟩ := h
  by_cases q : j = 0
  · subst q; exact h2
  · rcases h4 j (by omega) (by omega) with ⟨a, b⟩ | ⟨t, -, a, b, -⟩
    · rw [a, b]
    · rw [a, b]
theorem zhe_eq {f s : zM} {sn : Nat → Option Nat} (h20 : ∀ k, k < 30 → f (20, 0, 0) k = s (58, 0, 0) k) (h7 : f (0, 0, 0) 7 = s (30, 0, 0) 35) (ho : ∀ t, t < 5 → f (3, t, 0) 2 = s (33, 0, 0) t) (hsn : ∀ k t, k < 30 → sn k = some t → t < 5) {k : Nat} (hk : k < 30) : zheB f sn k = zheM s sn k := by
  have hz : ∀ j, j < 30 → j ≠ 0 → zofs f sn j = zoM s sn j := fun j hj h0 => by
    unfold zofs zoM
    rw [if_neg h0]
    cases hq : sn j with
    | none => rfl
    | some t => exact ho t (hsn j t hj hq)
  unfold zheB zheM
  rw [h20 k hk, h7]
  by_cases q : k = 0
  · rw [if_pos q, if_pos q]
  · rw [if_neg q, if_neg q]
    have e : zclr f sn k = zcMB s sn k := by
      unfold zclr zcMB
      rw [hz k hk q]
      have eA : decide (nI 8 < zofA f sn k) = decide (4 ≤ k ∧ nI 8 < zoM s sn (k - 3)) := by
        unfold zofA
        by_cases q3 : k < 3
        · rw [if_pos q3, decide_eq_false (p := 4 ≤ k ∧ nI 8 < zoM s sn (k - 3)) (fun w => by omega)]
          decide
        · rw [if_neg q3]
          by_cases q4 : k = 3
          · subst q4
            rw [decide_eq_false (p := 4 ≤ 3 ∧ nI 8 < zoM s sn (3 - 3)) (fun w => by omega)]
            show decide (nI 8 < zofs f sn 0) = false
            unfold zofs
            rw [if_pos rfl]
            decide
          · rw [hz (k - 3) (by omega) (by omega)]
            by_cases q5 : nI 8 < zoM s sn (k - 3)
            · rw [decide_eq_true q5, decide_eq_true (p := 4 ≤ k ∧ nI 8 < zoM s sn (k - 3)) ⟨by omega, q5⟩]
            · rw [decide_eq_false q5, decide_eq_false (p := 4 ≤ k ∧ nI 8 < zoM s sn (k - 3)) (fun w => q5 w.2)]
      have eB : decide (zofB f sn k < zK (-8)) = decide (k ≤ 26 ∧ zoM s sn (k + 3) < zK (-8)) := by
        unfold zofB
        by_cases q3 : 27 ≤ k
        · rw [if_pos q3, decide_eq_false (p := k ≤ 26 ∧ zoM s sn (k + 3) < zK (-8)) (fun w => by omega)]
          decide
        · rw [if_neg q3, hz (k + 3) (by omega) (by omega)]
          by_cases q5 : zoM s sn (k + 3) < zK (-8)
          · rw [decide_eq_true q5, decide_eq_true (p := k ≤ 26 ∧ zoM s sn (k + 3) < zK (-8)) ⟨by omega, q5⟩]
          · rw [decide_eq_false q5, decide_eq_false (p := k ≤ 26 ∧ zoM s sn (k + 3) < zK (-8)) (fun w => q5 w.2)]
      rw [eA, eB]
    rw [e]
theorem zheM_cg {s s' : zM} {sn : Nat → Option Nat} {k : Nat} (h1 : ∀ j, s' (33, 0, 0) j = s (33, 0, 0) j) (h2 : ∀ j, s' (58, 0, 0) j = s (58, 0, 0) j) (h3 : ∀ j, s' (30, 0, 0) j = s (30, 0, 0) j) : zheM s' sn k = zheM s sn k := by
  have e : ∀ j, zoM s' sn j = zoM s sn j := fun j => by
    unfold zoM
    cases sn j with
    | none => rfl
    | some t => exact h1 t
  unfold zheM zcMB
  rw [h2, h3, e, e, e]
theorem zheM_sn {s : zM} {sn sn' : Nat → Option Nat} {k : Nat} (hk : k < 30) (h : ∀ j, j < 30 → sn' j = sn j) : zheM s sn' k = zheM s sn k := by
  have e : ∀ j, j < 30 → zoM s sn' j = zoM s sn j := fun j hj => by
    unfold zoM; rw [h j hj]
  unfold zheM zcMB
  rw [h k hk, e k hk, e (k - 3) (by omega)]
  by_cases q : k ≤ 26
  · rw [e (k + 3) (by omega)]
  · have n1 : ∀ (P : Prop) [Decidable P], decide (k ≤ 26 ∧ P) = false := fun P _ => decide_eq_false (fun w => q w.1)
    rw [n1, n1]
/-! What the centre's loop leaves -/
/-- the parts of the reference that the loop over the slots sets, after k slots -/
def zCf (sn : Nat → Option Nat) (s3 : zM) (N p k : Nat) (s4 : zM) : Prop :=
  (∀ j, j < k → s4 (56, 0, 0) (30 * p + j) = (bif zheM s3 sn j then zopt (sn j) else zK (-1)) ∧ s4 (57, 0, 0) (30 * p + j) = (bif zheM s3 sn j then (if j = 0 then zK (-1) else s3 (60, 0, 0) j) else zK (-1))) ∧
  (∀ j, (j < 30 * p ∨ 30 * p + k ≤ j) → s4 (56, 0, 0) j = s3 (56, 0, 0) j ∧ s4 (57, 0, 0) j = s3 (57, 0, 0) j) ∧
  (∀ t, t < 5 → s4 (54, 0, 0) (5 * p + t) = if 0 < k ∧ zheM s3 sn 0 = true ∧ sn 0 = some t then nI 1 else nI 0) ∧
  (∀ j, (j < 5 * p ∨ 5 * p + 5 ≤ j) → s4 (54, 0, 0) j = s3 (54, 0, 0) j ∧ s4 (52, 0, 0) j = s3 (52, 0, 0) j ∧ s4 (53, 0, 0) j = s3 (53, 0, 0) j)
theorem zc0N_at {f : zM} {p : Nat} : ∀ n, n ≤ 5 → (∀ t, t < n → zc0N f p n (52, 0, 0) (5 * p + t) = nI 0 ∧ zc0N f p n (54, 0, 0) (5 * p + t) = nI 0) ∧ ∀ j, (j < 5 * p ∨ 5 * p + n ≤ j) → zc0N f p n (54, 0, 0) j = f (54, 0, 0) j ∧ zc0N f p n (52, 0, 0) j = f (52, 0, 0) j
  | 0, _ => ⟨fun t h => by omega, fun _ _ => ⟨rfl, rfl⟩⟩
  | n + 1, h => by
    obtain ⟨h1, h2⟩ := zc0N_at (f := f) (p := p) n (by omega)
    have e : zc0N f p (n + 1) = zup (zup (zc0N f p n) (52, 0, 0) (5 * p + n) (nI 0)) (54, 0, 0) (5 * p + n) (nI 0) := rfl
    rw [e]
    refine ⟨fun t ht => ?_, fun j hj => ?_⟩
    · by_cases q : t = n
      · subst q
        exact ⟨(zup_nk (by decide)).trans zup_eq, zup_eq⟩
      · rw [zup_nk (by decide), zup_ne (fun w => q (by omega)), zup_ne (fun w => q (by omega)), zup_nk (by decide)]
        exact h1 t (by omega)
    · rw [zup_ne (fun w => by omega), zup_nk (by decide), zup_nk (by decide), zup_ne (fun w => by omega)]
      exact h2 j (by omega)
theorem zCf_0 {sn : Nat → Option Nat} {s3 : zM} {p : Nat} : zCf sn s3 N p 0 (zc0N s3 p 5) := by
  obtain ⟨h1, h2⟩ := zc0N_at (f := s3) (p := p) 5 (by omega)
  refine ⟨fun j hj => by omega, fun j _ => ⟨zc0N_ne (by decide) (by decide) 5, zc0N_ne (by decide) (by decide) 5⟩, fun t ht => ?_, fun j hj => ⟨(h2 j hj).1, (h2 j hj).2, zc0N_ne (by decide) (by decide) 5⟩⟩
  rw [if_neg (fun w => by omega)]
  exact (h1 t ht).2
theorem zCf_st {sn : Nat → Option Nat} {s3 s4 s4' : zM} {p k : Nat} (hp : p < 2) (hk : k < 30) (hsn : ∀ t, sn k = some t → t < 5) (he : zheM s4 sn k = zheM s3 sn k) (h60 : ∀ j, s4 (60, 0, 0) j = s3 (60, 0, 0) j) (h : zCf sn s3 N p k s4) (hst : zC1 sn s4 p k s4') : zCf sn s3 N p (k + 1) s4' := by
  obtain ⟨c1, c2, c3, c4⟩ := h
  rcases hst with ⟨e0, rfl⟩ | ⟨e1, t, et, hh⟩
  · rw [he] at e0
    have n : ∀ {x : zA} {j : Nat}, x ≠ (56, 0, 0) → x ≠ (57, 0, 0) → zup (zup s4 (56, 0, 0) (30 * p + k) (zK (-1))) (57, 0, 0) (30 * p + k) (zK (-1)) x j = s4 x j := fun h1 h2 => (zup_nk h2).trans (zup_nk h1)
    refine ⟨fun j hj => ?_, fun j hj => ?_, fun t ht => ?_, fun j hj => ?_⟩
    · by_cases q : j = k
      · subst q
        rw [zup_nk (by decide), zup_eq, zup_eq, e0]
        exact ⟨rfl, rfl⟩
      · rw [zup_nk (by decide), zup_ne (fun w => q (by omega)), zup_ne (fun w => q (by omega)), zup_nk (by decide)]
        exact c1 j (by omega)
    · rw [zup_nk (by decide), zup_ne (fun w => by omega), zup_ne (fun w => by omega), zup_nk (by decide)]
      exact c2 j (by omega)
    · rw [n (by decide) (by decide), c3 t ht]
      by_cases q : k = 0
      · subst q
        rw [if_neg (fun w => by omega), if_neg (fun w => by rw [e0] at w; exact absurd w.2.1 (by decide))]
      · by_cases q2 : zheM s3 sn 0 = true ∧ sn 0 = some t
        · rw [if_pos ⟨by omega, q2⟩, if_pos ⟨by omega, q2⟩]
        · rw [if_neg (fun w => q2 w.2), if_neg (fun w => q2 w.2)]
    · rw [n (by decide) (by decide), n (by decide) (by decide), n (by decide) (by decide)]
      exact c4 j hj
  · rw [he] at e1
    have ht5 := hsn t et
    have c2e : ∀ {j : Nat}, zC2 s4 p k t (56, 0, 0) j = if j = 30 * p + k then nI t else s4 (56, 0, 0) j := fun {j} => by
      unfold zC2
      rw [zup_nk (by decide), zup_nk (by decide), zup_nk (by decide), zup_nk (by decide), zup_at]
      by_cases q : j = 30 * p + k
      · rw [if_pos q, if_pos ⟨rfl, q⟩]
      · rw [if_neg q, if_neg (fun w => q w.2)]
    have c2f : ∀ {j : Nat}, zC2 s4 p k t (57, 0, 0) j = if j = 30 * p + k then (if k = 0 then zK (-1) else s3 (60, 0, 0) k) else s4 (57, 0, 0) j := fun {j} => by
      unfold zC2
      rw [zup_nk (by decide), zup_nk (by decide), zup_nk (by decide), zup_at, h60]
      by_cases q : j = 30 * p + k
      · rw [if_pos q, if_pos ⟨rfl, q⟩]
      · rw [if_neg q, if_neg (fun w => q w.2), zup_nk (by decide)]
    have c2g : ∀ {j : Nat}, j ≠ 5 * p + t → zC2 s4 p k t (52, 0, 0) j = s4 (52, 0, 0) j ∧ zC2 s4 p k t (53, 0, 0) j = s4 (53, 0, 0) j := fun {j} hj => by
      unfold zC2
      rw [zup_nk (x := (52, 0, 0)) (by decide), zup_ne (fun w => hj w.2), zup_nk (by decide), zup_nk (by decide), zup_nk (by decide), zup_ne (fun w => hj w.2), zup_nk (by decide), zup_nk (by decide), zup_nk (by decide), zup_nk (by decide)]
      exact ⟨rfl, rfl⟩
    have key : ∀ s5, (∀ j, s5 (56, 0, 0) j = zC2 s4 p k t (56, 0, 0) j) → (∀ j, s5 (57, 0, 0) j = zC2 s4 p k t (57, 0, 0) j) → (∀ j, s5 (52, 0, 0) j = zC2 s4 p k t (52, 0, 0) j) → (∀ j, s5 (53, 0, 0) j = zC2 s4 p k t (53, 0, 0) j) → (∀ j, s5 (54, 0, 0) j = if k = 0 ∧ j = 5 * p + t then nI 1 else s4 (54, 0, 0) j) → zCf sn s3 N p (k + 1) s5 := fun s5 g1 g2 g3 g4 g5 => by
      refine ⟨fun j hj => ?_, fun j hj => ?_, fun t' ht' => ?_, fun j hj => ?_⟩
      · rw [g1, g2, c2e, c2f]
        by_cases q : j = k
        · subst q
          rw [if_pos rfl, if_pos rfl, e1, et]
          exact ⟨rfl, rfl⟩
        · rw [if_neg (by omega), if_neg (by omega)]
          exact c1 j (by omega)
      · rw [g1, g2, c2e, c2f, if_neg (by omega), if_neg (by omega)]
        exact c2 j (by omega)
      · rw [g5, c3 t' ht']
        by_cases q : k = 0
        · subst q
          by_cases q2 : t' = t
          · subst q2
            rw [if_pos ⟨rfl, rfl⟩, if_pos ⟨by omega, e1, et⟩]
          · rw [if_neg (fun w => q2 (by omega)), if_neg (fun w => by omega), if_neg (fun w => q2 (by have := w.2.2; rw [et] at this; exact (Option.some.inj this).symm))]
        · rw [if_neg (fun w => q w.1)]
          by_cases q2 : zheM s3 sn 0 = true ∧ sn 0 = some t'
          · rw [if_pos ⟨by omega, q2⟩, if_pos ⟨by omega, q2⟩]
          · rw [if_neg (fun w => q2 w.2), if_neg (fun w => q2 w.2)]
      · rw [g5, g3, g4, if_neg (fun w => by omega), (c2g (by omega)).1, (c2g (by omega)).2]
        exact c4 j hj
    rcases hh with ⟨k0, rfl⟩ | ⟨k0, hR⟩
    · refine key _ (fun j => ?_) (fun j => ?_) (fun j => ?_) (fun j => ?_) (fun j => ?_)
      · rw [zup_nk (by decide), zup_nk (by decide), zup_nk (by decide)]
      · rw [zup_nk (by decide), zup_nk (by decide), zup_nk (by decide)]
      · rw [zup_nk (by decide), zup_nk (by decide), zup_nk (by decide)]
      · rw [zup_nk (by decide), zup_nk (by decide), zup_nk (by decide)]
      · rw [zup_at]
        by_cases q : j = 5 * p + t
        · rw [if_pos ⟨rfl, q⟩, if_pos ⟨k0, q⟩]
        · rw [if_neg (fun w => q w.2), if_neg (fun w => q w.2), zup_nk (by decide), zup_nk (by decide), zC2_ne (by decide) (by decide) (by decide) (by decide) (by decide)]
    · refine key _ (fun j => zRd_ne hR (by decide) (by decide) (by decide) (by decide) (by decide) (by decide)) (fun j => zRd_ne hR (by decide) (by decide) (by decide) (by decide) (by decide) (by decide)) (fun j => zRd_ne hR (by decide) (by decide) (by decide) (by decide) (by decide) (by decide)) (fun j => zRd_ne hR (by decide) (by decide) (by decide) (by decide) (by decide) (by decide)) (fun j => ?_)
      rw [if_neg (fun w => k0 w.1), zRd_ne hR (by decide) (by decide) (by decide) (by decide) (by decide) (by decide), zC2_ne (by decide) (by decide) (by decide) (by decide) (by decide)]
theorem zCf_all {sn : Nat → Option Nat} {s3 : zM} {p : Nat} (hp : p < 2) (hsn : ∀ k t, k < 30 → sn k = some t → t < 5) : ∀ (k n : Nat) (s4 : zM), k ≤ 30 → zCN sn (zc0N s3 p 5) p k n s4 → zCf sn s3 N p k s4
  | 0, _, _, _, ⟨_, h⟩ => by rw [h]; exact zCf_0
  | k + 1, n, s4', hk, ⟨s4, n', h1, _, h2⟩ => by
    have ih := zCf_all hp hsn k n' s4 (by omega) h1
    have ne : ∀ {x : zA} {j : Nat}, x = (59, 0, 0) ∨ x = (60, 0, 0) ∨ x = (61, 0, 0) ∨ x = (62, 0, 0) ∨ x = (40, 0, 0) ∨ x = (33, 0, 0) ∨ x = (58, 0, 0) ∨ x = (30, 0, 0) → s4 x j = s3 x j := fun {x j} hx => by
      rw [zCN_ne hx k n' s4 h1]
      exact zc0N_ne (by rintro rfl; simp at hx) (by rintro rfl; simp at hx) 5
    exact zCf_st hp (by omega) (fun t ht => hsn k t (by omega) ht) (zheM_cg (fun j => ne (by simp)) (fun j => ne (by simp)) (fun j => ne (by simp))) (fun j => ne (by simp)) ih h2
end S4
