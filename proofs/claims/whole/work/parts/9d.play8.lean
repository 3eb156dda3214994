/-! A superframe's upkeep: the accounts, slot by slot -/
def zA6 (f s : zM) (N p t m : Nat) (z : Nat → Nat) : Prop := zAc f s t ∧ zTz s t m z ∧ f (7, t, 0) 0 = s (44, 0, 0) t ∧ (s (44, 0, 0) t = 0 ∨ s (44, 0, 0) t = nI 1) ∧ (∃ e, 1 ≤ e ∧ e ≤ 61 ∧ s (47, 0, 0) t = nI e) ∧ (s (44, 0, 0) t = 0 ∨ f (7, t, 0) 5 = s (46, 0, 0) t) ∧ ((s (52, 0, 0) (5 * p + t) = nI 1 ∧ f (7, t, 0) 5 = nI N ∧ s (53, 0, 0) (5 * p + t) = s (33, 0, 0) t - (if s (52, 0, 0) (5 * (1 - p) + t) = 0 then nI 0 else s (53, 0, 0) (5 * (1 - p) + t))) ∨ (s (52, 0, 0) (5 * p + t) = nI 0 ∧ (f (7, t, 0) 5 = zK (-7) ∨ ∃ h, h < N ∧ f (7, t, 0) 5 = nI h)))
section S6
variable {N p m : Nat} {z : Nat → Nat}
theorem zTz.cg {s s' : zM} {t : Nat} (h : zTz s t m z) (h1 : ∀ d, d ≤ 60 → s' (51, 0, 0) (61 * t + d) = s (51, 0, 0) (61 * t + d)) : zTz s' t m z := fun d hd => by rw [h1 d hd]; exact h d hd
theorem zA6.cg {f f' s s' : zM} {t : Nat} (h : zA6 f s N p t m z) (hf : ∀ x k, x = (7, t, 0) ∨ x = (8, t, 0) ∨ x = (9, t, 0) → f' x k = f x k) (hs : ∀ κ, 44 ≤ κ → κ ≤ 49 → s' (κ, 0, 0) t = s (κ, 0, 0) t) (h50 : ∀ i, i < 366 → s' (50, 0, 0) (366 * t + i) = s (50, 0, 0) (366 * t + i)) (h51 : ∀ d, d ≤ 60 → s' (51, 0, 0) (61 * t + d) = s (51, 0, 0) (61 * t + d)) (h52 : s' (52, 0, 0) (5 * p + t) = s (52, 0, 0) (5 * p + t)) (h52' : s' (52, 0, 0) (5 * (1 - p) + t) = s (52, 0, 0) (5 * (1 - p) + t)) (h53 : s' (53, 0, 0) (5 * p + t) = s (53, 0, 0) (5 * p + t)) (h53' : s' (53, 0, 0) (5 * (1 - p) + t) = s (53, 0, 0) (5 * (1 - p) + t)) (h33 : s' (33, 0, 0) t = s (33, 0, 0) t) : zA6 f' s' N p t m z := by
  obtain ⟨a, b, c, d, e, g, i⟩ := h
  have h7 : ∀ k, f' (7, t, 0) k = f (7, t, 0) k := fun k => hf _ _ (by simp)
  refine ⟨a.cg (fun k _ => h7 k) (fun k => hf _ _ (by simp)) (fun k => hf _ _ (by simp)) (hs 45 (by omega) (by omega)) (hs 47 (by omega) (by omega)) (hs 48 (by omega) (by omega)) (hs 49 (by omega) (by omega)) h50 h51, b.cg h51, ?_, ?_, ?_, ?_, ?_⟩
  · rw [h7, hs 44 (by omega) (by omega)]; exact c
  · rw [hs 44 (by omega) (by omega)]; exact d
  · rw [hs 47 (by omega) (by omega)]; exact e
  · rw [h7, hs 44 (by omega) (by omega), hs 46 (by omega) (by omega)]; exact g
  · rw [h7, h52, h53, h33, h52', h53']; exact i
theorem zNp.ne {f f' : zM} {t q b e : Nat} {k : Int32} (h : zNp f t q k b e f') {x : zA} {j : Nat} (h7 : x ≠ (7, t, 0)) (h8 : x ≠ (8, t, 0)) (h9 : x ≠ (9, t, 0)) : f' x j = f x j := by
  obtain ⟨f3, m, hd, -, -, -, rfl⟩ := h
  rw [zpassN_ne (Or.inl h7)]
  have e1 : zpassN (znp1 f t q k) t e (max e b - e) x j = f x j := by
    rw [zpassN_ne (Or.inl h7)]
    unfold znp1
    rw [zup_nk h7, zup_nk h7]
  rcases hd with ⟨d, -, -, -, rfl⟩ | ⟨-, rfl⟩
  · unfold znote
    rw [zup_nk h9, zup_nk h8]; exact e1
  · exact e1
theorem zNp.at {f f' : zM} {t q b e : Nat} {k : Int32} (h : zNp f t q k b e f') : f' (7, t, 0) 0 = f (7, t, 0) 0 ∧ f' (7, t, 0) 5 = k := by
  obtain ⟨f3, m, hd, -, -, -, rfl⟩ := h
  have e0 : ∀ j, j = 0 ∨ j = 5 → f3 (7, t, 0) j = znp1 f t q k (7, t, 0) j := fun j hj => by
    rcases hd with ⟨d, -, -, -, rfl⟩ | ⟨-, rfl⟩
    · unfold znote
      rw [zup_nk (fun w => by cases w), zup_nk (fun w => by cases w), zpassN_ne (Or.inr (by omega))]
    · rw [zpassN_ne (Or.inr (by omega))]
  constructor
  · rw [zpassN_ne (Or.inr (by omega)), e0 0 (by omega)]
    unfold znp1
    rw [zup_ne (fun w => absurd w.2 (by decide)), zup_ne (fun w => absurd w.2 (by decide))]
  · rw [zpassN_ne (Or.inr (by omega)), e0 5 (by omega)]
    unfold znp1
    rw [zup_ne (fun w => absurd w.2 (by decide)), zup_eq]
theorem zRd_t {s s' : zM} {t k : Nat} (h : zRd s t k s') {κ j : Nat} (hκ : κ = 45 ∨ κ = 47 ∨ κ = 48 ∨ κ = 49) (hj : j ≠ t) : s' (κ, 0, 0) j = s (κ, 0, 0) j := by
  obtain ⟨e, b, o, f3, m, -, -, -, -, -, -, hd, -, -, -, rfl⟩ := h
  rw [zpmN_t hj]
  rcases hd with ⟨i, d, -, -, -, rfl⟩ | ⟨-, rfl⟩
  · rw [zup_nk (fun w => by have := congrArg Prod.fst w; simp at this; omega), zup_nk (fun w => by have := congrArg Prod.fst w; simp at this; omega), zpmN_t hj, zup_ne (fun w => hj w.2)]
  · rw [zpmN_t hj, zup_ne (fun w => hj w.2)]
theorem zRd_r {s s' : zM} {t k t' : Nat} (h : zRd s t k s') (ht : t' ≠ t) : (∀ i, i < 366 → s' (50, 0, 0) (366 * t' + i) = s (50, 0, 0) (366 * t' + i)) ∧ ∀ d, d ≤ 60 → s' (51, 0, 0) (61 * t' + d) = s (51, 0, 0) (61 * t' + d) := by
  obtain ⟨e, b, o, f3, m, -, -, -, -, -, ro, hd, -, -, -, rfl⟩ := h
  constructor
  · intro i hi
    rw [zpmN_ne (by decide) (by decide) (by decide)]
    rcases hd with ⟨i2, d2, eo, ed, -, rfl⟩ | ⟨-, rfl⟩
    · have := ro i2 eo
      rw [zup_nk (by decide), zup_ne (fun w => by omega), zpmN_ne (by decide) (by decide) (by decide), zup_nk (by decide)]
    · rw [zpmN_ne (by decide) (by decide) (by decide), zup_nk (by decide)]
  · intro d hd'
    rw [zpmN_ne (by decide) (by decide) (by decide)]
    rcases hd with ⟨i2, d2, eo, ed, -, rfl⟩ | ⟨-, rfl⟩
    · have := ro i2 eo
      rw [zup_ne (fun w => by omega), zup_nk (by decide), zpmN_ne (by decide) (by decide) (by decide), zup_nk (by decide)]
    · rw [zpmN_ne (by decide) (by decide) (by decide), zup_nk (by decide)]
end S6
section S6b
variable {M : Nat → Nat} {Z : Nat → Nat → Nat} {N p : Nat}
/-- nothing heard -/
theorem zA6_no {f s s' : zM} {sn : Nat → Option Nat} {k : Nat} (h : ∀ t, t < 5 → zA6 f s N p t (M t) (Z t)) (hno : zheM s sn k = false) (hst : zC1 sn s p k s') : ∀ t, t < 5 → zA6 f s' N p t (M t) (Z t) := by
  intro t ht
  rcases hst with ⟨-, rfl⟩ | ⟨w, -⟩
  · have n : ∀ {x : zA} {j : Nat}, x ≠ (56, 0, 0) → x ≠ (57, 0, 0) → zup (zup s (56, 0, 0) (30 * p + k) (zK (-1))) (57, 0, 0) (30 * p + k) (zK (-1)) x j = s x j := fun h1 h2 => (zup_nk h2).trans (zup_nk h1)
    exact (h t ht).cg (fun _ _ _ => rfl) (fun κ a b => n (fun w => by have := congrArg Prod.fst w; simp at this; omega) (fun w => by have := congrArg Prod.fst w; simp at this; omega)) (fun i _ => n (by decide) (by decide)) (fun d _ => n (by decide) (by decide)) (n (by decide) (by decide)) (n (by decide) (by decide)) (n (by decide) (by decide)) (n (by decide) (by decide)) (n (by decide) (by decide))
  · rw [hno] at w; cases w
theorem zC2_52 {s : zM} {k t : Nat} : zC2 s p k t (52, 0, 0) (5 * p + t) = nI 1 := by
  unfold zC2
  rw [zup_nk (by decide), zup_eq]
theorem zC2_53 {s : zM} {k t : Nat} : zC2 s p k t (53, 0, 0) (5 * p + t) = s (33, 0, 0) t - (if s (52, 0, 0) (5 * (1 - p) + t) = 0 then nI 0 else s (53, 0, 0) (5 * (1 - p) + t)) := by
  unfold zC2
  rw [zup_eq]
theorem zC2_j {s : zM} {k t j : Nat} (hj : j ≠ 5 * p + t) : zC2 s p k t (52, 0, 0) j = s (52, 0, 0) j ∧ zC2 s p k t (53, 0, 0) j = s (53, 0, 0) j := by
  unfold zC2
  rw [zup_nk (x := (52, 0, 0)) (by decide), zup_ne (fun w => hj w.2), zup_nk (by decide), zup_nk (by decide), zup_nk (by decide), zup_ne (fun w => hj w.2), zup_nk (by decide), zup_nk (by decide), zup_nk (by decide), zup_nk (by decide)]
  exact ⟨rfl, rfl⟩
theorem zC2_46 {s : zM} {k t j : Nat} : zC2 s p k t (46, 0, 0) j = if j = t then s (30, 0, 0) 1 else s (46, 0, 0) j := by
  unfold zC2
  rw [zup_nk (by decide), zup_nk (by decide), zup_at]
  by_cases q : j = t
  · rw [if_pos q, if_pos ⟨rfl, q⟩]
  · rw [if_neg q, if_neg (fun w => q w.2), zup_nk (by decide), zup_nk (by decide)]
/-- heard in the door -/
theorem zA6_door {f s s' : zM} {sn : Nat → Option Nat} {t : Nat} (hp : p < 2) (ht : t < 5) (h : ∀ t, t < 5 → zA6 f s N p t (M t) (Z t)) (hy : zheM s sn 0 = true) (hs : sn 0 = some t) (hN : s (30, 0, 0) 1 = nI N) (hst : zC1 sn s p 0 s') : ∀ t', t' < 5 → zA6 (zup (zup (zup f (7, t, 0) 5 (nI N)) (7, t, 0) 0 (nI 1)) (7, t, 0) 1 (nI 0)) s' N p t' (M t') (Z t') := by
  intro t' ht'
  rcases hst with ⟨w, -⟩ | ⟨-, t2, et, ⟨-, rfl⟩ | ⟨k0, -⟩⟩
  · rw [hy] at w; cases w
  · rw [hs] at et
    cases et
    have n : ∀ {x : zA} {j : Nat}, x ≠ (44, 0, 0) → x ≠ (45, 0, 0) → x ≠ (54, 0, 0) → zup (zup (zup (zC2 s p 0 t) (44, 0, 0) t (nI 1)) (45, 0, 0) t (nI 0)) (54, 0, 0) (5 * p + t) (nI 1) x j = zC2 s p 0 t x j := fun h1 h2 h3 => (zup_nk h3).trans ((zup_nk h2).trans (zup_nk h1))
    have n2 : ∀ {x : zA} {j : Nat}, x ≠ (44, 0, 0) → x ≠ (45, 0, 0) → x ≠ (54, 0, 0) → x ≠ (56, 0, 0) → x ≠ (57, 0, 0) → x ≠ (46, 0, 0) → x ≠ (52, 0, 0) → x ≠ (53, 0, 0) → zup (zup (zup (zC2 s p 0 t) (44, 0, 0) t (nI 1)) (45, 0, 0) t (nI 0)) (54, 0, 0) (5 * p + t) (nI 1) x j = s x j := fun h1 h2 h3 h4 h5 h6 h7 h8 => (n h1 h2 h3).trans (zC2_ne h4 h5 h6 h7 h8)
    by_cases q : t' = t
    · subst q
      obtain ⟨a, b, c, d, e, g, i⟩ := h t' ht'
      refine ⟨?_, b.cg (fun d _ => n2 (by decide) (by decide) (by decide) (by decide) (by decide) (by decide) (by decide) (by decide)), ?_, Or.inr ?_, ?_, Or.inr ?_, Or.inl ⟨?_, ?_, ?_⟩⟩
      · obtain ⟨a1, a2, a3, a4, a5⟩ := a
        have hfk : ∀ k, k = 2 ∨ k = 3 ∨ k = 4 → zup (zup (zup f (7, t', 0) 5 (nI N)) (7, t', 0) 0 (nI 1)) (7, t', 0) 1 (nI 0) (7, t', 0) k = f (7, t', 0) k := fun k hk => by
          rw [zup_ne (fun w => by omega), zup_ne (fun w => by omega), zup_ne (fun w => by omega)]
        have base : zAc (zup (zup (zup f (7, t', 0) 5 (nI N)) (7, t', 0) 0 (nI 1)) (7, t', 0) 1 (f (7, t', 0) 1)) s t' := zAc.cg ⟨a1, a2, a3, a4, a5⟩ (fun k hk => by
          rcases hk with rfl | hk
          · rw [zup_eq]
          · rw [zup_ne (fun w => by omega), zup_ne (fun w => by omega), zup_ne (fun w => by omega)]) (fun k => by rw [zup_nk (fun w => by cases w), zup_nk (fun w => by cases w), zup_nk (fun w => by cases w)]) (fun k => by rw [zup_nk (fun w => by cases w), zup_nk (fun w => by cases w), zup_nk (fun w => by cases w)]) rfl rfl rfl rfl (fun _ _ => rfl) (fun _ _ => rfl)
        obtain ⟨-, c2, c3, c4, c5⟩ := base
        have hs' : zAc (zup (zup (zup f (7, t', 0) 5 (nI N)) (7, t', 0) 0 (nI 1)) (7, t', 0) 1 (f (7, t', 0) 1)) (zup (zup (zup (zC2 s p 0 t') (44, 0, 0) t' (nI 1)) (45, 0, 0) t' (f (7, t', 0) 1)) (54, 0, 0) (5 * p + t') (nI 1)) t' := zAc.cg (f := zup (zup (zup f (7, t', 0) 5 (nI N)) (7, t', 0) 0 (nI 1)) (7, t', 0) 1 (f (7, t', 0) 1)) (σ := s) ⟨by rw [zup_eq]; exact a1, c2, c3, c4, c5⟩ (fun _ _ => rfl) (fun _ => rfl) (fun _ => rfl) (by rw [zup_nk (by decide), zup_eq]; exact a1) (by rw [zup_nk (by decide), zup_nk (by decide), zup_nk (by decide), zC2_ne (by decide) (by decide) (by decide) (by decide) (by decide)]) (by rw [zup_nk (by decide), zup_nk (by decide), zup_nk (by decide), zC2_ne (by decide) (by decide) (by decide) (by decide) (by decide)]) (by rw [zup_nk (by decide), zup_nk (by decide), zup_nk (by decide), zC2_ne (by decide) (by decide) (by decide) (by decide) (by decide)]) (fun _ _ => by rw [zup_nk (by decide), zup_nk (by decide), zup_nk (by decide), zC2_ne (by decide) (by decide) (by decide) (by decide) (by decide)]) (fun _ _ => by rw [zup_nk (by decide), zup_nk (by decide), zup_nk (by decide), zC2_ne (by decide) (by decide) (by decide) (by decide) (by decide)])
        obtain ⟨-, d2, d3, d4, d5⟩ := hs'
        refine ⟨by rw [zup_eq, zup_nk (by decide), zup_eq], ?_, ?_, ?_, fun d hd => ?_⟩
        · rw [hfk _ (by omega), n2 (by decide) (by decide) (by decide) (by decide) (by decide) (by decide) (by decide) (by decide)]; exact a2
        · rw [hfk _ (by omega), n2 (by decide) (by decide) (by decide) (by decide) (by decide) (by decide) (by decide) (by decide)]; exact a3
        · rw [hfk _ (by omega), n2 (by decide) (by decide) (by decide) (by decide) (by decide) (by decide) (by decide) (by decide)]; exact a4
        · obtain ⟨nn, n6, e1, e2, e3, e4⟩ := a5 d hd
          have hbb : ∀ k, zbit6 (zup (zup (zup (zC2 s p 0 t') (44, 0, 0) t' (nI 1)) (45, 0, 0) t' (nI 0)) (54, 0, 0) (5 * p + t') (nI 1)) (366 * t' + 6 * d) k = zbit6 s (366 * t' + 6 * d) k := fun k => by
            induction k with
            | zero => rfl
            | succ k ih => unfold zbit6; rw [ih, n2 (by decide) (by decide) (by decide) (by decide) (by decide) (by decide) (by decide) (by decide)]
          refine ⟨nn, n6, ?_, ?_, ?_, fun k hk => ?_⟩
          · rw [n2 (by decide) (by decide) (by decide) (by decide) (by decide) (by decide) (by decide) (by decide)]; exact e1
          · rw [zup_nk (fun w => by cases w), zup_nk (fun w => by cases w), zup_nk (fun w => by cases w)]; exact e2
          · rw [zup_nk (fun w => by cases w), zup_nk (fun w => by cases w), zup_nk (fun w => by cases w), hbb]; exact e3
          · rw [n2 (by decide) (by decide) (by decide) (by decide) (by decide) (by decide) (by decide) (by decide)]; exact e4 k hk
      · rw [zup_ne (fun w => absurd w.2 (by decide)), zup_eq, zup_nk (by decide), zup_nk (by decide), zup_eq]
      · rw [zup_nk (by decide), zup_nk (by decide), zup_eq]
      · rw [n2 (by decide) (by decide) (by decide) (by decide) (by decide) (by decide) (by decide) (by decide)]; exact e
      · rw [zup_ne (fun w => absurd w.2 (by decide)), zup_ne (fun w => absurd w.2 (by decide)), zup_eq, n (by decide) (by decide) (by decide), zC2_46, if_pos rfl, hN]
      · rw [n (by decide) (by decide) (by decide)]; exact zC2_52
      · rw [zup_ne (fun w => absurd w.2 (by decide)), zup_ne (fun w => absurd w.2 (by decide)), zup_eq]
      · rw [n (by decide) (by decide) (by decide), zC2_53, n2 (by decide) (by decide) (by decide) (by decide) (by decide) (by decide) (by decide) (by decide), n (by decide) (by decide) (by decide), n (by decide) (by decide) (by decide), (zC2_j (by omega)).1, (zC2_j (by omega)).2]
    · refine (h t' ht').cg (fun x k hx => ?_) (fun κ a b => ?_) (fun i _ => n2 (by decide) (by decide) (by decide) (by decide) (by decide) (by decide) (by decide) (by decide)) (fun d _ => n2 (by decide) (by decide) (by decide) (by decide) (by decide) (by decide) (by decide) (by decide)) ?_ ?_ ?_ ?_ (n2 (by decide) (by decide) (by decide) (by decide) (by decide) (by decide) (by decide) (by decide))
      · have hne : x ≠ (7, t, 0) := fun w => by
          rw [w] at hx
          rcases hx with hx | hx | hx
          · exact q (by have := congrArg (fun y => y.2.1) hx; simpa using this.symm)
          · cases hx
          · cases hx
        rw [zup_nk hne, zup_nk hne, zup_nk hne]
      · rw [zup_ne (fun w => by have := congrArg Prod.fst w.1; simp at this; omega), zup_ne (fun w => q w.2), zup_ne (fun w => q w.2)]
        by_cases q46 : κ = 46
        · subst q46
          rw [zC2_46, if_neg q]
        · exact zC2_ne (fun w => by have := congrArg Prod.fst w; simp at this; omega) (fun w => by have := congrArg Prod.fst w; simp at this; omega) (fun w => q46 (by have := congrArg Prod.fst w; simpa using this)) (fun w => by have := congrArg Prod.fst w; simp at this; omega) (fun w => by have := congrArg Prod.fst w; simp at this; omega)
      · rw [n (by decide) (by decide) (by decide)]; exact (zC2_j (by omega)).1
      · rw [n (by decide) (by decide) (by decide)]; exact (zC2_j (by omega)).1
      · rw [n (by decide) (by decide) (by decide)]; exact (zC2_j (by omega)).2
      · rw [n (by decide) (by decide) (by decide)]; exact (zC2_j (by omega)).2
  · exact absurd rfl k0
/-- heard in a place -/
theorem zA6_place {f f' s s' : zM} {sn : Nat → Option Nat} {t k b e : Nat} (hp : p < 2) (ht : t < 5) (hk0 : k ≠ 0) (h : ∀ t, t < 5 → zA6 f s N p t (M t) (Z t)) (hy : zheM s sn k = true) (hs : sn k = some t) (hN : s (30, 0, 0) 1 = nI N) (hS : zSz s t (M t) (Z t)) (he : f (7, t, 0) 2 = nI e) (e61 : e ≤ 61) (hb : f (19, k, 0) 2 = nI b) (b61 : b ≤ 61) (hl : f (19, k, 0) 1 = s (61, 0, 0) k) (hb' : f (19, k, 0) 2 = s (62, 0, 0) k) (hC : zCe f s t k (M t) (Z t)) (hNp : zNp f t k (nI N) b e f') (hst : zC1 sn s p k s') : ∀ t', t' < 5 → zA6 f' s' N p t' (M t') (Z t') := by
  intro t' ht'
  rcases hst with ⟨w, -⟩ | ⟨-, t2, et, ⟨w, -⟩ | ⟨-, hR⟩⟩
  · rw [hy] at w; cases w
  · exact absurd w hk0
  · rw [hs] at et
    cases et
    have n1 : ∀ {x : zA} {j : Nat}, x ≠ (56, 0, 0) → x ≠ (57, 0, 0) → x ≠ (46, 0, 0) → x ≠ (52, 0, 0) → x ≠ (53, 0, 0) → zC2 s p k t x j = s x j := fun a b c d e => zC2_ne a b c d e
    have n2 : ∀ {x : zA} {j : Nat}, x ≠ (45, 0, 0) → x ≠ (47, 0, 0) → x ≠ (48, 0, 0) → x ≠ (49, 0, 0) → x ≠ (50, 0, 0) → x ≠ (51, 0, 0) → s' x j = zC2 s p k t x j := fun a b c d e g => zRd_ne hR a b c d e g
    by_cases q : t' = t
    · subst q
      obtain ⟨a, bb, c, d, ⟨e0, e01, e02, e03⟩, g, i⟩ := h t' ht'
      have e1 : 1 ≤ e := by
        have := a.2.1
        rw [he, e03] at this
        have := (nI_eq (by omega) (by omega)).mp this
        omega
      have aC : zAc f (zC2 s p k t') t' := a.cg (fun _ _ => rfl) (fun _ => rfl) (fun _ => rfl) (n1 (by decide) (by decide) (by decide) (by decide) (by decide)) (n1 (by decide) (by decide) (by decide) (by decide) (by decide)) (n1 (by decide) (by decide) (by decide) (by decide) (by decide)) (n1 (by decide) (by decide) (by decide) (by decide) (by decide)) (fun _ _ => n1 (by decide) (by decide) (by decide) (by decide) (by decide)) (fun _ _ => n1 (by decide) (by decide) (by decide) (by decide) (by decide))
      have hTC : zTz (zC2 s p k t') t' (M t') (Z t') := bb.cg (fun _ _ => n1 (by decide) (by decide) (by decide) (by decide) (by decide))
      have hSC : zSz (zC2 s p k t') t' (M t') (Z t') := hS.cg (fun _ => n1 (by decide) (by decide) (by decide) (by decide) (by decide)) (fun _ => n1 (by decide) (by decide) (by decide) (by decide) (by decide))
      have hCC : zCe f (zC2 s p k t') t' k (M t') (Z t') := by
        unfold zCe at hC ⊢
        rw [n1 (by decide) (by decide) (by decide) (by decide) (by decide)]; exact hC
      obtain ⟨r1, r2⟩ := zNR aC hTC hSC he e1 e61 hb b61 (by rw [n1 (by decide) (by decide) (by decide) (by decide) (by decide)]; exact hl) (by rw [n1 (by decide) (by decide) (by decide) (by decide) (by decide)]; exact hb') hCC ht hNp hR
      obtain ⟨g0, g5⟩ := hNp.at
      refine ⟨r1, r2, ?_, ?_, ?_, Or.inr ?_, Or.inl ⟨?_, g5, ?_⟩⟩
      · rw [g0, n2 (by decide) (by decide) (by decide) (by decide) (by decide) (by decide), n1 (by decide) (by decide) (by decide) (by decide) (by decide)]; exact c
      · rw [n2 (by decide) (by decide) (by decide) (by decide) (by decide) (by decide), n1 (by decide) (by decide) (by decide) (by decide) (by decide)]; exact d
      · exact zRd_47 hR ⟨e0, e01, e02, by rw [n1 (by decide) (by decide) (by decide) (by decide) (by decide)]; exact e03⟩
      · rw [g5, n2 (by decide) (by decide) (by decide) (by decide) (by decide) (by decide), zC2_46, if_pos rfl, hN]
      · rw [n2 (by decide) (by decide) (by decide) (by decide) (by decide) (by decide)]; exact zC2_52
      · rw [n2 (by decide) (by decide) (by decide) (by decide) (by decide) (by decide), zC2_53, n2 (by decide) (by decide) (by decide) (by decide) (by decide) (by decide), n1 (by decide) (by decide) (by decide) (by decide) (by decide), n2 (by decide) (by decide) (by decide) (by decide) (by decide) (by decide), n2 (by decide) (by decide) (by decide) (by decide) (by decide) (by decide), (zC2_j (by omega)).1, (zC2_j (by omega)).2]
    · obtain ⟨r1, r2⟩ := zRd_r hR q
      refine (h t' ht').cg (fun x j hx => ?_) (fun κ a b => ?_) (fun i hi => ?_) (fun d hd => ?_) ?_ ?_ ?_ ?_ ?_
      · have hne : ∀ κ, (κ, t, 0) ≠ x := fun κ w => by
          rcases hx with hx | hx | hx <;> exact q (by have := congrArg (fun y => y.2.1) (w.trans hx); simpa using this.symm)
        exact hNp.ne (fun w => hne 7 w.symm) (fun w => hne 8 w.symm) (fun w => hne 9 w.symm)
      · by_cases qk : κ = 45 ∨ κ = 47 ∨ κ = 48 ∨ κ = 49
        · rw [zRd_t hR qk q]
          exact n1 (fun w => by have := congrArg Prod.fst w; simp at this; omega) (fun w => by have := congrArg Prod.fst w; simp at this; omega) (fun w => by have := congrArg Prod.fst w; simp at this; omega) (fun w => by have := congrArg Prod.fst w; simp at this; omega) (fun w => by have := congrArg Prod.fst w; simp at this; omega)
        · rw [n2 (fun w => qk (by have := congrArg Prod.fst w; simp at this; omega)) (fun w => qk (by have := congrArg Prod.fst w; simp at this; omega)) (fun w => qk (by have := congrArg Prod.fst w; simp at this; omega)) (fun w => qk (by have := congrArg Prod.fst w; simp at this; omega)) (fun w => by have := congrArg Prod.fst w; simp at this; omega) (fun w => by have := congrArg Prod.fst w; simp at this; omega)]
          by_cases q46 : κ = 46
          · subst q46
            rw [zC2_46, if_neg q]
          · exact n1 (fun w => by have := congrArg Prod.fst w; simp at this; omega) (fun w => by have := congrArg Prod.fst w; simp at this; omega) (fun w => q46 (by have := congrArg Prod.fst w; simpa using this)) (fun w => by have := congrArg Prod.fst w; simp at this; omega) (fun w => by have := congrArg Prod.fst w; simp at this; omega)
      · rw [r1 i hi]; exact n1 (by decide) (by decide) (by decide) (by decide) (by decide)
      · rw [r2 d hd]; exact n1 (by decide) (by decide) (by decide) (by decide) (by decide)
      · rw [n2 (by decide) (by decide) (by decide) (by decide) (by decide) (by decide)]; exact (zC2_j (by omega)).1
      · rw [n2 (by decide) (by decide) (by decide) (by decide) (by decide) (by decide)]; exact (zC2_j (by omega)).1
      · rw [n2 (by decide) (by decide) (by decide) (by decide) (by decide) (by decide)]; exact (zC2_j (by omega)).2
      · rw [n2 (by decide) (by decide) (by decide) (by decide) (by decide) (by decide)]; exact (zC2_j (by omega)).2
      · rw [n2 (by decide) (by decide) (by decide) (by decide) (by decide) (by decide)]; exact n1 (by decide) (by decide) (by decide) (by decide) (by decide)
end S6b
