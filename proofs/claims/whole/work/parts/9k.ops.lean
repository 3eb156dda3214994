/-! Upkeep by the other calls -/
def zfC2 (f f' : zM) : Prop := ∀ x j, x.1 < 30 → ¬ (x.1 = 3 ∨ x.1 = 4 ∨ x.1 = 5 ∨ x.1 = 6) → f' x j = f x j
def zfM2 (s s' : zM) : Prop := (∀ κ j, 44 ≤ κ → s' (κ, 0, 0) j = s (κ, 0, 0) j) ∧ ∀ j, j ≠ 0 → s' (30, 0, 0) j = s (30, 0, 0) j
section OP
variable {f s f' s' : zM} {N : Nat} {l l' : Nat → List Nat} {α α' : Nat → zAt} {M M' : Nat → Nat} {Z Z' : Nat → Nat → Nat} {W W' Q Q' : Nat → Nat}
theorem zINV.cg3 (h : zINV f s N l α M Z W Q) (hf : zfC2 f f') (hs : zfM2 s s') (hT : ∀ t, t < 5 → zT1 f' s' N t (l' t) (α' t) (M' t) (Z' t)) (hTz : ∀ t, t < 5 → zTz s' t (M' t) (Z' t)) (hH : zHc s' M' Z') (hQ : zQm s' W' Q') (hW : ∀ t, 0 < W' t) : zINV f' s' N l' α' M' Z' W' Q' := by
  obtain ⟨a, ⟨g1, g2, g3, g4, g5, g6, g7, g8⟩, -, -, -, D, G, S, hP⟩ := h
  have hk : ∀ κ a b j, κ < 30 → ¬ (κ = 3 ∨ κ = 4 ∨ κ = 5 ∨ κ = 6) → f' (κ, a, b) j = f (κ, a, b) j := fun κ a b j h1 h2 => hf _ _ h1 h2
  refine ⟨fun t ht => ⟨hT t ht, ?_, fun p hp => ?_⟩, ⟨fun p j hp hj => ?_, fun p hp => (g2 p hp).cg (fun j _ => hs.1 _ _ (by omega)), fun j hj => ?_, fun j hj => ?_, ?_, ?_, g7, ?_⟩, hH, hQ, hW, D, G, S, ?_⟩
  · obtain ⟨a1, -, c, d, e, g, i⟩ := (a t ht).2.1
    refine ⟨a1.cg (fun k _ => hk 7 _ _ _ (by omega) (by omega)) (fun k => hk 8 _ _ _ (by omega) (by omega)) (fun k => hk 9 _ _ _ (by omega) (by omega)) (hs.1 _ _ (by omega)) (hs.1 _ _ (by omega)) (hs.1 _ _ (by omega)) (hs.1 _ _ (by omega)) (fun _ _ => hs.1 _ _ (by omega)) (fun _ _ => hs.1 _ _ (by omega)), hTz t ht, ?_, ?_, ?_, ?_, ?_⟩
    · rw [hk 7 _ _ _ (by omega) (by omega), hs.1 _ _ (by omega)]; exact c
    · rw [hs.1 _ _ (by omega)]; exact d
    · rw [hs.1 _ _ (by omega)]; exact e
    · rw [hk 7 _ _ _ (by omega) (by omega), hs.1 _ _ (by omega), hs.1 _ _ (by omega)]; exact g
    · rw [hk 7 _ _ _ (by omega) (by omega)]; exact i
  · obtain ⟨a1, b, c, rl, d, e⟩ := (a t ht).2.2 p hp
    refine ⟨?_, ?_, ?_, rl, d.cg2 (hk 10 _ _ _ (by omega) (by omega)) (fun k => hk 11 _ _ _ (by omega) (by omega)) (fun k => hk 12 _ _ _ (by omega) (by omega)), e.cg (fun j => hs.1 _ _ (by omega)) (fun j => hs.1 _ _ (by omega))⟩
    · rw [hk 10 _ _ _ (by omega) (by omega), hs.1 _ _ (by omega)]; exact a1
    · rw [hk 10 _ _ _ (by omega) (by omega), hs.1 _ _ (by omega)]; exact b
    · rw [hk 10 _ _ _ (by omega) (by omega), hs.1 _ _ (by omega), hs.1 _ _ (by omega)]; exact c
  · rw [hk 17 _ _ _ (by omega) (by omega), hs.1 _ _ (by omega)]; exact g1 p j hp hj
  · rw [hk 20 _ _ _ (by omega) (by omega), hs.1 _ _ (by omega)]; exact g3 j hj
  · rw [hk 21 _ _ _ (by omega) (by omega), hs.1 _ _ (by omega)]; exact g4 j hj
  · rw [hk 0 _ _ _ (by omega) (by omega)]; exact g5
  · rw [hs.2 1 (by decide)]; exact g6
  · rw [hk 0 _ _ _ (by omega) (by omega), hs.2 2 (by decide)]; exact g8
  · exact ⟨fun t ht => by rw [hk 14 _ _ _ (by omega) (by omega), hk 15 _ _ _ (by omega) (by omega)]; exact hP.1 t ht, by rw [hk 13 _ _ _ (by omega) (by omega)]; exact hP.2.1, hP.2.2⟩
theorem zINV.thr {v : Int32} (h : zINV f f N l α M Z W Q) : zINV (zup f (30, 0, 0) 0 v) (zup f (30, 0, 0) 0 v) N l α M Z W Q := h.cg (fun x j hx => zup_nk (fun w => by rw [w] at hx; exact absurd hx (by decide))) (fun x j _ h0 => zup_ne h0)
/-- the state of a terminal, where only its own class fields and its own entry change -/
theorem zINV.one {F : zM} {t : Nat} (h : zINV f f N l α M Z W Q) (ht : t < 5) (hf : ∀ x j, x ≠ (3, t, 0) → ¬ (x = (30, 0, 0) ∧ j = 0) → ¬ (x.2 = (0, 0) ∧ 31 ≤ x.1 ∧ x.1 ≤ 39 ∧ j = t) → F x j = f x j) (hs : zRs F F t) (ho : zRo F F t) (hl : zLv F N t) (h36 : F (36, 0, 0) t = f (36, 0, 0) t) (hQ : zQm F W' Q') (hW : ∀ t, 0 < W' t) : zINV F F N l α M Z W' Q' := by
  have hc : ∀ κ j, 40 ≤ κ → F (κ, 0, 0) j = f (κ, 0, 0) j := fun κ j hκ => hf _ _ (fun w => by have := congrArg Prod.fst w; simp at this; omega) (fun w => by have := congrArg Prod.fst w.1; simp at this; omega) (fun w => by have h1 : κ ≤ 39 := w.2.2.1; omega)
  have h3 : ∀ a k, (a.1 = 4 ∨ a.1 = 5 ∨ a.1 = 6) → F a k = f a k := fun a k h1 => hf a k (fun w => by rw [w] at h1; simp at h1) (fun w => by rw [w.1] at h1; simp at h1) (fun w => by have := w.2.1; omega)
  refine h.cg3 (fun x j hx h2 => hf x j (fun w => h2 (by rw [w]; exact Or.inl rfl)) (fun w => by rw [w.1] at hx; exact absurd hx (by decide)) (fun w => by have := w.2.1; omega)) ⟨fun κ j hκ => hc κ j (by omega), fun j hj => hf _ _ (fun w => by cases w) (fun w => hj w.2) (fun w => absurd w.2.1 (by decide))⟩ (fun t' ht' => ?_) (fun t' ht' => (h.1 t' ht').2.1.2.1.cg (fun d _ => hc 51 _ (by omega))) (h.2.2.1.cg (fun j => hc 56 j (by omega)) (fun j => hc 57 j (by omega))) hQ hW
  by_cases q : t' = t
  · subst q
    obtain ⟨-, -, c, d, -, g⟩ := (h.1 t' ht').1
    exact ⟨hs, ho, c.cg' h36 (fun d _ => hc 40 _ (by omega)), d.cg (fun i _ => hc 41 _ (by omega)) (fun i _ => hc 42 _ (by omega)) (fun i _ => hc 43 _ (by omega)), hl, g.fr (fun a k _ h2 => h3 a k h2)⟩
  · refine (h.1 t' ht').1.cg (fun a k h1 h2 => ?_) ⟨fun κ h1 h2 => ?_, fun i _ => ⟨hc 41 _ (by omega), hc 42 _ (by omega), hc 43 _ (by omega)⟩, fun d _ => hc 40 _ (by omega)⟩
    · rcases h2 with h2 | h2
      · exact hf a k (fun w => q (by rw [← h1, w])) (fun w => by rw [w.1] at h2; exact absurd h2 (by decide)) (fun w => by have := w.2.1; omega)
      · exact h3 a k h2
    · exact hf _ _ (fun w => by have := congrArg Prod.fst w; simp at this; omega) (fun w => by have := congrArg Prod.fst w.1; simp at this; omega) (fun w => q w.2.2.2)
theorem u_rates {t a b : Nat} (h : zINV f f N l α M Z W Q) (ht : t < 5) (ha : a ≤ 5) (hb1 : 1 ≤ b) (hb : b ≤ 4) : zINV (zup (zup (zup (zup (zup f (3, t, 0) 0 (nI a)) (3, t, 0) 1 (nI b)) (30, 0, 0) 0 (nI 0)) (38, 0, 0) t (nI a)) (39, 0, 0) t (nI b)) (zup (zup (zup (zup (zup f (3, t, 0) 0 (nI a)) (3, t, 0) 1 (nI b)) (30, 0, 0) 0 (nI 0)) (38, 0, 0) t (nI a)) (39, 0, 0) t (nI b)) N l α M Z (zfu W t b) (zfu Q t a) := by
  obtain ⟨⟨a1, a2, a3, a4, a5, a6, a7⟩, ao, -, -, av, -⟩ := (h.1 t ht).1
  have e3 : ∀ j, zup (zup (zup (zup (zup f (3, t, 0) 0 (nI a)) (3, t, 0) 1 (nI b)) (30, 0, 0) 0 (nI 0)) (38, 0, 0) t (nI a)) (39, 0, 0) t (nI b) (3, t, 0) j = if j = 1 then nI b else if j = 0 then nI a else f (3, t, 0) j := fun j => by
    rw [zup_nk (fun w => by cases w), zup_nk (fun w => by cases w), zup_nk (fun w => by cases w), zup_at, zup_at]
    by_cases q : j = 1
    · rw [if_pos q, if_pos ⟨rfl, q⟩]
    · rw [if_neg q, if_neg (fun w => q w.2)]
      by_cases q2 : j = 0
      · rw [if_pos q2, if_pos ⟨rfl, q2⟩]
      · rw [if_neg q2, if_neg (fun w => q2 w.2)]
  have ek : ∀ κ j, κ ≠ 38 → κ ≠ 39 → 31 ≤ κ → zup (zup (zup (zup (zup f (3, t, 0) 0 (nI a)) (3, t, 0) 1 (nI b)) (30, 0, 0) 0 (nI 0)) (38, 0, 0) t (nI a)) (39, 0, 0) t (nI b) (κ, 0, 0) j = f (κ, 0, 0) j := fun κ j h1 h2 h3 => by
    have ne : ∀ {k a b : Nat}, κ ≠ k → ((κ, 0, 0) : zA) ≠ (k, a, b) := fun hk w => hk (congrArg Prod.fst w)
    rw [zup_nk (ne h2), zup_nk (ne h1), zup_nk (ne (by omega)), zup_nk (ne (by omega)), zup_nk (ne (by omega))]
  have e38 : ∀ j, zup (zup (zup (zup (zup f (3, t, 0) 0 (nI a)) (3, t, 0) 1 (nI b)) (30, 0, 0) 0 (nI 0)) (38, 0, 0) t (nI a)) (39, 0, 0) t (nI b) (38, 0, 0) j = if j = t then nI a else f (38, 0, 0) j := fun j => by
    rw [zup_nk (by decide), zup_at]
    by_cases q : j = t
    · rw [if_pos q, if_pos ⟨rfl, q⟩]
    · rw [if_neg q, if_neg (fun w => q w.2), zup_nk (by decide), zup_nk (fun w => by cases w), zup_nk (fun w => by cases w)]
  have e39 : ∀ j, zup (zup (zup (zup (zup f (3, t, 0) 0 (nI a)) (3, t, 0) 1 (nI b)) (30, 0, 0) 0 (nI 0)) (38, 0, 0) t (nI a)) (39, 0, 0) t (nI b) (39, 0, 0) j = if j = t then nI b else f (39, 0, 0) j := fun j => by
    rw [zup_at]
    by_cases q : j = t
    · rw [if_pos q, if_pos ⟨rfl, q⟩]
    · rw [if_neg q, if_neg (fun w => q w.2), zup_nk (by decide), zup_nk (by decide), zup_nk (fun w => by cases w), zup_nk (fun w => by cases w)]
  refine h.one ht (fun x j h1 h2 h3 => ?_) ⟨?_, ?_, ?_, ?_, ?_, ?_, ?_⟩ ?_ ⟨?_, ?_⟩ (ek 36 t (by omega) (by omega) (by omega)) (fun t' ht' => ?_) (fun t' => ?_)
  · rw [zup_ne (fun w => h3 (by rw [w.1, w.2]; exact ⟨rfl, by decide, by decide, rfl⟩)), zup_ne (fun w => h3 (by rw [w.1, w.2]; exact ⟨rfl, by decide, by decide, rfl⟩)), zup_ne h2, zup_nk h1, zup_nk h1]
  · rw [e3, e38, if_neg (show ¬ (0 = 1) by decide), if_pos (show 0 = 0 from rfl), if_pos (show t = t from rfl)]
  · rw [e3, e39, if_pos (show 1 = 1 from rfl), if_pos (show t = t from rfl)]
  · rw [e3, ek 34 _ (by omega) (by omega) (by omega)]; exact a3
  · rw [e3, ek 31 _ (by omega) (by omega) (by omega)]; exact a4
  · rw [e3, ek 31 _ (by omega) (by omega) (by omega), ek 32 _ (by omega) (by omega) (by omega)]; exact a5
  · rw [e3, ek 35 _ (by omega) (by omega) (by omega)]; exact a6
  · rw [e3, ek 37 _ (by omega) (by omega) (by omega)]; exact a7
  · unfold zRo
    rw [e3, ek 33 _ (by omega) (by omega) (by omega)]; exact ao
  · rw [ek 31 _ (by omega) (by omega) (by omega)]; exact av.1
  · rw [ek 31 _ (by omega) (by omega) (by omega), ek 32 _ (by omega) (by omega) (by omega)]; exact av.2
  · rw [e38, e39]
    unfold zfu
    by_cases q : t' = t
    · rw [if_pos q, if_pos q, if_pos q, if_pos q]
      exact ⟨rfl, ha, rfl, hb1, hb⟩
    · rw [if_neg q, if_neg q, if_neg q, if_neg q]
      exact h.2.2.2.1 t' ht'
  · unfold zfu
    split
    · omega
    · exact h.2.2.2.2.1 t'
theorem u_drift {t : Nat} {y : Int32} (h : zINV f f N l α M Z W Q) (ht : t < 5) : zINV (zup (zup (zup f (3, t, 0) 3 y) (30, 0, 0) 0 (nI 0)) (34, 0, 0) t y) (zup (zup (zup f (3, t, 0) 3 y) (30, 0, 0) 0 (nI 0)) (34, 0, 0) t y) N l α M Z W Q := by
  obtain ⟨⟨a1, a2, a3, a4, a5, a6, a7⟩, ao, -, -, av, -⟩ := (h.1 t ht).1
  have e3 : ∀ j, zup (zup (zup f (3, t, 0) 3 y) (30, 0, 0) 0 (nI 0)) (34, 0, 0) t y (3, t, 0) j = if j = 3 then y else f (3, t, 0) j := fun j => by
    rw [zup_nk (fun w => by cases w), zup_nk (fun w => by cases w), zup_at]
    by_cases q : j = 3
    · rw [if_pos q, if_pos ⟨rfl, q⟩]
    · rw [if_neg q, if_neg (fun w => q w.2)]
  have ek : ∀ κ j, κ ≠ 34 → 31 ≤ κ → zup (zup (zup f (3, t, 0) 3 y) (30, 0, 0) 0 (nI 0)) (34, 0, 0) t y (κ, 0, 0) j = f (κ, 0, 0) j := fun κ j h1 h3 => by
    have ne : ∀ {k a b : Nat}, κ ≠ k → ((κ, 0, 0) : zA) ≠ (k, a, b) := fun hk w => hk (congrArg Prod.fst w)
    rw [zup_nk (ne h1), zup_nk (ne (by omega)), zup_nk (ne (by omega))]
  refine h.one ht (fun x j h1 h2 h3 => ?_) ⟨?_, ?_, ?_, ?_, ?_, ?_, ?_⟩ ?_ ⟨?_, ?_⟩ (ek 36 t (by omega) (by omega)) (fun t' ht' => ?_) h.2.2.2.2.1
  · rw [zup_ne (fun w => h3 (by rw [w.1, w.2]; exact ⟨rfl, by decide, by decide, rfl⟩)), zup_ne h2, zup_nk h1]
  · rw [e3, ek 38 _ (by omega) (by omega)]; exact a1
  · rw [e3, ek 39 _ (by omega) (by omega)]; exact a2
  · rw [e3, zup_eq]; rfl
  · rw [e3, ek 31 _ (by omega) (by omega)]; exact a4
  · rw [e3, ek 31 _ (by omega) (by omega), ek 32 _ (by omega) (by omega)]; exact a5
  · rw [e3, ek 35 _ (by omega) (by omega)]; exact a6
  · rw [e3, ek 37 _ (by omega) (by omega)]; exact a7
  · unfold zRo
    rw [e3, ek 33 _ (by omega) (by omega)]; exact ao
  · rw [ek 31 _ (by omega) (by omega)]; exact av.1
  · rw [ek 31 _ (by omega) (by omega), ek 32 _ (by omega) (by omega)]; exact av.2
  · rw [ek 38 _ (by omega) (by omega), ek 39 _ (by omega) (by omega)]
    exact h.2.2.2.1 t' ht'
theorem u_on {t : Nat} (h : zINV f f N l α M Z W Q) (ht : t < 5) : zINV (zup (zup (zup (zup (zup f (3, t, 0) 4 (nI 1)) (3, t, 0) 5 (nI 0)) (30, 0, 0) 0 (nI 0)) (31, 0, 0) t (nI 1)) (32, 0, 0) t (nI 0)) (zup (zup (zup (zup (zup f (3, t, 0) 4 (nI 1)) (3, t, 0) 5 (nI 0)) (30, 0, 0) 0 (nI 0)) (31, 0, 0) t (nI 1)) (32, 0, 0) t (nI 0)) N l α M Z W Q := by
  obtain ⟨⟨a1, a2, a3, a4, a5, a6, a7⟩, ao, -, -, av, -⟩ := (h.1 t ht).1
  have e3 : ∀ j, zup (zup (zup (zup (zup f (3, t, 0) 4 (nI 1)) (3, t, 0) 5 (nI 0)) (30, 0, 0) 0 (nI 0)) (31, 0, 0) t (nI 1)) (32, 0, 0) t (nI 0) (3, t, 0) j = if j = 5 then nI 0 else if j = 4 then nI 1 else f (3, t, 0) j := fun j => by
    rw [zup_nk (fun w => by cases w), zup_nk (fun w => by cases w), zup_nk (fun w => by cases w), zup_at, zup_at]
    by_cases q : j = 5
    · rw [if_pos q, if_pos ⟨rfl, q⟩]
    · rw [if_neg q, if_neg (fun w => q w.2)]
      by_cases q2 : j = 4
      · rw [if_pos q2, if_pos ⟨rfl, q2⟩]
      · rw [if_neg q2, if_neg (fun w => q2 w.2)]
  have ek : ∀ κ j, κ ≠ 31 → κ ≠ 32 → 31 ≤ κ → zup (zup (zup (zup (zup f (3, t, 0) 4 (nI 1)) (3, t, 0) 5 (nI 0)) (30, 0, 0) 0 (nI 0)) (31, 0, 0) t (nI 1)) (32, 0, 0) t (nI 0) (κ, 0, 0) j = f (κ, 0, 0) j := fun κ j h1 h2 h3 => by
    have ne : ∀ {k a b : Nat}, κ ≠ k → ((κ, 0, 0) : zA) ≠ (k, a, b) := fun hk w => hk (congrArg Prod.fst w)
    rw [zup_nk (ne h2), zup_nk (ne h1), zup_nk (ne (by omega)), zup_nk (ne (by omega)), zup_nk (ne (by omega))]
  refine h.one ht (fun x j h1 h2 h3 => ?_) ⟨?_, ?_, ?_, ?_, ?_, ?_, ?_⟩ ?_ ⟨?_, ?_⟩ (ek 36 t (by omega) (by omega) (by omega)) (fun t' ht' => ?_) h.2.2.2.2.1
  · rw [zup_ne (fun w => h3 (by rw [w.1, w.2]; exact ⟨rfl, by decide, by decide, rfl⟩)), zup_ne (fun w => h3 (by rw [w.1, w.2]; exact ⟨rfl, by decide, by decide, rfl⟩)), zup_ne h2, zup_nk h1, zup_nk h1]
  · rw [e3, ek 38 _ (by omega) (by omega) (by omega)]; exact a1
  · rw [e3, ek 39 _ (by omega) (by omega) (by omega)]; exact a2
  · rw [e3, ek 34 _ (by omega) (by omega) (by omega)]; exact a3
  · rw [e3, zup_nk (by decide), zup_eq]; rfl
  · intro _
    rw [e3, zup_eq]; rfl
  · rw [e3, ek 35 _ (by omega) (by omega) (by omega)]; exact a6
  · rw [e3, ek 37 _ (by omega) (by omega) (by omega)]; exact a7
  · unfold zRo
    rw [e3, ek 33 _ (by omega) (by omega) (by omega)]; exact ao
  · rw [zup_nk (by decide), zup_eq]; exact Or.inr (Or.inl rfl)
  · intro _
    exact ⟨0, by omega, zup_eq⟩
  · rw [ek 38 _ (by omega) (by omega) (by omega), ek 39 _ (by omega) (by omega) (by omega)]
    exact h.2.2.2.1 t' ht'
theorem u_lose {q : Nat} (h : zINV f f N l α M Z W Q) (hq : q < 30) : zINV (zup (zup (zup f (20, 0, 0) q 1) (30, 0, 0) 0 (nI 0)) (58, 0, 0) q (nI 1)) (zup (zup (zup f (20, 0, 0) q 1) (30, 0, 0) 0 (nI 0)) (58, 0, 0) q (nI 1)) N l α M Z W Q := by
  have ne : ∀ x j, x ≠ (20, 0, 0) → ¬ (x = (30, 0, 0) ∧ j = 0) → x ≠ (58, 0, 0) → zup (zup (zup f (20, 0, 0) q 1) (30, 0, 0) 0 (nI 0)) (58, 0, 0) q (nI 1) x j = f x j := fun x j h1 h2 h3 => by rw [zup_nk h3, zup_ne h2, zup_nk h1]
  obtain ⟨a, ⟨g1, g2, g3, g4, g5, g6, g7, g8⟩, c, d, e, D, G, S, hP⟩ := h
  have nm : ∀ κ j, 31 ≤ κ → κ ≠ 58 → zup (zup (zup f (20, 0, 0) q 1) (30, 0, 0) 0 (nI 0)) (58, 0, 0) q (nI 1) (κ, 0, 0) j = f (κ, 0, 0) j := fun κ j h1 h2 => ne _ _ (fun w => by have := congrArg Prod.fst w; simp at this; omega) (fun w => by have := congrArg Prod.fst w.1; simp at this; omega) (fun w => h2 (by have := congrArg Prod.fst w; simpa using this))
  have nc : ∀ x j, x.1 < 30 → x.1 ≠ 20 → zup (zup (zup f (20, 0, 0) q 1) (30, 0, 0) 0 (nI 0)) (58, 0, 0) q (nI 1) x j = f x j := fun x j h1 h2 => ne x j (fun w => h2 (by rw [w])) (fun w => by rw [w.1] at h1; exact absurd h1 (by decide)) (fun w => by rw [w] at h1; exact absurd h1 (by decide))
  have n30 : ∀ j, j ≠ 0 → zup (zup (zup f (20, 0, 0) q 1) (30, 0, 0) 0 (nI 0)) (58, 0, 0) q (nI 1) (30, 0, 0) j = f (30, 0, 0) j := fun j hj => ne _ _ (by decide) (fun w => hj w.2) (by decide)
  refine ⟨fun t ht => ⟨(a t ht).1.cg (fun x k _ h2 => nc x k (by omega) (by omega)) (zSa.rf (fun κ j h1 h2 => nm κ j (by omega) (by omega))), ?_, fun p hp => ?_⟩, ⟨fun p j hp hj => ?_, fun p hp => (g2 p hp).cg (fun j _ => nm 55 _ (by omega) (by omega)), fun j hj => ?_, fun j hj => ?_, ?_, ?_, g7, ?_⟩, c.cg (fun j => nm 56 _ (by omega) (by omega)) (fun j => nm 57 _ (by omega) (by omega)), fun t ht => ?_, e, D, G, S, ?_⟩
  · obtain ⟨a1, b1, c1, d1, e1, h1, i1⟩ := (a t ht).2.1
    refine ⟨a1.cg (fun k _ => nc _ _ (by simp) (by simp)) (fun k => nc _ _ (by simp) (by simp)) (fun k => nc _ _ (by simp) (by simp)) (nm 45 _ (by omega) (by omega)) (nm 47 _ (by omega) (by omega)) (nm 48 _ (by omega) (by omega)) (nm 49 _ (by omega) (by omega)) (fun _ _ => nm 50 _ (by omega) (by omega)) (fun _ _ => nm 51 _ (by omega) (by omega)), b1.cg (fun _ _ => nm 51 _ (by omega) (by omega)), ?_, ?_, ?_, ?_, ?_⟩
    · rw [nc (7, t, 0) _ (by simp) (by simp), nm 44 _ (by omega) (by omega)]; exact c1
    · rw [nm 44 _ (by omega) (by omega)]; exact d1
    · rw [nm 47 _ (by omega) (by omega)]; exact e1
    · rw [nc (7, t, 0) _ (by simp) (by simp), nm 44 _ (by omega) (by omega), nm 46 _ (by omega) (by omega)]; exact h1
    · rw [nc (7, t, 0) _ (by simp) (by simp)]; exact i1
  · obtain ⟨a1, b1, c1, rl, d1, e1⟩ := (a t ht).2.2 p hp
    refine ⟨?_, ?_, ?_, rl, d1.cg2 (nc _ _ (by simp) (by simp)) (fun k => nc _ _ (by simp) (by simp)) (fun k => nc _ _ (by simp) (by simp)), e1.cg (fun j => nm 56 _ (by omega) (by omega)) (fun j => nm 57 _ (by omega) (by omega))⟩
    · rw [nc (10, t, p) _ (by simp) (by simp), nm 54 _ (by omega) (by omega)]; exact a1
    · rw [nc (10, t, p) _ (by simp) (by simp), nm 52 _ (by omega) (by omega)]; exact b1
    · rw [nc (10, t, p) _ (by simp) (by simp), nm 52 _ (by omega) (by omega), nm 53 _ (by omega) (by omega)]; exact c1
  · rw [nc (17, p, 0) _ (by simp) (by simp), nm 55 _ (by omega) (by omega)]; exact g1 p j hp hj
  · by_cases e0 : j = q
    · subst e0
      rw [zup_nk (by decide), zup_nk (by decide), zup_eq, zup_eq]; rfl
    · exact ((zup_nk (by decide)).trans ((zup_nk (by decide)).trans (zup_ne (fun w => e0 w.2)))).trans ((g3 j hj).trans ((zup_ne (fun w => e0 w.2)).trans ((zup_nk (by decide)).trans (zup_nk (by decide)))).symm)
  · rw [nc (21, 0, 0) _ (by simp) (by simp), nm 56 _ (by omega) (by omega)]; exact g4 j hj
  · rw [nc (0, 0, 0) _ (by simp) (by simp)]; exact g5
  · rw [n30 1 (by decide)]; exact g6
  · rw [nc (0, 0, 0) _ (by simp) (by simp), n30 2 (by decide)]; exact g8
  · rw [nm 38 _ (by omega) (by omega), nm 39 _ (by omega) (by omega)]; exact d t ht
  · exact ⟨fun t ht => by rw [nc (14, 0, 0) _ (by simp) (by simp), nc (15, 0, 0) _ (by simp) (by simp)]; exact hP.1 t ht, by rw [nc (13, 0, 0) _ (by simp) (by simp)]; exact hP.2.1, hP.2.2⟩
end OP
