/-! The law: its helpers -/
theorem lg_self (x : Int64) : lg_cmp x x = 0 := by
  unfold lg_cmp
  rw [if_neg, if_pos rfl]
  intro h
  rw [GT.gt, Int64.lt_iff_toInt_lt] at h
  omega
abbrev zout : Option zV := some (.inr (.inl (70, 0, 0)))
section LH
variable {sc : zC} {c s : Nat} {f : zM} {g : zW} {K : zR → Prop} {x y z : Int32}
theorem h_rates (hc : 258 ≤ c) (h1 : ∀ t, t < 5 → x = nI t → (0 ≤ y ∧ y ≤ 5) → (1 ≤ z ∧ z ≤ 4) → K (.inl (some (.inl (nI 0))), zN c s (zup (zup f (3, t, 0) 0 y) (3, t, 0) 1 z) g)) (h0 : ¬ (zter x ∧ (0 ≤ y ∧ y ≤ 5) ∧ (1 ≤ z ∧ z ≤ 4)) → K (.inl (some (.inl (nI 1))), zN (c + 1) (s + 6) f g)) : zT sc 113 0 true [zsu, some (.inl x), some (.inl y), some (.inl z)] [] (zN c s f g) K := by
  refine zb ?_
  refine p_rates hc (fun t ht e a b => ?_) (fun a => ?_)
  · refine zb ?_
    exact h1 t ht e a b
  · refine zb ?_
    exact h0 a
theorem h_drift (hc : 258 ≤ c) (k1 : ∀ t, t < 5 → x = nI t → (zK (-4) ≤ y ∧ y ≤ nI 4) → K (.inl (some (.inl (nI 0))), zN c s (zup f (3, t, 0) 3 y) g)) (k0 : ¬ (zter x ∧ (zK (-4) ≤ y ∧ y ≤ nI 4)) → K (.inl (some (.inl (nI 1))), zN (c + 1) (s + 6) f g)) : zT sc 115 0 true [zsu, some (.inl x), some (.inl y)] [] (zN c s f g) K := by
  refine zb ?_
  refine p_drift hc (fun t ht e a => ?_) (fun a => ?_)
  · refine zb ?_
    exact k1 t ht e a
  · refine zb ?_
    exact k0 a
theorem h_lose (hc : 258 ≤ c) (k1 : ∀ sl ca, sl < 10 → ca < 3 → x = nI sl → y = nI ca → K (.inl (some (.inl (nI 0))), zN c s (zup f (20, 0, 0) (sl * 3 + ca) 1) g)) (k0 : ¬ zslo x y → K (.inl (some (.inl (nI 1))), zN (c + 1) (s + 6) f g)) : zT sc 117 0 true [zsu, some (.inl x), some (.inl y)] [] (zN c s f g) K := by
  refine zb ?_
  refine p_lose hc (fun sl ca a b e e' => ?_) (fun a => ?_)
  · refine zb ?_
    exact k1 sl ca a b e e'
  · refine zb ?_
    exact k0 a
section PW
variable {l : Nat → List Nat} {α : Nat → zAt} {md : Nat → Int32}
theorem h_power (hc : 258 ≤ c) (hB : ∀ t, t < 5 → zBR f t (l t) (α t) (md t)) (hy : y = nI 0 ∨ y = nI 1) (k0 : ¬ zter x → K (.inl (some (.inl (nI 1))), zN (c + 1) (s + 6) f g))
    (kn : ∀ t, t < 5 → x = nI t → y = (if f (3, t, 0) 4 = 0 then nI 0 else nI 1) → K (.inl (some (.inl (nI 0))), zN c s f (zup g (70, 0, 0) 0 (Int64.ofNat 0))))
    (ka : ∀ t, t < 5 → x = nI t → f (3, t, 0) 4 = 0 → ¬ y = 0 → K (.inl (some (.inl (nI 0))), zN c s (zup (zup f (3, t, 0) 4 (nI 1)) (3, t, 0) 5 (nI 0)) (zup g (70, 0, 0) 0 (Int64.ofNat 1))))
    (kb : ∀ t f', t < 5 → x = nI t → ¬ f (3, t, 0) 4 = 0 → y = 0 → zFr t (zup f (3, t, 0) 4 (nI 0)) f' → zBR f' t (l t) ((l t).foldl (fun α x => zau (zau α x 3 0) x 5 0) (α t)) (md t) → K (.inl (some (.inl (nI 0))), zN c s f' (zup g (70, 0, 0) 0 (Int64.ofNat 1)))) : zT sc 114 0 true [zsu, some (.inl x), some (.inl y), zout] [] (zN c s f g) K := by
  refine zb ?_
  refine p_power hc hB (fun a => ?_) (fun t ht e a => ?_) (fun t ht e a _ b => ?_) (fun t f' ht e a _ b d e' => ?_) hy
  · refine zb ?_
    exact k0 a
  · refine zb ?_
    refine zb ?_
    refine zb ?_
    exact kn t ht e a
  · refine zb ?_
    refine zb ?_
    exact ka t ht e a b
  · refine zb ?_
    refine zb ?_
    exact kb t f' ht e a b d e'
end PW
theorem h_send {l : Nat → List Nat} {α : Nat → zAt} {M : Nat → Nat} (hc : 258 ≤ c) (hB : ∀ t, t < 5 → zBR f t (l t) (α t) (nI (M t))) (hM : ∀ t, t < 5 → M t ≤ 60) (hx : ∀ t, t < 5 → ∀ j, 6 * (M t + 1) + j ∉ l t)
    (k1 : ∀ t n f' α', t < 5 → 1 ≤ n → n ≤ 6 → x = nI t → y = nI n → (l t).length + n ≤ 24 → M t < 60 → zFr t f f' → zBR f' t (l t ++ (List.range' 0 n).map (6 * (M t + 1) + ·)) α' (nI (M t + 1)) → zAd (α t) α' (M t + 1) n (nI (M t + 1)) (List.range' 0 n) → K (.inl (some (.inl (nI 0))), zN c s f' (zup g (70, 0, 0) 0 (nI (M t + 1)).toInt64)))
    (k2 : ∀ t n, t < 5 → 1 ≤ n → n ≤ 6 → x = nI t → y = nI n → ¬ ((l t).length + n ≤ 24 ∧ M t < 60) → K (.inl (some (.inl (nI 2))), zN (c + 1) (s + 6) f g))
    (k0 : ¬ (zter x ∧ nI 1 ≤ y ∧ y ≤ nI 6) → K (.inl (some (.inl (nI 1))), zN (c + 1) (s + 6) f g)) : zT sc 116 0 true [zsu, some (.inl x), some (.inl y), zout] [] (zN c s f g) K := by
  refine zb ?_
  refine p_send hc hB hM hx (fun t n f' α' a b d e e' g1 g2 g3 g4 g5 => ?_) (fun t n a b d e e' g1 => ?_) (fun a => ?_)
  · refine zb ?_
    exact k1 t n f' α' a b d e e' g1 g2 g3 g4 g5
  · refine zb ?_
    exact k2 t n a b d e e' g1
  · refine zb ?_
    exact k0 a
theorem h_play {f0 : zM} {N : Nat} {l : Nat → List Nat} {α : Nat → zAt} {M : Nat → Nat} {Z : Nat → Nat → Nat} {W Q : Nat → Nat} (hc : 258 ≤ c) (hI : zINV f0 f0 N l α M Z W Q) (k0 : N = 500 → K (.inl (some (.inl (nI 1))), zN (c + 1) (s + 6) f0 g)) (k1 : N < 500 → ∀ F h, (∀ x j, 30 ≤ x.1 → F x j = f0 x j) → (∀ s9 n, zPlay F N M Z W Q s9 n → n = h ∧ ∃ l' α', zINV F s9 (N + 1) l' α' M Z W Q) → K (.inl (some (.inl (nI 0))), zN c s F (zup g (70, 0, 0) 0 (nI h).toInt64))) : zT sc 118 0 true [zsu, zout] [] (zN c s f0 g) K := by
  refine zb ?_
  refine p_play hc hI (fun a => ?_) (fun a F h b d => ?_)
  · refine zb ?_
    exact k0 a
  · refine zb ?_
    exact k1 a F h b d
theorem h_terminal {l : Nat → List Nat} {α : Nat → zAt} {md : Nat → Int32} (hc : 258 ≤ c) (hB : ∀ t, t < 5 → zBR f t (l t) (α t) (md t)) (k1 : ∀ t w, t < 5 → w ≤ 6 → x = nI t → y = nI w → K (.inl (some (.inl (nI 0))), zN c s f (zup g (70, 0, 0) 0 (zterA f l α md t w).toInt64))) (k0 : ¬ (zter x ∧ ¬ (y.toInt < 0 ∨ 6 < y.toInt)) → K (.inl (some (.inl (nI 1))), zN (c + 1) (s + 6) f g)) : zT sc 119 0 true [zsu, some (.inl x), some (.inl y), zout] [] (zN c s f g) K := by
  refine zb ?_
  refine p_terminal hc hB (fun t w a b e e' => ?_) (fun a => ?_)
  · refine zb ?_
    exact k1 t w a b e e'
  · refine zb ?_
    exact k0 a
theorem h_centre (hc : 258 ≤ c) (k1 : ∀ t w, t < 5 → w ≤ 4 → x = nI t → y = nI w → K (.inl (some (.inl (nI 0))), zN c s f (zup g (70, 0, 0) 0 (zcen f t w).toInt64))) (k0 : ¬ (zter x ∧ ¬ (y.toInt < 0 ∨ 4 < y.toInt)) → K (.inl (some (.inl (nI 1))), zN (c + 1) (s + 6) f g)) : zT sc 120 0 true [zsu, some (.inl x), some (.inl y), zout] [] (zN c s f g) K := by
  refine zb ?_
  refine p_centre hc (fun t w a b e e' => ?_) (fun a => ?_)
  · refine zb ?_
    exact k1 t w a b e e'
  · refine zb ?_
    exact k0 a
theorem h_plan {n : Nat} (hc : 258 ≤ c) (hn : f (0, 0, 0) 8 = nI n) (k1 : ∀ sl ca a, sl < 10 → ca < 3 → a < 2 → x = nI sl → y = nI ca → z = nI a → K (.inl (some (.inl (nI 0))), zN c s f (zup g (70, 0, 0) 0 (f (17, (n + a) % 2, 0) (sl * 3 + ca)).toInt64))) (k0 : ¬ (zslo x y ∧ (0 ≤ z ∧ z ≤ 1)) → K (.inl (some (.inl (nI 1))), zN (c + 1) (s + 6) f g)) : zT sc 121 0 true [zsu, some (.inl x), some (.inl y), some (.inl z), zout] [] (zN c s f g) K := by
  refine zb ?_
  refine p_planAt hc hn (fun sl ca a b d e e1 e2 e3 => ?_) (fun a => ?_)
  · refine zb ?_
    exact k1 sl ca a b d e e1 e2 e3
  · refine zb ?_
    exact k0 a
theorem h_places {n : Nat} (hc : 258 ≤ c) (hn : f (0, 0, 0) 8 = nI n) (k1 : ∀ t a, t < 5 → a < 2 → x = nI t → y = nI a → K (.inl (some (.inl (nI 0))), zN c s f (zup g (70, 0, 0) 0 (nI (zpc (f (17, (n + a) % 2, 0)) t 30)).toInt64))) (k0 : ¬ (zter x ∧ (0 ≤ y ∧ y ≤ 1)) → K (.inl (some (.inl (nI 1))), zN (c + 1) (s + 6) f g)) : zT sc 122 0 true [zsu, some (.inl x), some (.inl y), zout] [] (zN c s f g) K := by
  refine zb ?_
  refine p_places hc hn (fun t a b d e e' => ?_) (fun a => ?_)
  · refine zb ?_
    exact k1 t a b d e e'
  · refine zb ?_
    exact k0 a
theorem h_heard (hc : 258 ≤ c) (k1 : ∀ sl ca, sl < 10 → ca < 3 → x = nI sl → y = nI ca → K (.inl (some (.inl (nI 0))), zN c s f (zup g (70, 0, 0) 0 (f (21, 0, 0) (sl * 3 + ca)).toInt64))) (k0 : ¬ zslo x y → K (.inl (some (.inl (nI 1))), zN (c + 1) (s + 6) f g)) : zT sc 123 0 true [zsu, some (.inl x), some (.inl y), zout] [] (zN c s f g) K := by
  refine zb ?_
  refine p_heard hc (fun sl ca a b e e' => ?_) (fun a => ?_)
  · refine zb ?_
    exact k1 sl ca a b e e'
  · refine zb ?_
    exact k0 a
end LH
