/-! The reference: listen -/
def zli1 (f : zM) (t row : Nat) : zM := if f (31, 0, 0) t = nI 2 ∧ ¬ f (54, 0, 0) (5 * row + t) = 0 then zup (zup f (31, 0, 0) t (nI 3)) (35, 0, 0) t (f (30, 0, 0) 1) else f
def zli2 (f : zM) (t row : Nat) : zM := if ¬ f (52, 0, 0) (5 * row + t) = 0 then zup (zup f (33, 0, 0) t (f (33, 0, 0) t - f (53, 0, 0) (5 * row + t))) (35, 0, 0) t (f (30, 0, 0) 1) else f
def zli3 (f : zM) (t row : Nat) : Nat → zM
  | 0 => f
  | n + 1 => if f (56, 0, 0) (30 * row + (n + 1)) = nI t ∧ ¬ f (57, 0, 0) (30 * row + (n + 1)) < 0 then zup (zli3 f t row n) (41, 0, 0) (f (57, 0, 0) (30 * row + (n + 1))).toNatClampNeg (nI 3) else zli3 f t row n
theorem zli3_ne {f : zM} {t row j : Nat} {x : zA} (h : x ≠ (41, 0, 0)) : ∀ n, zli3 f t row n x j = f x j
  | 0 => rfl
  | n + 1 => by
    unfold zli3
    split
    · rw [zup_ne (fun w => h w.1)]; exact zli3_ne h n
    · exact zli3_ne h n
theorem zup_nk {f : zM} {a x : zA} {k j : Nat} {v : Int32} (h : x ≠ a) : zup f a k v x j = f x j := zup_ne (fun w => h w.1)
section MO9
variable {sc : zC} {c s : Nat} {f : zM} {g : zW} {K : zR → Prop} {t row : Nat}
theorem zrw_e (r k : Nat) : nI 30 * nI r + nI k = nI (30 * r + k) := by rw [nI_mul, nI_add]
theorem zr5_e (r k : Nat) : nI 5 * nI r + nI k = nI (5 * r + k) := by rw [nI_mul, nI_add]
theorem q_listen_loop {v : Option zV} (hr : row < 2) (hc : ∀ j, j < 60 → ¬ f (57, 0, 0) j < 0 → ∃ i, i < 1830 ∧ f (57, 0, 0) j = nI i) (r : Nat) : ∀ {n : Nat} {cl : Bool}, n + r = 29 → K (.inl none, zN c s (zli3 f t row 29) g) → zT sc 41 110 cl [zmo, some (.inl (nI t)), some (.inl (nI row)), v, some (.inl (nI (n + 1)))] [] (zN c s (zli3 f t row n) g) K := by
  induction r with
  | zero =>
    intro n cl hn hK
    have e : n = 29 := by omega
    subst e
    refine zb ?_
    refine zb ?_
    exact hK
  | succ r ih =>
    intro n cl hn hK
    have h := fun cl => ih (n := n + 1) (cl := cl) (by omega) hK
    have e : zli3 f t row (n + 1) = if f (56, 0, 0) (30 * row + (n + 1)) = nI t ∧ ¬ f (57, 0, 0) (30 * row + (n + 1)) < 0 then zup (zli3 f t row n) (41, 0, 0) (f (57, 0, 0) (30 * row + (n + 1))).toNatClampNeg (nI 3) else zli3 f t row n := rfl
    rw [e] at h
    have h56 : zli3 f t row n (56, 0, 0) (nI 30 * nI row + nI (n + 1)).toNatClampNeg = f (56, 0, 0) (30 * row + (n + 1)) := by
      rw [zrw_e, nI_clamp (by omega), zli3_ne (by decide)]
    have h57 : zli3 f t row n (57, 0, 0) (nI 30 * nI row + nI (n + 1)).toNatClampNeg = f (57, 0, 0) (30 * row + (n + 1)) := by
      rw [zrw_e, nI_clamp (by omega), zli3_ne (by decide)]
    have hin : ¬ (nI 30 * nI row + nI (n + 1) < 0 ∨ 60 ≤ (nI 30 * nI row + nI (n + 1)).toNatClampNeg) := by
      rw [zrw_e]; exact nI_in (N := 60) (by omega) (by decide)
    refine zb ?_
    refine zin (nI_ge (a := n + 1) (b := 30) (by omega) (by decide)) ?_
    refine zin hin ?_
    refine zif (fun q => ?_) (fun q => ?_)
    · have q : zli3 f t row n (56, 0, 0) (nI 30 * nI row + nI (n + 1)).toNatClampNeg = nI t := q
      rw [h56] at q
      refine zin hin ?_
      refine zif (fun q2 => ?_) (fun q2 => ?_)
      · have q2 : zli3 f t row n (57, 0, 0) (nI 30 * nI row + nI (n + 1)).toNatClampNeg < 0 := q2
        rw [h57] at q2
        have h := h cl
        rw [if_neg (fun w => w.2 q2), ← nI_add (n + 1) 1] at h
        refine zb ?_
        exact h
      · have q2 : ¬ zli3 f t row n (57, 0, 0) (nI 30 * nI row + nI (n + 1)).toNatClampNeg < 0 := q2
        rw [h57] at q2
        obtain ⟨i, hi, hi'⟩ := hc _ (by omega) q2
        have h := h false
        rw [if_pos ⟨q, q2⟩, ← nI_add (n + 1) 1, ← h57] at h
        refine zin hin ?_
        refine zin (show ¬ (zli3 f t row n (57, 0, 0) (nI 30 * nI row + nI (n + 1)).toNatClampNeg < 0 ∨ 1830 ≤ (zli3 f t row n (57, 0, 0) (nI 30 * nI row + nI (n + 1)).toNatClampNeg).toNatClampNeg) by rw [h57, hi']; exact nI_in (N := 1830) hi (by decide)) ?_
        refine zb ?_
        exact h
    · have q : ¬ zli3 f t row n (56, 0, 0) (nI 30 * nI row + nI (n + 1)).toNatClampNeg = nI t := q
      rw [h56] at q
      have h := h cl
      rw [if_neg (fun w => q w.1), ← nI_add (n + 1) 1] at h
      refine zb ?_
      exact h
theorem q_listen_50 {v : Option zV} {cl : Bool} (ht : t < 5) (hr : row < 2) (hc : ∀ j, j < 60 → ¬ f (57, 0, 0) j < 0 → ∃ i, i < 1830 ∧ f (57, 0, 0) j = nI i) (k0 : ¬ f (31, 0, 0) t = nI 3 → K (.inl none, zN c s f g)) (k1 : f (31, 0, 0) t = nI 3 → K (.inl none, zN c s (zli3 (zli2 f t row) t row 29) g)) : zT sc 41 50 cl [zmo, some (.inl (nI t)), some (.inl (nI row)), v] [] (zN c s f g) K := by
  have hin : ¬ (nI 5 * nI row + nI t < 0 ∨ 10 ≤ (nI 5 * nI row + nI t).toNatClampNeg) := by
    rw [zr5_e]; exact nI_in (N := 10) (by omega) (by decide)
  have ec : (nI 5 * nI row + nI t).toNatClampNeg = 5 * row + t := by rw [zr5_e, nI_clamp (by omega)]
  refine zb ?_
  refine zin (nI_in (N := 5) ht (by decide)) ?_
  rw [nI_clamp (show t < 2 ^ 31 by omega)]
  refine zif (fun q => ?_) (fun q => k0 q)
  have k1 := k1 q
  refine zb ?_
  refine zin hin ?_
  refine zif (fun q2 => ?_) (fun q2 => ?_)
  · have q2 : f (52, 0, 0) (nI 5 * nI row + nI t).toNatClampNeg = 0 := q2
    rw [ec] at q2
    unfold zli2 at k1
    rw [if_neg (fun w => w q2)] at k1
    refine zb ?_
    exact q_listen_loop hr hc 29 (n := 0) rfl k1
  · have q2 : ¬ f (52, 0, 0) (nI 5 * nI row + nI t).toNatClampNeg = 0 := q2
    rw [ec] at q2
    unfold zli2 at k1
    rw [if_pos q2] at k1
    refine zin (nI_in (N := 5) ht (by decide)) ?_
    refine zin hin ?_
    refine zin (nI_in (N := 5) ht (by decide)) ?_
    refine zin (nI_in (N := 5) ht (by decide)) ?_
    refine zb ?_
    have h := q_listen_loop (sc := sc) (K := K) (c := c) (s := s) (g := g) (v := v) (cl := false) (f := zup (zup f (33, 0, 0) t (f (33, 0, 0) t - f (53, 0, 0) (5 * row + t))) (35, 0, 0) t (f (30, 0, 0) 1)) hr (fun j hj w => by
      rw [zup_nk (by decide), zup_nk (by decide)] at w ⊢
      exact hc j hj w) 29 (n := 0) rfl k1
    rw [← ec] at h
    have e : f (30, 0, 0) 1 = zup f (33, 0, 0) t (f (33, 0, 0) t - f (53, 0, 0) (nI 5 * nI row + nI t).toNatClampNeg) (30, 0, 0) 1 := (zup_nk (by decide)).symm
    rw [e] at h
    rw [nI_clamp (show t < 2 ^ 31 by omega)]
    exact h
theorem q_listen (ht : t < 5) (hr : row < 2) (hc : ∀ j, j < 60 → ¬ f (57, 0, 0) j < 0 → ∃ i, i < 1830 ∧ f (57, 0, 0) j = nI i) (k0 : ¬ zli1 f t row (31, 0, 0) t = nI 3 → K (.inl none, zN c s (zli1 f t row) g)) (k1 : zli1 f t row (31, 0, 0) t = nI 3 → K (.inl none, zN c s (zli3 (zli2 (zli1 f t row) t row) t row 29) g)) : zT sc 41 0 true [zmo, some (.inl (nI t)), some (.inl (nI row))] [] (zN c s f g) K := by
  have hin : ¬ (nI 5 * nI row + nI t < 0 ∨ 10 ≤ (nI 5 * nI row + nI t).toNatClampNeg) := by
    rw [zr5_e]; exact nI_in (N := 10) (by omega) (by decide)
  have ec : (nI 5 * nI row + nI t).toNatClampNeg = 5 * row + t := by rw [zr5_e, nI_clamp (by omega)]
  have hno : ¬ (f (31, 0, 0) t = nI 2 ∧ ¬ f (54, 0, 0) (5 * row + t) = 0) → ∀ cl, zT sc 41 27 cl [zmo, some (.inl (nI t)), some (.inl (nI row))] [] (zN c s f g) K := fun w cl => by
    unfold zli1 at k0 k1
    rw [if_neg w] at k0 k1
    refine zb ?_
    refine zb ?_
    exact q_listen_50 ht hr hc k0 k1
  refine zb ?_
  refine zin (nI_in (N := 5) ht (by decide)) ?_
  rw [nI_clamp (show t < 2 ^ 31 by omega)]
  refine zif (fun q => ?_) (fun q => hno (fun w => q w.1) _)
  have q : f (31, 0, 0) t = nI 2 := q
  refine zin hin ?_
  refine zif (fun q2 => ?_) (fun q2 => ?_)
  · have q2 : f (54, 0, 0) (nI 5 * nI row + nI t).toNatClampNeg = 0 := q2
    rw [ec] at q2
    exact hno (fun w => w.2 q2) _
  · have q2 : ¬ f (54, 0, 0) (nI 5 * nI row + nI t).toNatClampNeg = 0 := q2
    rw [ec] at q2
    unfold zli1 at k0 k1
    rw [if_pos ⟨q, q2⟩] at k0 k1
    refine zb ?_
    refine zin (nI_in (N := 5) ht (by decide)) ?_
    refine zin (nI_in (N := 5) ht (by decide)) ?_
    have h := q_listen_50 (sc := sc) (K := K) (c := c) (s := s) (g := g) (v := some (.inl (nI 1))) (cl := false) ht hr (fun j hj w => by
      rw [zup_nk (by decide), zup_nk (by decide)] at w ⊢
      exact hc j hj w) k0 k1
    have e : f (30, 0, 0) 1 = zup f (31, 0, 0) (nI t).toNatClampNeg (nI 3) (30, 0, 0) 1 := (zup_nk (by decide)).symm
    rw [e, nI_clamp (show t < 2 ^ 31 by omega)] at h
    rw [nI_clamp (show t < 2 ^ 31 by omega)]
    exact h
end MO9
