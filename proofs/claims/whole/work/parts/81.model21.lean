/-! The reference: a superframe -/
def zLi (f : zM) (t row : Nat) : zM := if zli1 f t row (31, 0, 0) t = nI 3 then zli3 (zli2 (zli1 f t row) t row) t row 29 else zli1 f t row
def zLiN (f : zM) (row : Nat) : Nat → zM
  | 0 => f
  | t + 1 => zLi (zLiN f row t) t row
theorem zli1_ne {f : zM} {t row j : Nat} {x : zA} (h1 : x ≠ (31, 0, 0)) (h2 : x ≠ (35, 0, 0)) : zli1 f t row x j = f x j := by
  unfold zli1
  split
  · rw [zup_nk h2, zup_nk h1]
  · rfl
theorem zli2_ne {f : zM} {t row j : Nat} {x : zA} (h1 : x ≠ (33, 0, 0)) (h2 : x ≠ (35, 0, 0)) : zli2 f t row x j = f x j := by
  unfold zli2
  split
  · rw [zup_nk h2, zup_nk h1]
  · rfl
theorem zLi_ne {f : zM} {t row j : Nat} {x : zA} (h1 : x ≠ (31, 0, 0)) (h2 : x ≠ (35, 0, 0)) (h3 : x ≠ (33, 0, 0)) (h4 : x ≠ (41, 0, 0)) : zLi f t row x j = f x j := by
  unfold zLi
  split
  · rw [zli3_ne h4, zli2_ne h3 h2, zli1_ne h1 h2]
  · exact zli1_ne h1 h2
theorem zLiN_ne {f : zM} {row j : Nat} {x : zA} (h1 : x ≠ (31, 0, 0)) (h2 : x ≠ (35, 0, 0)) (h3 : x ≠ (33, 0, 0)) (h4 : x ≠ (41, 0, 0)) : ∀ n, zLiN f row n x j = f x j
  | 0 => rfl
  | n + 1 => (zLi_ne h1 h2 h3 h4).trans (zLiN_ne h1 h2 h3 h4 n)
def zck (f : zM) (t : Nat) : zM := if f (31, 0, 0) t = nI 3 ∧ nI 5 ≤ f (30, 0, 0) 1 - f (35, 0, 0) t then zup (zup f (31, 0, 0) t (nI 1)) (32, 0, 0) t (nI 0) else f
theorem zck_ne {f : zM} {t j : Nat} {x : zA} (h1 : x ≠ (31, 0, 0)) (h2 : x ≠ (32, 0, 0)) : zck f t x j = f x j := by
  unfold zck
  split
  · rw [zup_nk h2, zup_nk h1]
  · rfl
def zAg (f : zM) (t M : Nat) (z : Nat → Nat) : zM := zup (zgA (zck f t) t z M) (33, 0, 0) t (f (33, 0, 0) t + f (34, 0, 0) t)
theorem zAg_ne {f : zM} {t M j : Nat} {z : Nat → Nat} {x : zA} (h1 : x ≠ (31, 0, 0)) (h2 : x ≠ (32, 0, 0)) (h3 : x ≠ (33, 0, 0)) (h4 : x ≠ (41, 0, 0)) (h5 : x ≠ (37, 0, 0)) : zAg f t M z x j = f x j := (zup_nk h3).trans ((zgA_ne h4 h5 M).trans (zck_ne h1 h2))
def zAgN (f : zM) (M : Nat → Nat) (z : Nat → Nat → Nat) : Nat → zM
  | 0 => f
  | t + 1 => zAg (zAgN f M z t) t (M t) (z t)
theorem zAgN_ne {f : zM} {M : Nat → Nat} {z : Nat → Nat → Nat} {j : Nat} {x : zA} (h1 : x ≠ (31, 0, 0)) (h2 : x ≠ (32, 0, 0)) (h3 : x ≠ (33, 0, 0)) (h4 : x ≠ (41, 0, 0)) (h5 : x ≠ (37, 0, 0)) : ∀ n, zAgN f M z n x j = f x j
  | 0 => rfl
  | n + 1 => (zAg_ne h1 h2 h3 h4 h5).trans (zAgN_ne h1 h2 h3 h4 h5 n)
/-- who sends where, read off the reference -/
def zsnM (f : zM) (k : Nat) : Option Nat := if f (59, 0, 0) k < 0 then none else some (f (59, 0, 0) k).toNatClampNeg
def zlc (f : zM) (n : Nat) : zM := fun x j => if x = (58, 0, 0) ∧ j < n then nI 0 else f x j
theorem zlc_up {f : zM} {n : Nat} : zup (zlc f n) (58, 0, 0) n (nI 0) = zlc f (n + 1) := by
  funext x j
  rw [zup_at]
  unfold zlc
  by_cases q : x = (58, 0, 0) ∧ j = n
  · rw [if_pos q, if_pos ⟨q.1, by omega⟩]
  · rw [if_neg q]
    by_cases q2 : x = (58, 0, 0) ∧ j < n
    · rw [if_pos q2, if_pos ⟨q2.1, by omega⟩]
    · rw [if_neg q2, if_neg (fun w => q2 ⟨w.1, by have : j ≠ n := fun e => q ⟨w.1, e⟩; omega⟩)]
theorem zlc_0 {f : zM} : zlc f 0 = f := by
  funext x j
  exact if_neg (fun w => by omega)
theorem zlc_ne {f : zM} {n j : Nat} {x : zA} (h : x ≠ (58, 0, 0)) : zlc f n x j = f x j := if_neg (fun w => h w.1)
/-- how many send in places -/
def zse (f : zM) : Nat → Nat
  | 0 => 0
  | n + 1 => zse f n + (if f (59, 0, 0) (n + 1) < 0 then 0 else 1)
/-- a superframe -/
def zPlay (f : zM) (N : Nat) (M : Nat → Nat) (z : Nat → Nat → Nat) (W Q : Nat → Nat) (f' : zM) (n : Nat) : Prop :=
  ∃ f2 f3 f4 f5 f6 f7 G, f2 = zAgN (zLiN (zup f (30, 0, 0) 0 (nI 0)) (N % 2) 5) M z 5 ∧ zBuN M z (zdq f2 ((List.range' 0 5).foldl (zdm f2) (none, 0))) (N % 2) 29 f3 ∧ zCN (zsnM f3) (zc0N f3 (N % 2) 5) (N % 2) 30 n f4 ∧
  f5 = zslN (zup (zc2N f4 5) (30, 0, 0) 2 (f (30, 0, 0) 2 + (f3 (30, 0, 0) 35 + nI (zse f3 29)) - nI n)) (if f4 (56, 0, 0) (30 * (N % 2)) < 0 then nI 0 else nI 1) 5 ∧ zFs f5 f6 ∧ zPm f6 (zrmN f5 29 (zabM f5 W 29 (zdM f5 Q, fun _ => 0)).1) G ∧
  zGM f6 (N % 2) f7 (zgMA (fun j => f6 (55, 0, 0) (30 * (N % 2) + j)) (zrmN f5 29 (zabM f5 W 29 (zdM f5 Q, fun _ => 0)).1)).1 (zgMA (fun j => f6 (55, 0, 0) (30 * (N % 2) + j)) (zrmN f5 29 (zabM f5 W 29 (zdM f5 Q, fun _ => 0)).1)).2 ∧ f' = zup (zlc f7 30) (30, 0, 0) 1 (nI (N + 1))
/-- what a superframe needs -/
def zPN (f : zM) (M : Nat → Nat) (z : Nat → Nat → Nat) (W Q : Nat → Nat) : Prop := (∀ j, j < 60 → ¬ f (57, 0, 0) j < 0 → ∃ i, i < 1830 ∧ f (57, 0, 0) j = nI i) ∧ (∀ row, row < 2 → zRdy M z f row) ∧ (∀ t, t < 5 → zTo f t) ∧ (∀ t, t < 5 → ∃ e, 1 ≤ e ∧ e ≤ 61 ∧ f (47, 0, 0) t = nI e) ∧ zQm f W Q
