/-! The reference: again -/
theorem zup_self {f : zM} {a : zA} {k : Nat} : zup f a k (f a k) = f := by
  funext x j
  rw [zup_at]
  by_cases q : x = a ∧ j = k
  · rw [if_pos q, q.1, q.2]
  · rw [if_neg q]
/-- a cell that waits too long -/
def zis (f : zM) (j : Nat) : Prop := f (41, 0, 0) j = nI 2 ∧ f (42, 0, 0) j ≤ f (30, 0, 0) 1 - nI 2
def zisB (f : zM) (j : Nat) : Bool := decide (f (41, 0, 0) j = nI 2) && decide (f (42, 0, 0) j ≤ f (30, 0, 0) 1 - nI 2)
def zfl (f : zM) (b : Nat) : Nat → Bool
  | 0 => false
  | n + 1 => zfl f b n || (zisB f (b + n) && decide (f (43, 0, 0) (b + n) = nI 4))
def zg1 (f : zM) (b n : Nat) : zM := fun x j => if x = (41, 0, 0) ∧ b ≤ j ∧ j < b + n ∧ zisB f j = true then nI 1 else f x j
def zg2 (f : zM) (b n : Nat) : zM := fun x j => if x = (41, 0, 0) ∧ b ≤ j ∧ j < b + n then nI 3 else f x j
theorem zg1_ne {f : zM} {b n j : Nat} {x : zA} (h : x ≠ (41, 0, 0)) : zg1 f b n x j = f x j := if_neg (fun w => h w.1)
theorem zg2_ne {f : zM} {b n j : Nat} {x : zA} (h : x ≠ (41, 0, 0)) : zg2 f b n x j = f x j := if_neg (fun w => h w.1)
theorem zg1_0 {f : zM} {b : Nat} : zg1 f b 0 = f := by
  funext x j
  exact if_neg (fun w => by omega)
theorem zg2_0 {f : zM} {b : Nat} : zg2 f b 0 = f := by
  funext x j
  exact if_neg (fun w => by omega)
theorem zg1_at {f : zM} {b n : Nat} : zg1 f b n (41, 0, 0) (b + n) = f (41, 0, 0) (b + n) := if_neg (fun w => by omega)
theorem zg1_yes {f : zM} {b n : Nat} (h : zisB f (b + n) = true) : zup (zg1 f b n) (41, 0, 0) (b + n) (nI 1) = zg1 f b (n + 1) := by
  funext x j
  rw [zup_at]
  unfold zg1
  by_cases q : x = (41, 0, 0) ∧ j = b + n
  · obtain ⟨rfl, rfl⟩ := q
    rw [if_pos ⟨rfl, rfl⟩, if_pos ⟨rfl, by omega, by omega, h⟩]
  · rw [if_neg q]
    by_cases q2 : x = (41, 0, 0) ∧ b ≤ j ∧ j < b + n ∧ zisB f j = true
    · rw [if_pos q2, if_pos ⟨q2.1, q2.2.1, by omega, q2.2.2.2⟩]
    · rw [if_neg q2, if_neg (fun w => q2 ⟨w.1, w.2.1, by
        have : j ≠ b + n := fun e => q ⟨w.1, e⟩
        omega, w.2.2.2⟩)]
theorem zg1_no {f : zM} {b n : Nat} (h : zisB f (b + n) = false) : zg1 f b n = zg1 f b (n + 1) := by
  funext x j
  unfold zg1
  by_cases q2 : x = (41, 0, 0) ∧ b ≤ j ∧ j < b + n ∧ zisB f j = true
  · rw [if_pos q2, if_pos ⟨q2.1, q2.2.1, by omega, q2.2.2.2⟩]
  · rw [if_neg q2, if_neg (fun w => q2 ⟨w.1, w.2.1, by
      have : j ≠ b + n := fun e => by
        have := w.2.2.2
        rw [e, h] at this
        cases this
      omega, w.2.2.2⟩)]
theorem zg2_up {f : zM} {b n : Nat} : zup (zg2 f b n) (41, 0, 0) (b + n) (nI 3) = zg2 f b (n + 1) := by
  funext x j
  rw [zup_at]
  unfold zg2
  by_cases q : x = (41, 0, 0) ∧ j = b + n
  · obtain ⟨rfl, rfl⟩ := q
    rw [if_pos ⟨rfl, rfl⟩, if_pos ⟨rfl, by omega, by omega⟩]
  · rw [if_neg q]
    by_cases q2 : x = (41, 0, 0) ∧ b ≤ j ∧ j < b + n
    · rw [if_pos q2, if_pos ⟨q2.1, q2.2.1, by omega⟩]
    · rw [if_neg q2, if_neg (fun w => q2 ⟨w.1, w.2.1, by
        have : j ≠ b + n := fun e => q ⟨w.1, e⟩
        omega⟩)]
/-- a datagram -/
def zg3 (f : zM) (t d n : Nat) : zM := bif zfl f (366 * t + 6 * d) n then zup (zg2 (zg1 f (366 * t + 6 * d) n) (366 * t + 6 * d) n) (37, 0, 0) t (f (37, 0, 0) t + nI 1) else zg1 f (366 * t + 6 * d) n
/-- the datagrams 1 to n -/
def zgA (f : zM) (t : Nat) (z : Nat → Nat) : Nat → zM
  | 0 => f
  | d + 1 => zg3 (zgA f t z d) t (d + 1) (z (d + 1))
theorem zg3_ne {f : zM} {t d n j : Nat} {x : zA} (h : x ≠ (41, 0, 0)) (h' : x ≠ (37, 0, 0)) : zg3 f t d n x j = f x j := by
  unfold zg3
  cases zfl f (366 * t + 6 * d) n
  · exact zg1_ne h
  · show zup _ _ _ _ x j = _
    rw [zup_ne (fun w => h' w.1), zg2_ne h, zg1_ne h]
theorem zgA_ne {f : zM} {t : Nat} {z : Nat → Nat} {j : Nat} {x : zA} (h : x ≠ (41, 0, 0)) (h' : x ≠ (37, 0, 0)) : ∀ n, zgA f t z n x j = f x j
  | 0 => rfl
  | n + 1 => (zg3_ne h h').trans (zgA_ne h h' n)
