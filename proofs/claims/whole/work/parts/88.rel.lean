/-! The relation of class and reference; counting -/
def zval (m : Nat) (z : Nat → Nat) (i : Nat) : Prop := 1 ≤ i / 6 ∧ i / 6 ≤ m ∧ i % 6 < z (i / 6)
/-- the scalars of a terminal -/
def zRs (f σ : zM) (t : Nat) : Prop := f (3, t, 0) 0 = σ (38, 0, 0) t ∧ f (3, t, 0) 1 = σ (39, 0, 0) t ∧ f (3, t, 0) 3 = σ (34, 0, 0) t ∧ f (3, t, 0) 4 = σ (31, 0, 0) t ∧ (σ (31, 0, 0) t = nI 1 → f (3, t, 0) 5 = σ (32, 0, 0) t) ∧ f (3, t, 0) 6 = σ (35, 0, 0) t ∧ f (3, t, 0) 7 = σ (37, 0, 0) t
def zRo (f σ : zM) (t : Nat) : Prop := f (3, t, 0) 2 = σ (33, 0, 0) t
/-- the cells of a terminal -/
def zBk (σ : zM) (t : Nat) (l : List Nat) (α : zAt) (m : Nat) (z : Nat → Nat) : Prop :=
  l.Pairwise (· < ·) ∧
  (∀ i, i ∈ l ↔ i < 366 ∧ (σ (41, 0, 0) (366 * t + i) = nI 1 ∨ σ (41, 0, 0) (366 * t + i) = nI 2)) ∧
  (∀ i, i ∈ l → α i 0 = nI (i / 6) ∧ α i 1 = nI (i % 6) ∧ α i 2 = nI (z (i / 6)) ∧ (σ (41, 0, 0) (366 * t + i) = nI 2 → α i 3 = nI 1 ∧ α i 6 = σ (42, 0, 0) (366 * t + i)) ∧ (σ (41, 0, 0) (366 * t + i) = nI 1 → α i 3 = 0) ∧ α i 4 = 0 ∧ α i 5 = σ (43, 0, 0) (366 * t + i)) ∧
  (∀ i, i < 366 → zval m z i → σ (41, 0, 0) (366 * t + i) = nI 1 ∨ σ (41, 0, 0) (366 * t + i) = nI 2 ∨ σ (41, 0, 0) (366 * t + i) = nI 3) ∧
  (∀ i, i < 366 → ¬ zval m z i → σ (41, 0, 0) (366 * t + i) = nI 0 ∧ σ (43, 0, 0) (366 * t + i) = nI 0) ∧
  (∀ i, i < 366 → (σ (41, 0, 0) (366 * t + i) = nI 1 → ∃ n, n ≤ 3 ∧ σ (43, 0, 0) (366 * t + i) = nI n) ∧ (σ (41, 0, 0) (366 * t + i) = nI 2 → ∃ n, n ≤ 4 ∧ σ (43, 0, 0) (366 * t + i) = nI n))
def zLv (σ : zM) (N t : Nat) : Prop := (σ (31, 0, 0) t = nI 0 ∨ σ (31, 0, 0) t = nI 1 ∨ σ (31, 0, 0) t = nI 2 ∨ σ (31, 0, 0) t = nI 3) ∧ (σ (31, 0, 0) t = nI 1 → ∃ v, v ≤ N ∧ σ (32, 0, 0) t = nI v)
/-- the bits of what came -/
def zbit6 (σ : zM) (b : Nat) : Nat → Nat
  | 0 => 0
  | n + 1 => zbit6 σ b n + (if σ (50, 0, 0) (b + n) = 0 then 0 else 2 ^ n)
/-- the account of a terminal -/
def zRA (f σ : zM) (N t : Nat) : Prop :=
  f (7, t, 0) 0 = σ (44, 0, 0) t ∧ (σ (44, 0, 0) t = 0 ∨ σ (44, 0, 0) t = nI 1) ∧ f (7, t, 0) 1 = σ (45, 0, 0) t ∧ f (7, t, 0) 2 = σ (47, 0, 0) t ∧ (∃ e, 1 ≤ e ∧ e ≤ 61 ∧ σ (47, 0, 0) t = nI e) ∧ f (7, t, 0) 3 = σ (48, 0, 0) t ∧ f (7, t, 0) 4 = σ (49, 0, 0) t ∧
  (σ (44, 0, 0) t = 0 ∨ f (7, t, 0) 5 = σ (46, 0, 0) t) ∧ (f (7, t, 0) 5 = zK (-7) ∨ ∃ h, h < N ∧ f (7, t, 0) 5 = nI h) ∧
  (∀ d, d ≤ 60 → ∃ n, n ≤ 6 ∧ σ (51, 0, 0) (61 * t + d) = nI n ∧ f (9, t, 0) d = nI (2 ^ n - 1) ∧ f (8, t, 0) d = nI (zbit6 σ (366 * t + 6 * d) 6) ∧ ∀ k, k < 6 → ¬ σ (50, 0, 0) (366 * t + 6 * d + k) = 0 → k < n)
/-- what a report names -/
def zNm (σ : zM) (t p : Nat) (rl : List (Int32 × Int32)) : Prop := ∀ x, x ∈ rl ↔ ∃ k i, 1 ≤ k ∧ k < 30 ∧ σ (56, 0, 0) (30 * p + k) = nI t ∧ i < 366 ∧ σ (57, 0, 0) (30 * p + k) = nI (366 * t + i) ∧ x = (nI (i / 6), nI (i % 6))
/-- a report -/
def zRP (f σ : zM) (t p : Nat) : Prop := f (10, t, p) 0 = σ (54, 0, 0) (5 * p + t) ∧ f (10, t, p) 1 = σ (52, 0, 0) (5 * p + t) ∧ f (10, t, p) 2 = (if σ (52, 0, 0) (5 * p + t) = 0 then nI 0 else σ (53, 0, 0) (5 * p + t)) ∧ ∃ rl, zRR f t p rl ∧ zNm σ t p rl
/-- what was heard, of which terminals -/
def zHc (σ : zM) (M : Nat → Nat) (z : Nat → Nat → Nat) : Prop := ∀ p k, p < 2 → k < 30 → σ (57, 0, 0) (30 * p + k) = zK (-1) ∨ (σ (56, 0, 0) (30 * p + k) = zK (-1) ∧ σ (57, 0, 0) (30 * p + k) = nI 0) ∨ ∃ t i, t < 5 ∧ i < 366 ∧ σ (56, 0, 0) (30 * p + k) = nI t ∧ σ (57, 0, 0) (30 * p + k) = nI (366 * t + i) ∧ zval (M t) (z t) i
/-- a row of the plan -/
def zRow (σ : zM) (p : Nat) : Prop := σ (55, 0, 0) (30 * p) = zK (-1) ∧ (∀ k, k < 30 → σ (55, 0, 0) (30 * p + k) = zK (-1) ∨ ∃ t, t < 5 ∧ σ (55, 0, 0) (30 * p + k) = nI t) ∧ ∀ j k t, j < 30 → k < 30 → t < 5 → j / 3 = k / 3 → σ (55, 0, 0) (30 * p + j) = nI t → σ (55, 0, 0) (30 * p + k) = nI t → j = k
/-- all else -/
def zRG (f σ : zM) (N : Nat) : Prop := (∀ p j, p < 2 → j < 30 → f (17, p, 0) j = σ (55, 0, 0) (30 * p + j)) ∧ (∀ p, p < 2 → zRow σ p) ∧ (∀ j, j < 30 → f (20, 0, 0) j = σ (58, 0, 0) j) ∧ (∀ j, j < 30 → f (21, 0, 0) j = σ (56, 0, 0) (30 * ((N + 1) % 2) + j)) ∧ f (0, 0, 0) 8 = nI N ∧ σ (30, 0, 0) 1 = nI N ∧ N ≤ 500 ∧ f (0, 0, 0) 9 = σ (30, 0, 0) 2
/-! Sorted lists; counting -/
theorem zs_ext : ∀ {l l' : List Nat}, l.Pairwise (· < ·) → l'.Pairwise (· < ·) → (∀ i, i ∈ l ↔ i ∈ l') → l = l'
  | [], [], _, _, _ => rfl
  | [], b :: l', _, _, h => absurd ((h b).mpr List.mem_cons_self) List.not_mem_nil
  | a :: l, [], _, _, h => absurd ((h a).mp List.mem_cons_self) List.not_mem_nil
  | a :: l, b :: l', h1, h2, h => by
    rw [List.pairwise_cons] at h1 h2
    have e : a = b := by
      rcases List.mem_cons.mp ((h a).mp List.mem_cons_self) with q | q
      · exact q
      · rcases List.mem_cons.mp ((h b).mpr List.mem_cons_self) with r | r
        · exact r.symm
        · have := h2.1 a q
          have := h1.1 b r
          omega
    subst e
    congr 1
    refine zs_ext h1.2 h2.2 (fun i => ⟨fun q => ?_, fun q => ?_⟩)
    · rcases List.mem_cons.mp ((h i).mp (List.mem_cons_of_mem _ q)) with r | r
      · have := h1.1 i q; omega
      · exact r
    · rcases List.mem_cons.mp ((h i).mpr (List.mem_cons_of_mem _ q)) with r | r
      · have := h2.1 i q; omega
      · exact r
theorem zmc_cP (R : Nat → Int32) (v : Int32) (a : Nat) : ∀ n, zmc R v a n = (List.range n).countP (fun i => decide (R (a + i) = v))
  | 0 => rfl
  | n + 1 => by
    unfold zmc
    rw [List.range_succ, List.countP_append, zmc_cP R v a n]
    congr 1
    by_cases q : R (a + n) = v
    · rw [if_pos q, List.countP_cons, decide_eq_true q]; rfl
    · rw [if_neg q, List.countP_cons, decide_eq_false q]; rfl
section RL
variable {σ : zM} {t m : Nat} {l : List Nat} {α : zAt} {z : Nat → Nat}
theorem zBk.list (h : zBk σ t l α m z) : l = (List.range 366).filter (fun i => decide (σ (41, 0, 0) (366 * t + i) = nI 1) || decide (σ (41, 0, 0) (366 * t + i) = nI 2)) := by
  refine zs_ext h.1 (List.Pairwise.filter _ List.pairwise_lt_range) (fun i => ?_)
  rw [h.2.1, List.mem_filter, List.mem_range, Bool.or_eq_true, decide_eq_true_eq, decide_eq_true_eq]
theorem zBk.cu (h : zBk σ t l α m z) : zcu α l = zmc (σ (41, 0, 0)) (nI 2) (366 * t) 366 := by
  unfold zcu
  rw [zmc_cP]
  have e : l.countP (fun x => decide (α x 3 ≠ 0)) = l.countP (fun i => decide (σ (41, 0, 0) (366 * t + i) = nI 2)) := by
    apply List.countP_congr
    intro i hi
    obtain ⟨-, -, -, a1, a2, -, -⟩ := h.2.2.1 i hi
    rw [decide_eq_true_eq, decide_eq_true_eq]
    rcases ((h.2.1 i).mp hi).2 with q | q
    · exact ⟨fun w => absurd (a2 q) w, fun w => by rw [q] at w; exact absurd w (by decide)⟩
    · exact ⟨fun _ => q, fun _ => by rw [(a1 q).1]; decide⟩
  rw [e, h.list, List.countP_filter]
  apply List.countP_congr
  intro i _
  rw [Bool.and_eq_true, Bool.or_eq_true, decide_eq_true_eq, decide_eq_true_eq]
  exact ⟨fun w => w.1, fun w => ⟨w, Or.inr w⟩⟩
theorem zBk.len (h : zBk σ t l α m z) : l.length = zmc (σ (41, 0, 0)) (nI 1) (366 * t) 366 + zmc (σ (41, 0, 0)) (nI 2) (366 * t) 366 := by
  have e : ∀ L : List Nat, (L.filter (fun i => decide (σ (41, 0, 0) (366 * t + i) = nI 1) || decide (σ (41, 0, 0) (366 * t + i) = nI 2))).length = L.countP (fun i => decide (σ (41, 0, 0) (366 * t + i) = nI 1)) + L.countP (fun i => decide (σ (41, 0, 0) (366 * t + i) = nI 2)) := by
    intro L
    induction L with
    | nil => rfl
    | cons x L ih =>
      rw [List.filter_cons, List.countP_cons, List.countP_cons]
      by_cases q : σ (41, 0, 0) (366 * t + x) = nI 1
      · have q2 : ¬ σ (41, 0, 0) (366 * t + x) = nI 2 := by rw [q]; decide
        rw [decide_eq_true q, decide_eq_false q2]
        simp only [Bool.true_or, if_true, List.length_cons, ih]
        simp
        omega
      · by_cases q2 : σ (41, 0, 0) (366 * t + x) = nI 2
        · rw [decide_eq_false q, decide_eq_true q2]
          simp only [Bool.false_or, if_true, List.length_cons, ih]
          simp
          omega
        · rw [decide_eq_false q, decide_eq_false q2]
          simp [ih]
  rw [zmc_cP, zmc_cP, h.list]
  exact e _
theorem zBk.fresh (h : zBk σ t l α m z) : l.length - zcu α l = zmc (σ (41, 0, 0)) (nI 1) (366 * t) 366 := by
  rw [h.cu, h.len]; omega
theorem zBk.mem (h : zBk σ t l α m z) {i : Nat} (hi : i ∈ l) : i < 366 ∧ zval m z i := by
  have h1 := (h.2.1 i).mp hi
  refine ⟨h1.1, Classical.byContradiction fun w => ?_⟩
  have := (h.2.2.2.2.1 i h1.1 w).1
  rcases h1.2 with q | q
  · rw [this] at q; exact absurd q (by decide)
  · rw [this] at q; exact absurd q (by decide)
theorem zBk.base (h : zBk σ t l α m z) {b : Nat} (hb : zBs σ t m z b) (hz : ∀ d, 1 ≤ d → d ≤ m → z d ≤ 6) (hm : m ≤ 60) : zbs0 α l (nI m) = nI b := by
  obtain ⟨b1, b2, b3, b4⟩ := hb
  cases l with
  | nil =>
    show nI m + 1 = nI b
    have e : b = m + 1 := Classical.byContradiction fun w => by
      obtain ⟨k, hk, hq⟩ := b4 (by omega)
      have h6 := hz b b1 (by omega)
      have hv : zval m z (6 * b + k) := ⟨by omega, by omega, by rw [show (6 * b + k) % 6 = k by omega, show (6 * b + k) / 6 = b by omega]; exact hk⟩
      have h2 := h.2.2.2.1 (6 * b + k) (by omega) hv
      rw [show 366 * t + (6 * b + k) = 366 * t + 6 * b + k by omega] at h2
      rcases h2 with q | q | q
      · exact absurd ((h.2.1 (6 * b + k)).mpr ⟨by omega, Or.inl (by rw [← Nat.add_assoc]; exact q)⟩) List.not_mem_nil
      · exact absurd ((h.2.1 (6 * b + k)).mpr ⟨by omega, Or.inr (by rw [← Nat.add_assoc]; exact q)⟩) List.not_mem_nil
      · exact hq q
    rw [e, ← nI_add]
    rfl
  | cons x l =>
    show α x 0 = nI b
    obtain ⟨h366, v1, v2, v3⟩ := h.mem (List.mem_cons_self (a := x) (l := l))
    rw [(h.2.2.1 x List.mem_cons_self).1]
    congr 1
    have hx := ((h.2.1 x).mp List.mem_cons_self).2
    rcases Nat.lt_trichotomy (x / 6) b with q | q | q
    · have := b3 (x / 6) (x % 6) v1 q v3
      rw [show 366 * t + 6 * (x / 6) + x % 6 = 366 * t + x by omega] at this
      rw [this] at hx
      rcases hx with q | q <;> exact absurd q (by decide)
    · exact q
    · obtain ⟨k, hk, hq⟩ := b4 (by omega)
      have h6 := hz b b1 (by omega)
      have hv : zval m z (6 * b + k) := ⟨by omega, by omega, by rw [show (6 * b + k) % 6 = k by omega, show (6 * b + k) / 6 = b by omega]; exact hk⟩
      have h2 := h.2.2.2.1 (6 * b + k) (by omega) hv
      have hin : 6 * b + k ∈ x :: l := (h.2.1 (6 * b + k)).mpr ⟨by omega, by
        rcases h2 with q | q | q
        · exact Or.inl q
        · exact Or.inr q
        · rw [← Nat.add_assoc] at q; exact absurd q hq⟩
      rcases List.mem_cons.mp hin with w | w
      · omega
      · have := (List.pairwise_cons.mp h.1).1 _ w
        omega
end RL
