/-! A superframe: class and reference agree after it -/
theorem z76 {y : Int32} : nI 7 ≤ y ↔ nI 6 < y := by
  rw [Int32.le_iff_toInt_le, Int32.lt_iff_toInt_lt, nI_toInt (by decide), nI_toInt (by decide)]
  omega
section FIN
variable {f0 : zM} {N : Nat} {l : Nat → List Nat} {α : Nat → zAt} {M : Nat → Nat} {Z : Nat → Nat → Nat} {W Q D0 G0 : Nat → Nat} {f3 f6 f7 F : zM} {u : Nat} {l3 : Nat → List Nat} {α3 : Nat → zAt}
/-- the class after its levels -/
def zf5 (f3 : zM) (N : Nat) : zM := zml (zwt (zls f3 (zsnC f3) 30) (zho f3 0)) (nI N) 5
theorem zf5_ne {x : zA} {j : Nat} (h1 : x.1 ≠ 3) (h2 : x ≠ (20, 0, 0)) (h3 : x ≠ (21, 0, 0)) : zf5 f3 N x j = f3 x j := by
  unfold zf5
  rw [zml_ne (fun w => h1 w.1), zwt_ne h1, zls_ne h2 h3]
theorem zf5_3 {t j : Nat} (h4 : j ≠ 4) (h5 : j ≠ 5) : zf5 f3 N (3, t, 0) j = f3 (3, t, 0) j := by
  unfold zf5
  rw [zml_ne (fun w => h5 w.2.2.2.1), zwt_at, if_neg (fun w => h4 w.2), zls_ne (fun w => by cases w) (fun w => by cases w)]
theorem zf5_20 {j : Nat} (hj : j < 30) : zf5 f3 N (20, 0, 0) j = 0 ∧ zf5 f3 N (21, 0, 0) j = zopt (zho f3 j) := by
  unfold zf5
  rw [zml_ne (fun w => absurd w.1 (by decide)), zml_ne (fun w => absurd w.1 (by decide)), zwt_ne (by decide), zwt_ne (by decide)]
  unfold zls
  rw [if_pos ⟨rfl, hj⟩, if_neg (fun w => absurd w.1 (by decide)), if_pos ⟨rfl, hj⟩]
  refine ⟨rfl, ?_⟩
  unfold zhr zho
  cases zheB f3 (zsnC f3) j <;> rfl
theorem zA6_no52 {f s : zM} {t m : Nat} {z : Nat → Nat} (hN : N < 500) (h : zA6 f s N (N % 2) t m z) : (f (7, t, 0) 5 = nI N ∧ s (52, 0, 0) (5 * (N % 2) + t) = nI 1) ∨ (¬ f (7, t, 0) 5 = nI N ∧ s (52, 0, 0) (5 * (N % 2) + t) = nI 0) := by
  rcases h.2.2.2.2.2.2 with ⟨a, b, -⟩ | ⟨a, b | ⟨h, h1, h2⟩⟩
  · exact Or.inl ⟨b, a⟩
  · refine Or.inr ⟨fun w => ?_, a⟩
    rw [b] at w
    have := congrArg Int32.toInt w
    rw [nI_toInt (by omega)] at this
    have e : (zK (-7)).toInt = -7 := by decide +kernel
    omega
  · refine Or.inr ⟨fun w => ?_, a⟩
    rw [h2] at w
    have := (nI_eq (by omega) (by omega)).mp w
    omega
/-- all that is known of a run of both through a superframe -/
def zAll (f0 f3 f6 f7 F : zM) (N u : Nat) (M : Nat → Nat) (Z : Nat → Nat → Nat) (W Q D0 G0 : Nat → Nat) (l3 : Nat → List Nat) (α3 : Nat → zAt) : Prop :=
  zK3 f0 f3 (zf5 f3 N) N u M Z l3 α3 ∧ (∃ g6, zP6 f0 N M Z f3 (zf5 f3 N) 29 g6 ∧ f6 = zfgN g6 (nI N) 5) ∧ zTl f6 f7 N (zho f3) W Q D0 G0 ∧ F = zup (zup f7 (0, 0, 0) 9 (f7 (0, 0, 0) 9 + (nI u - nI (zct f3 (zsnC f3) 30)))) (0, 0, 0) 8 (nI (N + 1))
theorem z_fin (hI : zINV f0 f0 N l α M Z W Q) (hN : N < 500) (hA : zAll f0 f3 f6 f7 F N u M Z W Q D0 G0 l3 α3) (hM : ∀ x j, 30 ≤ x.1 → F x j = f0 x j) {s9 : zM} {n : Nat} (hp9 : zPlay F N M Z W Q s9 n) : n = zct f3 (zsnC f3) 30 ∧ zINV F s9 (N + 1) l3 α3 M Z W Q := by
  obtain ⟨hK3, ⟨g6, hP6, ef6⟩, hTl, eF⟩ := hA
  obtain ⟨s2, s3, s4, s5, s6, s7, G, e2, hB, hC, e5, hFs, hPm, hG, e9⟩ := hp9
  have hp : N % 2 < 2 := Nat.mod_lt _ (by decide)
  obtain ⟨p, hpp⟩ : ∃ p, p = N % 2 := ⟨_, rfl⟩
  have hch : zCh f0 N M Z s3 := by
    subst e2
    exact ⟨zup F (30, 0, 0) 0 (nI 0), fun x j hx h0 => (zup_ne h0).trans (hM x j hx), hB⟩
  obtain ⟨hT, hB3⟩ := hK3.2.1 s3 hch
  obtain ⟨en, hA6⟩ := hP6.2 s3 hch n s4 hC
  have hsnM : ∀ k t, k < 30 → zsnM s3 k = some t → t < 5 := fun k t hk h => hK3.lt hI hk (by rw [hK3.sn hch hk]; exact h)
  have hCf := zCf_all (N := N) hp hsnM 30 n s4 (by omega) hC
  rw [e5] at hFs
  obtain ⟨v1, v2, v3, v4, v5, v6, v7⟩ := zPlay_v (N := N) hp hC hFs hG
  rw [← e9] at v1 v2 v3 v4 v5 v6 v7
  refine ⟨en, ?_⟩
  have he : ∀ j, j < 30 → zheM s3 (zsnM s3) j = zheB f3 (zsnC f3) j := fun j hj => hK3.he hI hch hj
  have h56 : ∀ j, j < 30 → s4 (56, 0, 0) (30 * (N % 2) + j) = zopt (zho f3 j) := fun j hj => by
    rw [(hCf.1 j hj).1, he j hj, ← hK3.sn hch hj]
    unfold zho
    cases zheB f3 (zsnC f3) j <;> rfl
  -- frames of the class
  have hF7 : ∀ x j, ¬ (x = (0, 0, 0) ∧ (j = 8 ∨ j = 9)) → F x j = f7 x j := fun x j h => by
    rw [eF, zup_ne (fun w => h ⟨w.1, Or.inl w.2⟩), zup_ne (fun w => h ⟨w.1, Or.inr w.2⟩)]
  have hF6 : ∀ x j, ¬ (x = (0, 0, 0) ∧ (j = 8 ∨ j = 9)) → ¬ (x.1 = 10 ∨ x.1 = 11 ∨ x.1 = 12 ∨ x.1 = 13 ∨ x.1 = 14 ∨ x.1 = 15) → x ≠ (17, N % 2, 0) → F x j = f6 x j := fun x j h h1 h2 => (hF7 x j h).trans (hTl.1 x j h1 h2)
  have hg6 : ∀ x j, ¬ (x.1 = 7 ∨ x.1 = 8 ∨ x.1 = 9) → f6 x j = zf5 f3 N x j := fun x j h => by
    rw [ef6, zfgN_ne (fun w => h (by omega))]; exact hP6.1 x j h
  have hF5 : ∀ κ t j, κ = 3 ∨ κ = 4 ∨ κ = 5 ∨ κ = 6 → ∀ i, F (κ, t, i) j = zf5 f3 N (κ, t, i) j := fun κ t j hκ i => by
    have h0 : ∀ {k : Nat}, κ ≠ k → ∀ a b, ((κ, t, i) : zA) ≠ (k, a, b) := fun hk a b w => hk (congrArg Prod.fst w)
    rw [hF6 _ _ (fun w => h0 (k := 0) (by omega) _ _ w.1) (by show ¬ (κ = 10 ∨ κ = 11 ∨ κ = 12 ∨ κ = 13 ∨ κ = 14 ∨ κ = 15); omega) (h0 (by omega) _ _), hg6 _ _ (by show ¬ (κ = 7 ∨ κ = 8 ∨ κ = 9); omega)]
  have hF19 : ∀ q j, f6 (19, q, 0) j = f3 (19, q, 0) j := fun q j => by
    rw [hg6 _ _ (by simp), zf5_ne (by simp) (fun w => by cases w) (fun w => by cases w)]
  have h7 : ∀ t k, k ≠ 0 → F (7, t, 0) k = g6 (7, t, 0) k := fun t k hk => by
    rw [hF6 _ _ (fun w => by cases w.1) (by simp) (fun w => by cases w), ef6, zfgN_ne (fun w => hk w.2)]
  have h70 : ∀ t, t < 5 → F (7, t, 0) 0 = if nI 7 ≤ nI N - g6 (7, t, 0) 5 then nI 0 else g6 (7, t, 0) 0 := fun t ht => by
    rw [hF6 _ _ (fun w => by cases w.1) (by simp) (fun w => by cases w), ef6, zfgN_at]
    by_cases q : nI 7 ≤ nI N - g6 (7, t, 0) 5
    · rw [if_pos q, if_pos ⟨ht, q⟩]
    · rw [if_neg q, if_neg (fun w => q w.2)]
  have h89 : ∀ κ t k, κ = 8 ∨ κ = 9 → F (κ, t, 0) k = g6 (κ, t, 0) k := fun κ t k hκ => by
    have h0 : ∀ {k : Nat}, κ ≠ k → ∀ a b, ((κ, t, 0) : zA) ≠ (k, a, b) := fun hk a b w => hk (congrArg Prod.fst w)
    rw [hF6 _ _ (fun w => h0 (k := 0) (by omega) _ _ w.1) (by show ¬ (κ = 10 ∨ κ = 11 ∨ κ = 12 ∨ κ = 13 ∨ κ = 14 ∨ κ = 15); omega) (h0 (by omega) _ _), ef6, zfgN_ne (fun w => by have h : κ = 7 := w.1; omega)]
  -- the reference
  have w2 : ∀ κ j, κ = 44 ∨ κ = 45 ∨ κ = 46 ∨ κ = 47 ∨ κ = 48 ∨ κ = 49 ∨ κ = 50 ∨ κ = 51 ∨ κ = 52 ∨ κ = 53 ∨ κ = 54 ∨ κ = 56 ∨ κ = 57 → s9 (κ, 0, 0) j = zc2N s4 5 (κ, 0, 0) j := fun κ j hκ => by
    have ne : ∀ {k : Nat}, κ ≠ k → ((κ, 0, 0) : zA) ≠ (k, 0, 0) := fun hk w => hk (congrArg Prod.fst w)
    rw [v2 κ j (by omega), zslN_ne (ne (by omega)) (ne (by omega)), zup_nk (ne (by omega))]
  have w4 : ∀ κ j, κ = 45 ∨ κ = 46 ∨ κ = 47 ∨ κ = 48 ∨ κ = 49 ∨ κ = 50 ∨ κ = 51 ∨ κ = 52 ∨ κ = 53 ∨ κ = 54 ∨ κ = 56 ∨ κ = 57 → s9 (κ, 0, 0) j = s4 (κ, 0, 0) j := fun κ j hκ => by
    rw [w2 κ j (by omega), zc2N_ne (fun w => by have := congrArg Prod.fst w; simp at this; omega)]
  have n30 : ∀ j, s4 (30, 0, 0) j = s3 (30, 0, 0) j := fun j => zCN_r hC (by omega)
  have hnow : s3 (30, 0, 0) 1 = nI N := (hch.n30 (by decide) (by decide)).trans hI.2.1.2.2.2.2.2.1
  have w44 : ∀ t, t < 5 → s9 (44, 0, 0) t = if s4 (44, 0, 0) t = 0 then nI 0 else if nI 6 < nI N - s4 (46, 0, 0) t then nI 0 else nI 1 := fun t ht => by
    rw [w2 44 t (by omega), zc2N_at, if_pos ht, n30, hnow]
  have hin : ∀ t, t < 5 → F (7, t, 0) 0 = s9 (44, 0, 0) t := fun t ht => by
    obtain ⟨-, -, c, d, -, g, -⟩ := hA6 t ht
    rw [h70 t ht, w44 t ht, c]
    by_cases q : s4 (44, 0, 0) t = 0
    · rw [if_pos q, q]
      split
      · rfl
      · exact nI_0.symm
    · rw [if_neg q]
      have g := g.resolve_left q
      have d := d.resolve_left q
      rw [g, d]
      by_cases q2 : nI 6 < nI N - s4 (46, 0, 0) t
      · rw [if_pos q2, if_pos (z76.mpr q2)]
      · rw [if_neg q2, if_neg (fun w => q2 (z76.mp w))]
  have hneed : ∀ t, t < 5 → F (7, t, 0) 1 = s9 (45, 0, 0) t := fun t ht => by
    rw [h7 t 1 (by decide), w4 45 t (by omega)]; exact (hA6 t ht).1.1
  -- the door
  have n31 : ∀ κ j, κ = 31 ∨ κ = 32 → s4 (κ, 0, 0) j = s3 (κ, 0, 0) j := fun κ j hκ => by
    rw [zCN_n2 (by rcases hκ with rfl | rfl <;> simp) 30 n s4 hC]
    exact zc0N_ne (fun w => by have := congrArg Prod.fst w; simp at this; omega) (fun w => by have := congrArg Prod.fst w; simp at this; omega) 5
  obtain ⟨A, w, hw, hA5, hw1, hw2⟩ := zdoor (s := s2)
  have h59 : s3 (59, 0, 0) 0 = zopt w := by
    rw [(zBuN_bk 29 s3 (by
      refine hI.rdy (σ := f0) (fun _ _ _ _ => rfl) (fun j => ?_) (fun j => ?_) (fun j => ?_)
      · rw [zdq_ne (by decide) (by decide), e2, zAgN_ne (by decide) (by decide) (by decide) (by decide) (by decide), zLiN_ne (by decide) (by decide) (by decide) (by decide), zup_nk (by decide)]; exact hM _ _ (by decide)
      · rw [zdq_ne (by decide) (by decide), e2, zAgN_ne (by decide) (by decide) (by decide) (by decide) (by decide), zLiN_ne (by decide) (by decide) (by decide) (by decide), zup_nk (by decide)]; exact hM _ _ (by decide)
      · rw [zdq_ne (by decide) (by decide), e2, zAgN_ne (by decide) (by decide) (by decide) (by decide) (by decide), zLiN_ne (by decide) (by decide) (by decide) (by decide), zup_nk (by decide)]; exact hM _ _ (by decide)) hB).2.2 0 _ (Or.inl rfl) (by decide) (by decide) (by decide)]
    unfold zdq
    rw [zup_eq, hw]
  have h35 : s3 (30, 0, 0) 35 = nI A := by
    rw [zBuN_ne (by decide) (by decide) (by decide) (by decide) (by decide) (by decide) (by decide) 29 s3 hB]
    unfold zdq
    rw [zup_nk (by decide), zup_eq, hw]
  have haq : ∀ t, zaq s2 t = true ↔ (s3 (31, 0, 0) t = nI 1 ∧ s3 (32, 0, 0) t = 0) := fun t => by
    have e1 : ∀ κ, κ = 31 ∨ κ = 32 → s3 (κ, 0, 0) t = s2 (κ, 0, 0) t := fun κ hκ => by
      have ne : ∀ {k : Nat}, κ ≠ k → ((κ, 0, 0) : zA) ≠ (k, 0, 0) := fun hk w => hk (congrArg Prod.fst w)
      rw [zBuN_ne (ne (by omega)) (ne (by omega)) (ne (by omega)) (ne (by omega)) (ne (by omega)) (ne (by omega)) (ne (by omega)) 29 s3 hB, zdq_ne (ne (by omega)) (ne (by omega))]
    rw [e1 31 (by omega), e1 32 (by omega)]
    unfold zaq
    rw [Bool.and_eq_true, decide_eq_true_eq, decide_eq_true_eq]
  have hsn0 : zsnC f3 0 = w := by
    rw [hK3.sn hch (by omega)]
    unfold zsnM
    rw [h59]
    cases w with
    | none => rfl
    | some t =>
      have := (hw1 t rfl).1
      show (if nI t < 0 then none else some (nI t).toNatClampNeg) = _
      rw [if_neg (nI_pos (by omega)), nI_clamp (by omega)]
  have hlv : ∀ t, t < 5 → zf5 f3 N (3, t, 0) 4 = s9 (31, 0, 0) t ∧ (s9 (31, 0, 0) t = nI 1 → zf5 f3 N (3, t, 0) 5 = s9 (32, 0, 0) t) ∧ zLv s9 (N + 1) t := fun t ht => by
    have e31 : s9 (31, 0, 0) t = zsl (zup (zc2N s4 5) (30, 0, 0) 2 (F (30, 0, 0) 2 + (s3 (30, 0, 0) 35 + nI (zse s3 29)) - nI n)) (if s4 (56, 0, 0) (30 * (N % 2)) < 0 then nI 0 else nI 1) t (31, 0, 0) t := by
      rw [v2 31 t (by omega), (zslN_t 5 t).1, if_pos ht]
    have e32 : s9 (32, 0, 0) t = zsl (zup (zc2N s4 5) (30, 0, 0) 2 (F (30, 0, 0) 2 + (s3 (30, 0, 0) 35 + nI (zse s3 29)) - nI n)) (if s4 (56, 0, 0) (30 * (N % 2)) < 0 then nI 0 else nI 1) t (32, 0, 0) t := by
      rw [v2 32 t (by omega), (zslN_t 5 t).2, if_pos ht]
    have x31 : ∀ κ, κ = 31 ∨ κ = 32 → zup (zc2N s4 5) (30, 0, 0) 2 (F (30, 0, 0) 2 + (s3 (30, 0, 0) 35 + nI (zse s3 29)) - nI n) (κ, 0, 0) t = s3 (κ, 0, 0) t := fun κ hκ => by
      rw [zup_nk (fun w => by have := congrArg Prod.fst w; simp at this; omega), zc2N_ne (fun w => by have := congrArg Prod.fst w; simp at this; omega)]
      exact n31 κ t hκ
    have x30 : ∀ j, j ≠ 2 → zup (zc2N s4 5) (30, 0, 0) 2 (F (30, 0, 0) 2 + (s3 (30, 0, 0) 35 + nI (zse s3 29)) - nI n) (30, 0, 0) j = s3 (30, 0, 0) j := fun j hj => by
      rw [zup_ne (fun w => hj w.2), zc2N_ne (by decide)]
      exact n30 j
    obtain ⟨⟨-, -, -, a4, a5, -, -⟩, -, -, -, av, -⟩ := hT t ht
    have h56' : s4 (56, 0, 0) (30 * (N % 2)) = zopt (zho f3 0) := h56 0 (by omega)
    have hho : ∀ {x}, zho f3 0 = some x → zheB f3 (zsnC f3) 0 = true ∧ w = some x := fun {x} hx => by
      obtain ⟨-, b, c⟩ := zho_lt hI hK3 (by omega) hx
      exact ⟨b, by rw [← hsn0]; exact c⟩
    have hheA : zheB f3 (zsnC f3) 0 = true → A = 1 := fun hx => by
      unfold zheB at hx
      rw [Bool.and_eq_true, Bool.and_eq_true, if_pos rfl, hB3.1, h35] at hx
      exact (nI_eq (by omega) (by decide)).mp (of_decide_eq_true hx.2.2)
    have key := zlvl (f := zls f3 (zsnC f3) 30) (s := zup (zc2N s4 5) (30, 0, 0) 2 (F (30, 0, 0) 2 + (s3 (30, 0, 0) 35 + nI (zse s3 29)) - nI n)) (N := N) (A := A) (o := zho f3 0) (h := if s4 (56, 0, 0) (30 * (N % 2)) < 0 then nI 0 else nI 1) ht (by omega) (by rw [zls_ne (fun w => by cases w) (fun w => by cases w), x31 31 (by omega)]; exact a4) (by rw [zls_ne (fun w => by cases w) (fun w => by cases w), x31 31 (by omega), x31 32 (by omega)]; exact a5) (by unfold zLv; rw [x31 31 (by omega), x31 32 (by omega)]; exact av) (by rw [zls_ne (fun w => by cases w) (fun w => by cases w), hB3.1]; exact h35) (by rw [x30 35 (by decide)]; exact h35) hA5 (by rw [x30 1 (by decide)]; exact hnow) (fun ho => by
        obtain ⟨b, c⟩ := hho ho
        rw [x31 31 (by omega), x31 32 (by omega)]
        have := (haq t).mp (hw1 t c).2
        exact ⟨this.1, this.2, hheA b⟩) (fun q1 q2 => by
        rw [x31 31 (by omega)] at q1
        rw [x31 32 (by omega)] at q2
        obtain ⟨b1, b2⟩ := hw2 t ht ((haq t).mpr ⟨q1, q2⟩)
        refine ⟨b1, fun hA1 => ?_⟩
        have hwt := b2 hA1
        rw [h56']
        cases hb : zheB f3 (zsnC f3) 0 with
        | true =>
          have e0 : zho f3 0 = some t := by unfold zho; rw [hb, hsn0, hwt]; rfl
          rw [e0]
          refine Or.inl ⟨rfl, ?_⟩
          show ¬ (if nI t < 0 then nI 0 else nI 1) = 0
          rw [if_neg (nI_pos (by omega))]
          decide
        | false =>
          have e0 : zho f3 0 = none := by unfold zho; rw [hb]; rfl
          rw [e0]
          refine Or.inr ⟨fun w => (by cases w), ?_⟩
          show (if zK (-1) < 0 then nI 0 else nI 1) = 0
          rw [if_pos (by decide)]
          exact nI_0)
    rw [← e31, ← e32] at key
    exact key
  have h33 : ∀ j, s4 (33, 0, 0) j = s3 (33, 0, 0) j := fun j => zCN_r hC (by omega)
  have hother : ∀ κ j, κ = 52 ∨ κ = 53 ∨ κ = 54 → j < 5 → s4 (κ, 0, 0) (5 * (1 - N % 2) + j) = f0 (κ, 0, 0) (5 * (1 - N % 2) + j) := fun κ j hκ hj => by
    have := hCf.2.2.2 (5 * (1 - N % 2) + j) (by omega)
    rcases hκ with rfl | rfl | rfl
    · rw [this.2.1]; exact hch.ne (by omega) (by omega)
    · rw [this.2.2]; exact hch.ne (by omega) (by omega)
    · rw [this.1]; exact hch.ne (by omega) (by omega)
  have hrow : ∀ κ j, κ = 56 ∨ κ = 57 → j < 30 → s4 (κ, 0, 0) (30 * (1 - N % 2) + j) = f0 (κ, 0, 0) (30 * (1 - N % 2) + j) := fun κ j hκ hj => by
    have := hCf.2.1 (30 * (1 - N % 2) + j) (by omega)
    rcases hκ with rfl | rfl
    · rw [this.1]; exact hch.ne (by omega) (by omega)
    · rw [this.2]; exact hch.ne (by omega) (by omega)
  have h57 : ∀ j, j < 30 → j ≠ 0 → ∀ t, zho f3 j = some t → s4 (57, 0, 0) (30 * (N % 2) + j) = s3 (60, 0, 0) j ∧ zCe f3 s3 t j (M t) (Z t) := fun j hj h0 t ht => by
    obtain ⟨ht5, hy, hs⟩ := zho_lt hI hK3 hj ht
    constructor
    · rw [(hCf.1 j hj).2, he j hj, hy, if_neg h0]; rfl
    · rcases hB3.2.2.2 j (by omega) (by omega) with ⟨q, -⟩ | ⟨t', ht', q, -, -, -, q2, -⟩
      · have : zsnC f3 j = none := by unfold zsnC; rw [q]; rfl
        rw [this] at hs; cases hs
      · have : zsnC f3 j = some t' := by unfold zsnC; rw [q, if_neg (nI_pos (by omega)), nI_clamp (by omega)]
        rw [this] at hs
        cases hs
        exact q2
  have hrep : ∀ x j, (x.1 = 10 ∨ x.1 = 11 ∨ x.1 = 12) → x.2.2 ≠ N % 2 → F x j = f0 x j := fun x j hx hx2 => by
    have h0 : ¬ (x = (0, 0, 0)) := fun w => by rw [w] at hx; simp at hx
    have h1 : ∀ {κ a b : Nat}, κ ≠ 10 → κ ≠ 11 → κ ≠ 12 → x ≠ (κ, a, b) := fun h1 h2 h3 w => by
      rw [w] at hx
      rcases hx with hx | hx | hx
      · exact h1 hx
      · exact h2 hx
      · exact h3 hx
    rw [hF7 _ _ (fun w => h0 w.1), hTl.2.1 x j hx hx2, hg6 x j (by omega), zf5_ne (by omega) (h1 (by omega) (by omega) (by omega)) (h1 (by omega) (by omega) (by omega)), hK3.1 x j (by omega) (fun w => h0 w.1)]
  obtain ⟨Fp, hFp, hplan⟩ := hTl.2.2.2.1
  have hIN : zIN Fp s5 := fun t ht => by
    have e44 : s5 (44, 0, 0) t = s9 (44, 0, 0) t := by
      rw [v2 44 t (by omega), e5]
    have e45 : s5 (45, 0, 0) t = s9 (45, 0, 0) t := by
      rw [v2 45 t (by omega), e5]
    rw [hFp, hFp, e44, e45, ← hin t ht, ← hneed t ht, hF6 _ _ (fun w => by cases w.1) (by simp) (fun w => by cases w), hF6 _ _ (fun w => by cases w.1) (by simp) (fun w => by cases w)]
    exact ⟨rfl, rfl⟩
  have hnew := zrow_M (R := Fp (17, N % 2, 0)) (R' := fun j => s6 (55, 0, 0) (30 * (N % 2) + j)) (zdue (Q := Q) hIN hI.2.2.2.2.1 (D0 := D0) (G0 := G0))
  have hrowp : ∀ j, j < 30 → F (17, N % 2, 0) j = s9 (55, 0, 0) (30 * (N % 2) + j) := fun j hj => by
    have ep : zplan Fp W Q D0 G0 (N % 2) = zgsAll (Fp (17, N % 2, 0)) (zrounds Fp 9 ((zabn Fp W 29 ((List.range' 0 5).foldl (zsg Fp Q) (D0, G0, 0))).1, (zabn Fp W 29 ((List.range' 0 5).foldl (zsg Fp Q) (D0, G0, 0))).2.2)).1 := by unfold zplan; rfl
    have e1 := hnew.1 j hj
    rw [← ep] at e1
    rw [hF7 _ _ (fun w => by cases w.1), hplan, v3 j hj, e1]
  have hsh := zgMA_S (R := fun j => s6 (55, 0, 0) (30 * (N % 2) + j)) (D := zrmN s5 29 (zabM s5 W 29 (zdM s5 Q, fun _ => 0)).1)
  refine ⟨fun t ht => ⟨?_, ?_, fun q hq => ?_⟩, ⟨fun q j hq hj => ?_, fun q hq => ?_, fun j hj => ?_, fun j hj => ?_, ?_, v6, by omega, ?_⟩, fun q k hq hk => ?_, fun t ht => ?_, hI.2.2.2.2.1, ?_⟩
  · obtain ⟨⟨a1, a2, a3, a4, a5, a6, a7⟩, b, c, d, e, g⟩ := hT t ht
    obtain ⟨c1, c2, c3⟩ := hlv t ht
    have h3 : ∀ j, j ≠ 4 → j ≠ 5 → F (3, t, 0) j = f3 (3, t, 0) j := fun j h4 h5 => (hF5 3 t j (by omega) 0).trans (zf5_3 h4 h5)
    refine ⟨⟨?_, ?_, ?_, ?_, ?_, ?_, ?_⟩, ?_, c.cg (fun j => v1 36 j (by omega) (by omega)) (fun j => v1 40 j (by omega) (by omega)), d.cg (fun i _ => v1 41 _ (by omega) (by omega)) (fun i _ => v1 42 _ (by omega) (by omega)) (fun i _ => v1 43 _ (by omega) (by omega)), c3, g.fr (fun x k h1 h2 => ?_)⟩
    · rw [h3 _ (by decide) (by decide), v1 38 _ (by omega) (by omega)]; exact a1
    · rw [h3 _ (by decide) (by decide), v1 39 _ (by omega) (by omega)]; exact a2
    · rw [h3 _ (by decide) (by decide), v1 34 _ (by omega) (by omega)]; exact a3
    · rw [hF5 3 t _ (by omega)]; exact c1
    · rw [hF5 3 t _ (by omega)]; exact c2
    · rw [h3 _ (by decide) (by decide), v1 35 _ (by omega) (by omega)]; exact a6
    · rw [h3 _ (by decide) (by decide), v1 37 _ (by omega) (by omega)]; exact a7
    · show F (3, t, 0) 2 = _
      rw [h3 _ (by decide) (by decide), v1 33 _ (by omega) (by omega)]; exact b
    · obtain ⟨x1, x2, x3⟩ := x
      rw [hF5 x1 x2 k (Or.inr h2) x3]
      have h2' : x1 = 4 ∨ x1 = 5 ∨ x1 = 6 := h2
      exact zf5_ne (by show x1 ≠ 3; omega) (fun w => by have := congrArg Prod.fst w; simp at this; omega) (fun w => by have := congrArg Prod.fst w; simp at this; omega)
  · obtain ⟨a, b, c, d, e, g, i⟩ := hA6 t ht
    refine ⟨a.cg (fun k hk => h7 t k (by omega)) (fun k => h89 8 t k (by omega)) (fun k => h89 9 t k (by omega)) (w4 45 _ (by omega)) (w4 47 _ (by omega)) (w4 48 _ (by omega)) (w4 49 _ (by omega)) (fun _ _ => w4 50 _ (by omega)) (fun _ _ => w4 51 _ (by omega)), b.cg (fun _ _ => w4 51 _ (by omega)), hin t ht, ?_, ?_, ?_, ?_⟩
    · rw [w44 t ht]
      split
      · exact Or.inl nI_0
      · split
        · exact Or.inl nI_0
        · exact Or.inr rfl
    · rw [w4 47 _ (by omega)]; exact e
    · rw [w44 t ht, h7 t 5 (by decide), w4 46 _ (by omega)]
      rcases g with g | g
      · rw [if_pos g]; exact Or.inl nI_0
      · exact Or.inr g
    · rw [h7 t 5 (by decide)]
      rcases i with ⟨-, q, -⟩ | ⟨-, q | ⟨h, h1, h2⟩⟩
      · exact Or.inr ⟨N, by omega, q⟩
      · exact Or.inl q
      · exact Or.inr ⟨h, by omega, h2⟩
  · by_cases qp : q = N % 2
    · subst qp
      obtain ⟨t0, t1, t2, rl, t3, t4⟩ := hTl.2.2.1 t ht
      have f65 : f6 (7, t, 0) 5 = g6 (7, t, 0) 5 := by rw [ef6, zfgN_ne (fun w => absurd w.2 (by decide))]
      have h52 := zA6_no52 (N := N) hN (hA6 t ht)
      refine ⟨?_, ?_, ?_, rl, ?_, fun x => ?_⟩
      · rw [hF7 _ _ (fun w => by cases w.1), t0, w4 54 _ (by omega), hCf.2.2.1 t ht]
        by_cases q0 : zho f3 0 = some t
        · obtain ⟨-, b1, b2⟩ := zho_lt hI hK3 (by omega) q0
          rw [if_pos q0, if_pos ⟨by omega, by rw [he 0 (by omega)]; exact b1, by rw [← hK3.sn hch (by omega)]; exact b2⟩]
        · rw [if_neg q0, if_neg]
          rintro ⟨-, b1, b2⟩
          rw [he 0 (by omega)] at b1
          rw [← hK3.sn hch (by omega)] at b2
          exact q0 (by unfold zho; rw [b1, b2]; rfl)
      · rw [hF7 _ _ (fun w => by cases w.1), t1, f65, w4 52 _ (by omega)]
        rcases h52 with ⟨b1, b2⟩ | ⟨b1, b2⟩
        · rw [if_pos b1, b2]
        · rw [if_neg b1, b2]
      · rw [hF7 _ _ (fun w => by cases w.1), t2, f65, w4 52 _ (by omega), w4 53 _ (by omega)]
        rcases h52 with ⟨b1, b2⟩ | ⟨b1, b2⟩
        · rw [if_pos b1, b2, if_neg (by decide)]
          rcases (hA6 t ht).2.2.2.2.2.2 with ⟨-, -, c3⟩ | ⟨c1, -⟩
          · rw [c3, h33, hother 52 t (by omega) ht, hother 53 t (by omega) ht, ← (hT t ht).2.1]
            have e10 : f6 (10, t, 1 - N % 2) 2 = f0 (10, t, 1 - N % 2) 2 := by
              rw [hg6 _ _ (by simp), zf5_ne (by simp) (fun w => by cases w) (fun w => by cases w), hK3.1 _ _ (by simp) (by rintro ⟨w, -⟩; cases w)]
            have e3 : f6 (3, t, 0) 2 = f3 (3, t, 0) 2 := by
              rw [hg6 _ _ (by simp), zf5_3 (by decide) (by decide)]
            rw [e10, e3, ((hI.1 t ht).2.2 (1 - N % 2) (by omega)).2.2.1]
          · rw [c1] at b2; exact absurd b2 (by decide)
        · rw [if_neg b1, b2, if_pos nI_0]
      · exact t3.cg2 (hF7 _ _ (fun w => by cases w.1)) (fun i => hF7 _ _ (fun w => by cases w.1)) (fun i => hF7 _ _ (fun w => by cases w.1))
      · rw [t4.1]
        constructor
        · rintro ⟨j, j1, j2, b1, b2, rfl⟩
          rw [hF19] at b2
          obtain ⟨c1, c2⟩ := h57 j (by omega) (by omega) t b1
          rcases c2 with ⟨d1, -⟩ | ⟨i, d1, d2, d3, d4, d5, -⟩
          · exact absurd d1 b2
          · refine ⟨j, i, j1, by omega, ?_, d1, ?_, by rw [hF19, hF19, d4, d5]⟩
            · rw [w4 56 _ (by omega), h56 j (by omega), b1]; rfl
            · rw [w4 57 _ (by omega), c1]; exact d3
        · rintro ⟨j, i, j1, j2, b1, b2, b3, rfl⟩
          rw [w4 56 _ (by omega), h56 j j2] at b1
          have hoj : zho f3 j = some t := zopt_s (by omega) b1 (fun i hi => by have := (zho_lt hI hK3 j2 hi).1; omega)
          obtain ⟨c1, c2⟩ := h57 j j2 (by omega) t hoj
          rw [w4 57 _ (by omega), c1] at b3
          rcases c2 with ⟨d1, d2⟩ | ⟨i', d1, d2, d3, d4, d5, -⟩
          · rw [d2] at b3; exact absurd b3.symm (zK1 (by omega))
          · rw [d3] at b3
            have : i' = i := by have := (nI_eq (by omega) (by omega)).mp b3; omega
            subst this
            refine ⟨j, j1, by omega, hoj, ?_, by rw [hF19, hF19, d4, d5]⟩
            rw [hF19, d4]
            exact fun w => zK1 (by omega) w
    · have qe : q = 1 - N % 2 := by omega
      subst qe
      obtain ⟨b0, b1, b2, rl, b3, b4⟩ := (hI.1 t ht).2.2 (1 - N % 2) (by omega)
      have hx : ∀ κ j, κ = 10 ∨ κ = 11 ∨ κ = 12 → F (κ, t, 1 - N % 2) j = f0 (κ, t, 1 - N % 2) j := fun κ j hκ => hrep _ _ hκ (by show 1 - N % 2 ≠ N % 2; omega)
      refine ⟨?_, ?_, ?_, rl, b3.cg2 (hx 10 _ (by omega)) (fun i => hx 11 _ (by omega)) (fun i => hx 12 _ (by omega)), fun x => ?_⟩
      · rw [hx 10 _ (by omega), w4 54 _ (by omega), hother 54 t (by omega) ht]; exact b0
      · rw [hx 10 _ (by omega), w4 52 _ (by omega), hother 52 t (by omega) ht]; exact b1
      · rw [hx 10 _ (by omega), w4 52 _ (by omega), w4 53 _ (by omega), hother 52 t (by omega) ht, hother 53 t (by omega) ht]; exact b2
      · rw [b4]
        constructor
        · rintro ⟨k, i, k1, k2, c1, c2, c3, c4⟩
          exact ⟨k, i, k1, k2, by rw [w4 56 _ (by omega), hrow 56 k (by omega) k2]; exact c1, c2, by rw [w4 57 _ (by omega), hrow 57 k (by omega) k2]; exact c3, c4⟩
        · rintro ⟨k, i, k1, k2, c1, c2, c3, c4⟩
          rw [w4 56 _ (by omega), hrow 56 k (by omega) k2] at c1
          rw [w4 57 _ (by omega), hrow 57 k (by omega) k2] at c3
          exact ⟨k, i, k1, k2, c1, c2, c3, c4⟩
  · by_cases qp : q = N % 2
    · subst qp; exact hrowp j hj
    · have qe : q = 1 - N % 2 := by omega
      subst qe
      rw [v4 j hj, hch.ne (by omega) (by omega), hF6 _ _ (fun w => by cases w.1) (by simp) (fun w => by have := congrArg (fun y => y.2.1) w; simp at this; omega), hg6 _ _ (by simp), zf5_ne (by simp) (fun w => by cases w) (fun w => by cases w), hK3.1 _ _ (by simp) (by rintro ⟨w, -⟩; cases w)]
      exact hI.2.1.1 _ j (by omega) hj
  · by_cases qp : q = N % 2
    · subst qp
      obtain ⟨b0, b1, b2⟩ := hsh
      have e0 := v3 0 (by omega)
      rw [Nat.add_zero] at e0
      refine ⟨e0.trans b0, fun k hk => by rw [v3 k hk]; exact b1 k hk, fun j k t hj hk ht e g i => ?_⟩
      rw [v3 j hj] at g
      rw [v3 k hk] at i
      exact b2 j k t hj hk ht e g i
    · have qe : q = 1 - N % 2 := by omega
      subst qe
      exact (hI.2.1.2.1 _ (by omega)).cg (fun j hj => by rw [v4 j hj]; exact hch.ne (by omega) (by omega))
  · rw [hF6 _ _ (fun w => by cases w.1) (by simp) (fun w => by cases w), hg6 _ _ (by simp), (zf5_20 hj).1, v5 j hj]; exact nI_0.symm
  · rw [hF6 _ _ (fun w => by cases w.1) (by simp) (fun w => by cases w), hg6 _ _ (by simp), (zf5_20 hj).2, show (N + 1 + 1) % 2 = N % 2 by omega, w4 56 _ (by omega), h56 j hj]
  · rw [eF, zup_eq]
  · rw [v7, eF, zup_ne (fun w => absurd w.2 (by decide)), zup_eq]
    obtain ⟨A', b1, b2⟩ := hB3.2.2.1
    have e9' : f7 (0, 0, 0) 9 = f0 (0, 0, 0) 9 := by
      rw [hTl.1 _ _ (by simp) (fun w => by cases w), hg6 _ _ (by simp), zf5_ne (by simp) (fun w => by cases w) (fun w => by cases w), hK3.1 _ _ (by simp) (by rintro ⟨-, w⟩; cases w)]
    have e9'' : zup (zup f7 (0, 0, 0) 9 (f7 (0, 0, 0) 9 + (nI u - nI (zct f3 (zsnC f3) 30)))) (0, 0, 0) 8 (nI (N + 1)) (30, 0, 0) 2 = f0 (30, 0, 0) 2 := by rw [← eF]; exact hM _ _ (by decide)
    rw [e9'', e9', hI.2.1.2.2.2.2.2.2.2, b1, nI_add, ← b2, en, Int32.sub_eq_add_neg, Int32.sub_eq_add_neg, Int32.add_assoc]
  · by_cases qp : q = N % 2
    · subst qp
      rw [w4 57 _ (by omega), w4 56 _ (by omega)]
      by_cases k0 : k = 0
      · subst k0
        refine Or.inl ?_
        rw [(hCf.1 0 hk).2]
        cases zheM s3 (zsnM s3) 0 <;> rfl
      · cases hq0 : zho f3 k with
        | none =>
          refine Or.inl ?_
          rw [(hCf.1 k hk).2, he k hk, zho_no hq0]; rfl
        | some t =>
          have ht := (zho_lt hI hK3 hk hq0).1
          obtain ⟨c1, c2⟩ := h57 k hk k0 t hq0
          rw [c1, h56 k hk, hq0]
          rcases c2 with ⟨-, d2⟩ | ⟨i, d1, d2, d3, -⟩
          · exact Or.inl d2
          · exact Or.inr (Or.inr ⟨t, i, ht, d1, rfl, d3, d2⟩)
    · have qe : q = 1 - N % 2 := by omega
      subst qe
      rw [w4 57 _ (by omega), w4 56 _ (by omega), hrow 57 k (by omega) hk, hrow 56 k (by omega) hk]
      exact hI.2.2.1 _ k (by omega) hk
  · rw [v1 38 _ (by omega) (by omega), v1 39 _ (by omega) (by omega), hch.ne (by omega) (by omega), hch.ne (by omega) (by omega)]
    exact hI.2.2.2.1 t ht
  · obtain ⟨D, G', S, hPR⟩ := hTl.2.2.2.2
    exact ⟨D, G', S, ⟨fun t ht => by rw [hF7 _ _ (fun w => by cases w.1), hF7 _ _ (fun w => by cases w.1)]; exact hPR.1 t ht, by rw [hF7 _ _ (fun w => by cases w.1)]; exact hPR.2.1, hPR.2.2⟩⟩
end FIN
