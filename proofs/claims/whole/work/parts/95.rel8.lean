/-! Who is best: up and strictly, or down and not worse -/
def zbU (lt : Nat → Nat → Bool) (cand : Nat → Bool) (b : Option Nat) (t : Nat) : Option Nat := bif cand t && (match b with
  | none => true
  | some b => lt t b) then some t else b
def zbD (lt : Nat → Nat → Bool) (cand : Nat → Bool) (b : Option Nat) (t : Nat) : Option Nat := bif cand t && (match b with
  | none => true
  | some b => !lt b t) then some t else b
def zbDN (lt : Nat → Nat → Bool) (cand : Nat → Bool) : Nat → Option Nat → Option Nat
  | 0, b => b
  | r + 1, b => zbDN lt cand r (zbD lt cand b r)
/-- b is the best of lo .. hi - 1 -/
def zBst (lt : Nat → Nat → Bool) (cand : Nat → Bool) (lo hi : Nat) (b : Option Nat) : Prop := match b with
  | none => ∀ s, lo ≤ s → s < hi → cand s = false
  | some t => lo ≤ t ∧ t < hi ∧ cand t = true ∧ (∀ s, lo ≤ s → s < hi → cand s = true → lt s t = false) ∧ ∀ s, lo ≤ s → s < t → cand s = true → lt t s = true
section BST
variable {lt : Nat → Nat → Bool} {cand : Nat → Bool}
theorem zBst.eq {lo hi : Nat} {b b' : Option Nat} (h : zBst lt cand lo hi b) (h' : zBst lt cand lo hi b') : b = b' := by
  cases b with
  | none =>
    cases b' with
    | none => rfl
    | some t => exact absurd (h t h'.1 h'.2.1) (by rw [h'.2.2.1]; decide)
  | some t =>
    cases b' with
    | none => exact absurd (h' t h.1 h.2.1) (by rw [h.2.2.1]; decide)
    | some t' =>
      rcases Nat.lt_trichotomy t t' with q | q | q
      · have h1 := h'.2.2.2.2 t h.1 q h.2.2.1
        have h2 := h.2.2.2.1 t' h'.1 h'.2.1 h'.2.2.1
        rw [h1] at h2; cases h2
      · rw [q]
      · have h1 := h.2.2.2.2 t' h'.1 q h'.2.2.1
        have h2 := h'.2.2.2.1 t h.1 h.2.1 h.2.2.1
        rw [h1] at h2; cases h2
theorem zBst.up (tr : ∀ a b c, lt a b = true → lt c b = false → lt a c = true) (as : ∀ a b, lt a b = true → lt b a = false) (rf : ∀ a, lt a a = false) {i : Nat} {b : Option Nat} (h : zBst lt cand 0 i b) : zBst lt cand 0 (i + 1) (zbU lt cand b i) := by
  unfold zbU
  cases hc : cand i with
  | false =>
    show zBst lt cand 0 (i + 1) b
    cases b with
    | none =>
      intro s h1 h2
      by_cases e : s = i
      · rw [e]; exact hc
      · exact h s h1 (by omega)
    | some t =>
      obtain ⟨a1, a2, a3, a4, a5⟩ := h
      refine ⟨a1, by omega, a3, fun s h1 h2 h3 => ?_, a5⟩
      by_cases e : s = i
      · rw [e, hc] at h3; cases h3
      · exact a4 s h1 (by omega) h3
  | true =>
    cases b with
    | none =>
      show zBst lt cand 0 (i + 1) (some i)
      refine ⟨by omega, by omega, hc, fun s h1 h2 h3 => ?_, fun s h1 h2 h3 => ?_⟩
      · by_cases e : s = i
        · rw [e]; exact rf i
        · rw [h s h1 (by omega)] at h3; cases h3
      · rw [h s h1 h2] at h3; cases h3
    | some t =>
      obtain ⟨a1, a2, a3, a4, a5⟩ := h
      show zBst lt cand 0 (i + 1) (bif lt i t then some i else some t)
      cases hl : lt i t with
      | true =>
        show zBst lt cand 0 (i + 1) (some i)
        have key : ∀ s, s < i → cand s = true → lt i s = true := fun s h2 h3 => tr i t s hl (a4 s (by omega) h2 h3)
        refine ⟨by omega, by omega, hc, fun s h1 h2 h3 => ?_, fun s h1 h2 h3 => key s h2 h3⟩
        by_cases e : s = i
        · rw [e]; exact rf i
        · exact as i s (key s (by omega) h3)
      | false =>
        show zBst lt cand 0 (i + 1) (some t)
        refine ⟨a1, by omega, a3, fun s h1 h2 h3 => ?_, a5⟩
        by_cases e : s = i
        · rw [e]; exact hl
        · exact a4 s h1 (by omega) h3
theorem zBst.down (tr : ∀ a b c, lt b a = false → lt c b = false → lt c a = false) (as : ∀ a b, lt a b = true → lt b a = false) (rf : ∀ a, lt a a = false) {r n : Nat} {b : Option Nat} (hr : r < n) (h : zBst lt cand (r + 1) n b) : zBst lt cand r n (zbD lt cand b r) := by
  unfold zbD
  cases hc : cand r with
  | false =>
    show zBst lt cand r n b
    cases b with
    | none =>
      intro s h1 h2
      by_cases e : s = r
      · rw [e]; exact hc
      · exact h s (by omega) h2
    | some t =>
      obtain ⟨a1, a2, a3, a4, a5⟩ := h
      refine ⟨by omega, a2, a3, fun s h1 h2 h3 => ?_, fun s h1 h2 h3 => ?_⟩
      · by_cases e : s = r
        · rw [e, hc] at h3; cases h3
        · exact a4 s (by omega) h2 h3
      · by_cases e : s = r
        · rw [e, hc] at h3; cases h3
        · exact a5 s (by omega) h2 h3
  | true =>
    cases b with
    | none =>
      show zBst lt cand r n (some r)
      refine ⟨by omega, hr, hc, fun s h1 h2 h3 => ?_, fun s h1 h2 h3 => by omega⟩
      by_cases e : s = r
      · rw [e]; exact rf r
      · rw [h s (by omega) h2] at h3; cases h3
    | some t =>
      obtain ⟨a1, a2, a3, a4, a5⟩ := h
      show zBst lt cand r n (bif !lt t r then some r else some t)
      cases hl : lt t r with
      | false =>
        show zBst lt cand r n (some r)
        refine ⟨by omega, hr, hc, fun s h1 h2 h3 => ?_, fun s h1 h2 h3 => by omega⟩
        by_cases e : s = r
        · rw [e]; exact rf r
        · exact tr r t s hl (a4 s (by omega) h2 h3)
      | true =>
        show zBst lt cand r n (some t)
        refine ⟨by omega, a2, a3, fun s h1 h2 h3 => ?_, fun s h1 h2 h3 => ?_⟩
        · by_cases e : s = r
          · rw [e]
            exact as t r hl
          · exact a4 s (by omega) h2 h3
        · by_cases e : s = r
          · rw [e]; exact hl
          · exact a5 s (by omega) h2 h3
theorem zBst.cg {lt' : Nat → Nat → Bool} {cand' : Nat → Bool} {b : Option Nat} (h : zBst lt cand 0 5 b) (h1 : ∀ s t, s < 5 → t < 5 → lt' s t = lt s t) (h2 : ∀ t, t < 5 → cand' t = cand t) : zBst lt' cand' 0 5 b := by
  cases b with
  | none => exact fun s a b => (h2 s b).trans (h s a b)
  | some t =>
    obtain ⟨a1, a2, a3, a4, a5⟩ := h
    exact ⟨a1, a2, (h2 t a2).trans a3, fun s x y w => (h1 s t y a2).trans (a4 s x y ((h2 s y).symm.trans w)), fun s x y w => (h1 t s a2 (by omega)).trans (a5 s x y ((h2 s (by omega)).symm.trans w))⟩
theorem zbst_same (tr : ∀ a b c, lt a b = true → lt c b = false → lt a c = true) (tr' : ∀ a b c, lt b a = false → lt c b = false → lt c a = false) (as : ∀ a b, lt a b = true → lt b a = false) (rf : ∀ a, lt a a = false) : zBst lt cand 0 5 ((List.range' 0 5).foldl (zbU lt cand) none) ∧ zBst lt cand 0 5 (zbDN lt cand 5 none) := by
  have h0 : zBst lt cand 0 0 none := fun s _ h => by omega
  have hU : zBst lt cand 0 5 ((List.range' 0 5).foldl (zbU lt cand) none) := ((((h0.up tr as rf).up tr as rf).up tr as rf).up tr as rf).up tr as rf
  have h5 : zBst lt cand 5 5 none := fun s _ h => by omega
  have hD : zBst lt cand 0 5 (zbDN lt cand 5 none) := (((((h5.down (r := 4) tr' as rf (by decide)).down (r := 3) tr' as rf (by decide)).down (r := 2) tr' as rf (by decide)).down (r := 1) tr' as rf (by decide)).down (r := 0) tr' as rf (by decide))
  exact ⟨hU, hD⟩
end BST
/-! By need -/
theorem zcr1 {a b c x y w : Nat} (hw : 0 < w) (h1 : a * y < b * x) (h2 : b * w ≤ c * y) : a * w < c * x := by
  have e1 : a * w * y < b * x * w := by
    have := (Nat.mul_lt_mul_right hw).mpr h1
    rw [Nat.mul_right_comm] at this
    exact this
  have e2 : b * x * w ≤ c * x * y := by
    have := Nat.mul_le_mul_right x h2
    rw [Nat.mul_right_comm, Nat.mul_right_comm c y x] at this
    exact this
  exact Nat.lt_of_mul_lt_mul_right (Nat.lt_of_lt_of_le e1 e2)
theorem zcr2 {a b c x y w : Nat} (hy : 0 < y) (h1 : a * y ≤ b * x) (h2 : b * w ≤ c * y) : a * w ≤ c * x := by
  have e1 : a * w * y ≤ b * x * w := by
    have := Nat.mul_le_mul_right w h1
    rw [Nat.mul_right_comm] at this
    exact this
  have e2 : b * x * w ≤ c * x * y := by
    have := Nat.mul_le_mul_right x h2
    rw [Nat.mul_right_comm, Nat.mul_right_comm c y x] at this
    exact this
  exact Nat.le_of_mul_le_mul_right (Nat.le_trans e1 e2) hy
def zltN (G W : Nat → Nat) (s t : Nat) : Bool := decide ((G s + 1) * W t < (G t + 1) * W s)
theorem zneed {cand : Nat → Bool} {G W : Nat → Nat} (hW : ∀ t, 0 < W t) : zBst (zltN G W) cand 0 5 ((List.range' 0 5).foldl (zbU (zltN G W) cand) none) ∧ zBst (zltN G W) cand 0 5 (zbDN (zltN G W) cand 5 none) := by
  refine zbst_same (fun a b c h1 h2 => ?_) (fun a b c h1 h2 => ?_) (fun a b h => ?_) (fun a => ?_)
  · unfold zltN at *
    rw [decide_eq_true_eq] at h1 ⊢
    rw [decide_eq_false_iff_not] at h2
    exact zcr1 (hW c) h1 (by omega)
  · unfold zltN at *
    rw [decide_eq_false_iff_not] at h1 h2 ⊢
    have := zcr2 (a := G a + 1) (b := G b + 1) (c := G c + 1) (x := W a) (y := W b) (w := W c) (hW b) (by omega) (by omega)
    omega
  · unfold zltN at *
    rw [decide_eq_true_eq] at h
    rw [decide_eq_false_iff_not]
    omega
  · unfold zltN
    rw [decide_eq_false_iff_not]
    omega
def zltM (D : Nat → Nat) (s t : Nat) : Bool := decide (D t < D s)
theorem zmost {cand : Nat → Bool} {D : Nat → Nat} : zBst (zltM D) cand 0 5 ((List.range' 0 5).foldl (zbU (zltM D) cand) none) ∧ zBst (zltM D) cand 0 5 (zbDN (zltM D) cand 5 none) := by
  refine zbst_same (fun a b c h1 h2 => ?_) (fun a b c h1 h2 => ?_) (fun a b h => ?_) (fun a => ?_)
  · unfold zltM at *
    rw [decide_eq_true_eq] at h1 ⊢
    rw [decide_eq_false_iff_not] at h2
    omega
  · unfold zltM at *
    rw [decide_eq_false_iff_not] at h1 h2 ⊢
    omega
  · unfold zltM at *
    rw [decide_eq_true_eq] at h
    rw [decide_eq_false_iff_not]
    omega
  · unfold zltM
    rw [decide_eq_false_iff_not]
    omega
