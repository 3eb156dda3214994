/-! The reference: what is heard -/
theorem nI_subE (a k b : Nat) (ha : a + b < 2 ^ 31) (hk : k < 2 ^ 31) : nI a = nI k - nI b ↔ a + b = k := by
  constructor
  · intro h
    have h2 : nI a + nI b = nI k := by rw [h, Int32.sub_add_cancel]
    rw [nI_add] at h2
    exact (nI_eq ha hk).mp h2
  · rintro rfl
    rw [← nI_add, Int32.add_sub_cancel]
/-- who sends where, by the reference -/
def zFm (f : zM) (sn : Nat → Option Nat) : Prop := ∀ k, k < 30 → f (59, 0, 0) k = zopt (sn k) ∧ ∀ t, sn k = some t → t < 5
def zoM (f : zM) (sn : Nat → Option Nat) (k : Nat) : Int32 := match sn k with
  | none => nI 0
  | some t => f (33, 0, 0) t
def zcM (f : zM) (sn : Nat → Option Nat) (k n : Nat) : Prop := (zK (-8) ≤ zoM f sn k ∧ zoM f sn k ≤ nI 8) ∧ ¬ (4 ≤ k ∧ k ≤ n + 3 ∧ nI 8 < zoM f sn (k - 3)) ∧ ¬ (k + 3 ≤ n ∧ zoM f sn (k + 3) < zK (-8))
def zcMB (f : zM) (sn : Nat → Option Nat) (k : Nat) : Bool := decide (zK (-8) ≤ zoM f sn k ∧ zoM f sn k ≤ nI 8) && (!decide (4 ≤ k ∧ nI 8 < zoM f sn (k - 3)) && !decide (k ≤ 26 ∧ zoM f sn (k + 3) < zK (-8)))
theorem zcMB_iff {f : zM} {sn : Nat → Option Nat} {k : Nat} (hk : k < 30) : zcMB f sn k = true ↔ zcM f sn k 29 := by
  unfold zcMB zcM
  simp only [Bool.and_eq_true, Bool.not_eq_true', decide_eq_true_eq, decide_eq_false_iff_not]
  constructor
  · rintro ⟨h1, h2, h3⟩
    exact ⟨h1, fun w => h2 ⟨w.1, w.2.2⟩, fun w => h3 ⟨by omega, w.2⟩⟩
  · rintro ⟨h1, h2, h3⟩
    exact ⟨h1, fun w => h2 ⟨w.1, by omega, w.2⟩, fun w => h3 ⟨by omega, w.2⟩⟩
def zheM (f : zM) (sn : Nat → Option Nat) (k : Nat) : Bool := (sn k).isSome && (decide (f (58, 0, 0) k = 0) && (if k = 0 then decide (f (30, 0, 0) 35 = nI 1) else zcMB f sn k))
theorem zcM_st {f : zM} {sn : Nat → Option Nat} {k n : Nat} : zcM f sn k (n + 1) ↔ zcM f sn k n ∧ ¬ (n + 1 + 3 = k ∧ nI 8 < zoM f sn (n + 1)) ∧ ¬ (n + 1 = k + 3 ∧ zoM f sn (n + 1) < zK (-8)) := by
  unfold zcM
  constructor
  · rintro ⟨h1, h2, h3⟩
    refine ⟨⟨h1, fun w => h2 ⟨w.1, by omega, w.2.2⟩, fun w => h3 ⟨by omega, w.2⟩⟩, fun w => h2 ⟨by omega, by omega, ?_⟩, fun w => h3 ⟨by omega, ?_⟩⟩
    · rw [show k - 3 = n + 1 by omega]; exact w.2
    · rw [← w.1]; exact w.2
  · rintro ⟨⟨h1, h2, h3⟩, h4, h5⟩
    refine ⟨h1, fun w => ?_, fun w => ?_⟩
    · by_cases e : n + 1 + 3 = k
      · refine h4 ⟨e, ?_⟩
        rw [show n + 1 = k - 3 by omega]; exact w.2.2
      · exact h2 ⟨w.1, by omega, w.2.2⟩
    · by_cases e : n + 1 = k + 3
      · refine h5 ⟨e, ?_⟩
        rw [e]; exact w.2
      · exact h3 ⟨by omega, w.2⟩
section MO12
variable {sc : zC} {c s : Nat} {f : zM} {g : zW} {K : zR → Prop} {k : Nat} {sn : Nat → Option Nat}
theorem q_isH_loop {o : Option zV} (hF : zFm f sn) (hk : k < 30) (r : Nat) : ∀ {n : Nat} {x : Int32}, n + r = 29 → ((x = nI 1 ∧ zcM f sn k n) ∨ (x = nI 0 ∧ ¬ zcM f sn k n)) → (zcM f sn k 29 → K (.inl (some (.inl (nI 1))), zN c s f g)) → (¬ zcM f sn k 29 → K (.inl (some (.inl (nI 0))), zN c s f g)) → zT sc 44 71 true [zmo, some (.inl (nI k)), o, some (.inl x), some (.inl (nI (n + 1)))] [] (zN c s f g) K := by
  induction r with
  | zero =>
    intro n x hn hx k1 k0
    have e : n = 29 := by omega
    subst e
    refine zb ?_
    refine zb ?_
    rcases hx with ⟨rfl, h⟩ | ⟨rfl, h⟩
    · exact k1 h
    · exact k0 h
  | succ r ih =>
    intro n x hn hx k1 k0
    have h157 : ∀ y : Int32, ((y = nI 1 ∧ zcM f sn k (n + 1)) ∨ (y = nI 0 ∧ ¬ zcM f sn k (n + 1))) → zT sc 44 157 true [zmo, some (.inl (nI k)), o, some (.inl x), some (.inl (nI (n + 1)))] [.inl y] (zN c s f g) K := fun y hy => by
      have h := ih (n := n + 1) (by omega) hy k1 k0
      rw [← nI_add (n + 1) 1] at h
      refine zb ?_
      exact h
    have h156 : ¬ zcM f sn k (n + 1) → zT sc 44 156 true [zmo, some (.inl (nI k)), o, some (.inl x), some (.inl (nI (n + 1)))] [] (zN c s f g) K := fun h => by
      refine zb ?_
      exact h157 _ (Or.inr ⟨rfl, h⟩)
    have h152 : zcM f sn k (n + 1) → zT sc 44 152 true [zmo, some (.inl (nI k)), o, some (.inl x), some (.inl (nI (n + 1)))] [] (zN c s f g) K := fun h => by
      refine zb ?_
      exact h157 _ (Or.inl ⟨rfl, h⟩)
    obtain ⟨f1, f2⟩ := hF (n + 1) (by omega)
    have h117 : zcM f sn k n → ¬ (n + 1 + 3 = k ∧ nI 8 < zoM f sn (n + 1)) → zT sc 44 117 true [zmo, some (.inl (nI k)), o, some (.inl x), some (.inl (nI (n + 1)))] [] (zN c s f g) K := fun h h' => by
      refine zb ?_
      refine zif (fun q => ?_) (fun q => ?_)
      · have q : nI (n + 1) = nI k + nI 3 := q
        rw [nI_add] at q
        have q := (nI_eq (by omega) (by omega)).mp q
        refine zin (nI_in (N := 30) (by omega) (by decide)) ?_
        rw [nI_clamp (show n + 1 < 2 ^ 31 by omega)]
        cases hs : sn (n + 1) with
        | none =>
          refine zip (show f (59, 0, 0) (n + 1) < 0 by rw [f1, hs]; decide) ?_
          refine h152 (zcM_st.mpr ⟨h, h', fun w => ?_⟩)
          have e0 : zoM f sn (n + 1) = nI 0 := by unfold zoM; rw [hs]
          have := w.2
          rw [e0] at this
          exact absurd this (by decide)
        | some t =>
          have ht := f2 t hs
          have e : f (59, 0, 0) (n + 1) = nI t := by rw [f1, hs]; rfl
          refine zin (show ¬ f (59, 0, 0) (n + 1) < 0 by rw [e]; exact nI_pos (by omega)) ?_
          refine zin (nI_in (N := 30) (by omega) (by decide)) ?_
          rw [nI_clamp (show n + 1 < 2 ^ 31 by omega)]
          refine zin (show ¬ (f (59, 0, 0) (n + 1) < 0 ∨ 5 ≤ (f (59, 0, 0) (n + 1)).toNatClampNeg) by rw [e]; exact nI_in (N := 5) ht (by decide)) ?_
          have e2 : f (33, 0, 0) (f (59, 0, 0) (n + 1)).toNatClampNeg = zoM f sn (n + 1) := by
            rw [e, nI_clamp (by omega)]; unfold zoM; rw [hs]
          refine zif (fun q2 => ?_) (fun q2 => ?_)
          · have q2 : f (33, 0, 0) (f (59, 0, 0) (n + 1)).toNatClampNeg < zK (-8) := q2
            rw [e2] at q2
            exact h156 (fun w => (zcM_st.mp w).2.2 ⟨q, q2⟩)
          · have q2 : ¬ f (33, 0, 0) (f (59, 0, 0) (n + 1)).toNatClampNeg < zK (-8) := q2
            rw [e2] at q2
            exact h152 (zcM_st.mpr ⟨h, h', fun w => q2 w.2⟩)
      · have q : ¬ nI (n + 1) = nI k + nI 3 := q
        rw [nI_add] at q
        exact h152 (zcM_st.mpr ⟨h, h', fun w => q (by rw [w.1])⟩)
    refine zb ?_
    refine zin (nI_ge (a := n + 1) (b := 30) (by omega) (by decide)) ?_
    rcases hx with ⟨rfl, hx⟩ | ⟨rfl, hx⟩
    · refine zif (fun q => ?_) (fun q => ?_)
      · have q : nI (n + 1) = nI k - nI 3 := q
        have q := (nI_subE _ _ _ (by omega) (by omega)).mp q
        refine zin (nI_in (N := 30) (by omega) (by decide)) ?_
        rw [nI_clamp (show n + 1 < 2 ^ 31 by omega)]
        cases hs : sn (n + 1) with
        | none =>
          refine zip (show f (59, 0, 0) (n + 1) < 0 by rw [f1, hs]; decide) ?_
          refine h117 hx (fun w => ?_)
          have e0 : zoM f sn (n + 1) = nI 0 := by unfold zoM; rw [hs]
          have := w.2
          rw [e0] at this
          exact absurd this (by decide)
        | some t =>
          have ht := f2 t hs
          have e : f (59, 0, 0) (n + 1) = nI t := by rw [f1, hs]; rfl
          refine zin (show ¬ f (59, 0, 0) (n + 1) < 0 by rw [e]; exact nI_pos (by omega)) ?_
          refine zin (nI_in (N := 30) (by omega) (by decide)) ?_
          rw [nI_clamp (show n + 1 < 2 ^ 31 by omega)]
          refine zin (show ¬ (f (59, 0, 0) (n + 1) < 0 ∨ 5 ≤ (f (59, 0, 0) (n + 1)).toNatClampNeg) by rw [e]; exact nI_in (N := 5) ht (by decide)) ?_
          have e2 : f (33, 0, 0) (f (59, 0, 0) (n + 1)).toNatClampNeg = zoM f sn (n + 1) := by
            rw [e, nI_clamp (by omega)]; unfold zoM; rw [hs]
          refine zif (fun q2 => ?_) (fun q2 => ?_)
          · have q2 : nI 8 < f (33, 0, 0) (f (59, 0, 0) (n + 1)).toNatClampNeg := q2
            rw [e2] at q2
            exact h156 (fun w => (zcM_st.mp w).2.1 ⟨q, q2⟩)
          · have q2 : ¬ nI 8 < f (33, 0, 0) (f (59, 0, 0) (n + 1)).toNatClampNeg := q2
            rw [e2] at q2
            exact h117 hx (fun w => q2 w.2)
      · have q : ¬ nI (n + 1) = nI k - nI 3 := q
        exact h117 hx (fun w => q ((nI_subE _ _ _ (by omega) (by omega)).mpr w.1))
    · exact h156 (fun w => hx (zcM_st.mp w).1)
theorem q_isHeard (hF : zFm f sn) (hk : k < 30) (k1 : zheM f sn k = true → K (.inl (some (.inl (nI 1))), zN c s f g)) (k0 : zheM f sn k = false → K (.inl (some (.inl (nI 0))), zN c s f g)) : zT sc 44 0 true [zmo, some (.inl (nI k))] [] (zN c s f g) K := by
  obtain ⟨f1, f2⟩ := hF k hk
  have hno : zheM f sn k = false → zT sc 44 18 true [zmo, some (.inl (nI k))] [] (zN c s f g) K := fun w => by
    refine zb ?_
    exact k0 w
  refine zb ?_
  refine zin (nI_in (N := 30) hk (by decide)) ?_
  rw [nI_clamp (show k < 2 ^ 31 by omega)]
  cases hs : sn k with
  | none =>
    refine zip (show f (59, 0, 0) k < 0 by rw [f1, hs]; decide) ?_
    exact hno (by unfold zheM; rw [hs]; rfl)
  | some t =>
    have ht := f2 t hs
    have e : f (59, 0, 0) k = nI t := by rw [f1, hs]; rfl
    refine zin (show ¬ f (59, 0, 0) k < 0 by rw [e]; exact nI_pos (by omega)) ?_
    refine zin (nI_in (N := 30) hk (by decide)) ?_
    rw [nI_clamp (show k < 2 ^ 31 by omega)]
    refine zif (fun q => ?_) (fun q => ?_)
    · have q : f (58, 0, 0) k = 0 := q
      refine zb ?_
      refine zif (fun q2 => ?_) (fun q2 => ?_)
      · have q2 : nI k = 0 := q2
        have q2 := (nI_eq (a := k) (b := 0) (by omega) (by decide)).mp (q2.trans nI_0.symm)
        subst q2
        refine zif (fun q3 => ?_) (fun q3 => ?_)
        · refine zb ?_
          refine k1 ?_
          have q3 : f (30, 0, 0) 35 = nI 1 := q3
          unfold zheM; rw [hs, decide_eq_true q, if_pos rfl, decide_eq_true q3]; rfl
        · refine zb ?_
          refine zb ?_
          refine k0 ?_
          have q3 : ¬ f (30, 0, 0) 35 = nI 1 := q3
          unfold zheM; rw [hs, decide_eq_true q, if_pos rfl, decide_eq_false q3]; rfl
      · have q2 : ¬ nI k = 0 := q2
        have q2 : ¬ k = 0 := fun w => q2 (by rw [w]; exact nI_0)
        have eo : f (33, 0, 0) (f (59, 0, 0) k).toNatClampNeg = zoM f sn k := by
          rw [e, nI_clamp (by omega)]; unfold zoM; rw [hs]
        have e0 : zcM f sn k 0 ↔ (zK (-8) ≤ zoM f sn k ∧ zoM f sn k ≤ nI 8) := ⟨fun w => w.1, fun w => ⟨w, fun a => by omega, fun a => by omega⟩⟩
        have h67 : ∀ x o, ((x = nI 1 ∧ zcM f sn k 0) ∨ (x = nI 0 ∧ ¬ zcM f sn k 0)) → zT sc 44 67 true [zmo, some (.inl (nI k)), o] [.inl x] (zN c s f g) K := fun x o hx => by
          refine zb ?_
          refine q_isH_loop hF hk 29 (n := 0) rfl hx (fun w => k1 ?_) (fun w => k0 ?_)
          · unfold zheM; rw [hs, decide_eq_true q, if_neg q2, (zcMB_iff hk).mpr w]; rfl
          · unfold zheM; rw [hs, decide_eq_true q, if_neg q2]
            cases h : zcMB f sn k
            · rfl
            · exact absurd ((zcMB_iff hk).mp h) w
        refine zb ?_
        refine zin (nI_in (N := 30) hk (by decide)) ?_
        rw [nI_clamp (show k < 2 ^ 31 by omega)]
        refine zin (show ¬ (f (59, 0, 0) k < 0 ∨ 5 ≤ (f (59, 0, 0) k).toNatClampNeg) by rw [e]; exact nI_in (N := 5) ht (by decide)) ?_
        refine zif (fun q3 => ?_) (fun q3 => ?_)
        · have q3 : f (33, 0, 0) (f (59, 0, 0) k).toNatClampNeg < zK (-8) := q3
          rw [eo] at q3
          refine zb ?_
          exact h67 _ _ (Or.inr ⟨rfl, fun w => ile.mp (e0.mp w).1 q3⟩)
        · have q3 : ¬ f (33, 0, 0) (f (59, 0, 0) k).toNatClampNeg < zK (-8) := q3
          rw [eo] at q3
          refine zif (fun q4 => ?_) (fun q4 => ?_)
          · have q4 : nI 8 < f (33, 0, 0) (f (59, 0, 0) k).toNatClampNeg := q4
            rw [eo] at q4
            refine zb ?_
            exact h67 _ _ (Or.inr ⟨rfl, fun w => ile.mp (e0.mp w).2 q4⟩)
          · have q4 : ¬ nI 8 < f (33, 0, 0) (f (59, 0, 0) k).toNatClampNeg := q4
            rw [eo] at q4
            exact h67 _ _ (Or.inl ⟨rfl, e0.mpr ⟨ile.mpr q3, ile.mpr q4⟩⟩)
    · have q : ¬ f (58, 0, 0) k = 0 := q
      refine hno ?_
      unfold zheM; rw [hs, decide_eq_false q]; rfl
end MO12
