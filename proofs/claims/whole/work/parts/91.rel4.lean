/-! Upkeep of the cells: the class's giving up or renewing -/
theorem zmg_at (d : Int32) : ∀ (l : List Nat) (α : zAt) (i q : Nat), l.foldl (zmg d) α i q = if i ∈ l ∧ q = 4 ∧ α i 0 = d then 1 else α i q
  | [], α, i, q => by rw [if_neg (fun w => List.not_mem_nil w.1)]; rfl
  | x :: l, α, i, q => by
    rw [List.foldl_cons, zmg_at d l]
    have e0 : zmg d α x i 0 = α i 0 := by
      unfold zmg
      split
      · rw [zau_at, if_neg (fun w => by omega)]
      · rfl
    rw [e0]
    by_cases h1 : i ∈ l ∧ q = 4 ∧ α i 0 = d
    · rw [if_pos h1, if_pos ⟨List.mem_cons_of_mem _ h1.1, h1.2⟩]
    · rw [if_neg h1]
      unfold zmg
      by_cases hx : α x 0 = d
      · rw [if_pos hx, zau_at]
        by_cases h2 : i = x ∧ q = 4
        · rw [if_pos h2, if_pos ⟨by rw [h2.1]; exact List.mem_cons_self, h2.2, by rw [h2.1]; exact hx⟩]
        · rw [if_neg h2, if_neg]
          rintro ⟨w1, w2, w3⟩
          rcases List.mem_cons.mp w1 with w | w
          · exact h2 ⟨w, w2⟩
          · exact h1 ⟨w, w2, w3⟩
      · rw [if_neg hx, if_neg]
        rintro ⟨w1, w2, w3⟩
        rcases List.mem_cons.mp w1 with w | w
        · rw [w] at w3; exact hx w3
        · exact h1 ⟨w, w2, w3⟩
theorem zcnt1 {P : Nat → Bool} {d0 : Nat} (h0 : P d0 = false) : ∀ {L : List Nat}, L.Nodup → (d0 ∈ L → L.countP (fun d => P d || decide (d = d0)) = L.countP P + 1) ∧ (d0 ∉ L → L.countP (fun d => P d || decide (d = d0)) = L.countP P)
  | [], _ => ⟨fun h => absurd h List.not_mem_nil, fun _ => rfl⟩
  | a :: L, hL => by
    rw [List.nodup_cons] at hL
    obtain ⟨i1, i2⟩ := zcnt1 h0 hL.2
    constructor
    · intro h
      rw [List.countP_cons, List.countP_cons]
      rcases List.mem_cons.mp h with q | q
      · subst q
        rw [i2 hL.1, h0]
        simp
      · have hne : a ≠ d0 := fun e => hL.1 (by rw [e]; exact q)
        rw [i1 q, decide_eq_false hne, Bool.or_false]
        omega
    · intro h
      rw [List.countP_cons, List.countP_cons]
      have hne : a ≠ d0 := fun e => h (by rw [e]; exact List.mem_cons_self)
      rw [i2 (fun w => h (List.mem_cons_of_mem _ w)), decide_eq_false hne, Bool.or_false]
def zbd (α : zAt) (la : Int32) (x : Nat) : Bool := decide (¬ α x 3 = 0 ∧ α x 6 ≤ la ∧ 4 ≤ α x 5)
def zcd1 (α : zAt) (la : Int32) (m : Nat) (p : List Nat) : Nat := (List.range' 1 m).countP (fun d => p.any (fun y => decide (y / 6 = d) && zbd α la y))
/-- the state after the cells p of l -/
def zGU (l : List Nat) (α : zAt) (la : Int32) (m : Nat) (p : List Nat) (w : zAt × Nat) : Prop :=
  (∀ x q, q ≠ 3 → q ≠ 4 → w.1 x q = α x q) ∧ (∀ x, x ∈ l → (w.1 x 4 = 0 ∧ ∀ y, y ∈ p → zbd α la y = true → ¬ y / 6 = x / 6) ∨ (w.1 x 4 = 1 ∧ ∃ y, y ∈ p ∧ zbd α la y = true ∧ y / 6 = x / 6)) ∧
  (∀ x, x ∈ l → x ∉ p → w.1 x 3 = α x 3) ∧ (∀ x, x ∈ p → w.1 x 4 = 0 → w.1 x 3 = if ¬ α x 3 = 0 ∧ α x 6 ≤ la then 0 else α x 3) ∧ w.2 = zcd1 α la m p
section RU4
variable {l : List Nat} {α : zAt} {la : Int32} {m : Nat}
theorem zGU.st (hd : ∀ x, x ∈ l → α x 0 = nI (x / 6) ∧ 1 ≤ x / 6 ∧ x / 6 ≤ m ∧ x < 366) {p : List Nat} {x : Nat} (hp : ∀ y, y ∈ p → y ∈ l) (hx : x ∈ l) (hxp : x ∉ p) {w : zAt × Nat} (h : zGU l α la m p w) : zGU l α la m (p ++ [x]) (zgu l la w x) := by
  obtain ⟨i0, i4, i3, i3', iu⟩ := h
  obtain ⟨β, u⟩ := w
  have i0 : ∀ x q, q ≠ 3 → q ≠ 4 → β x q = α x q := i0
  have iu : u = zcd1 α la m p := iu
  have e3 : β x 3 = α x 3 := i3 x hx hxp
  have e6 : β x 6 = α x 6 := i0 x 6 (by decide) (by decide)
  have e5 : β x 5 = α x 5 := i0 x 5 (by decide) (by decide)
  have e0 : ∀ y, β y 0 = α y 0 := fun y => i0 y 0 (by decide) (by decide)
  have hany : ∀ d, (p ++ [x]).any (fun y => decide (y / 6 = d) && zbd α la y) = (p.any (fun y => decide (y / 6 = d) && zbd α la y) || (decide (x / 6 = d) && zbd α la x)) := fun d => by
    rw [List.any_append, List.any_cons, List.any_nil, Bool.or_false]
  have hcsame : (zbd α la x = false ∨ ∃ y, y ∈ p ∧ zbd α la y = true ∧ y / 6 = x / 6) → zcd1 α la m (p ++ [x]) = zcd1 α la m p := fun hh => by
    unfold zcd1
    apply List.countP_congr
    intro d _
    rw [hany]
    rcases hh with hh | ⟨y, y1, y2, y3⟩
    · rw [hh, Bool.and_false, Bool.or_false]
    · constructor
      · intro w
        rw [Bool.or_eq_true] at w
        rcases w with w | w
        · exact w
        · rw [Bool.and_eq_true, decide_eq_true_eq] at w
          rw [List.any_eq_true]
          exact ⟨y, y1, by rw [Bool.and_eq_true, decide_eq_true_eq]; exact ⟨y3.trans w.1, y2⟩⟩
      · intro w
        rw [w]; rfl
  have hkeep : (zbd α la x = false ∨ ∃ y, y ∈ p ∧ zbd α la y = true ∧ y / 6 = x / 6) → ∀ v, v ∈ l → (∀ y, y ∈ p → zbd α la y = true → ¬ y / 6 = v / 6) → ∀ y, y ∈ p ++ [x] → zbd α la y = true → ¬ y / 6 = v / 6 := fun hh v hv h1 y hy hb => by
    rcases List.mem_append.mp hy with q | q
    · exact h1 y q hb
    · have : y = x := List.mem_singleton.mp q
      subst this
      rcases hh with hh | ⟨y', y1, y2, y3⟩
      · rw [hh] at hb; cases hb
      · intro e; exact h1 y' y1 y2 (y3.trans e)
  unfold zgu
  by_cases hc : β x 4 = 0 ∧ ¬ β x 3 = 0 ∧ β x 6 ≤ la
  · rw [if_pos hc]
    rw [e3, e6] at hc
    have hno : ∀ y, y ∈ p → zbd α la y = true → ¬ y / 6 = x / 6 := by
      rcases i4 x hx with q | q
      · exact q.2
      · have : β x 4 = 1 := q.1
        rw [hc.1] at this
        exact absurd this (by decide)
    by_cases h4 : 4 ≤ β x 5
    · rw [if_pos h4]
      rw [e5] at h4
      have hb : zbd α la x = true := by unfold zbd; rw [decide_eq_true_eq]; exact ⟨hc.2.1, hc.2.2, h4⟩
      have hsame : ∀ v, v ∈ l → (α v 0 = α x 0 ↔ v / 6 = x / 6) := fun v hv => by
        rw [(hd v hv).1, (hd x hx).1, nI_eq (by have := (hd v hv).2.2.2; omega) (by have := (hd x hx).2.2.2; omega)]
      refine ⟨fun v q h3 h4 => ?_, fun v hv => ?_, fun v hv hvp => ?_, fun v hv hz => ?_, ?_⟩
      · show l.foldl (zmg (β x 0)) β v q = _
        rw [zmg_at, if_neg (fun w => h4 w.2.1)]
        exact i0 v q h3 h4
      · show (l.foldl (zmg (β x 0)) β v 4 = 0 ∧ _) ∨ (l.foldl (zmg (β x 0)) β v 4 = 1 ∧ _)
        rw [zmg_at, e0, e0]
        by_cases e : v / 6 = x / 6
        · rw [if_pos ⟨hv, rfl, (hsame v hv).mpr e⟩]
          exact Or.inr ⟨rfl, x, List.mem_append_right _ List.mem_cons_self, hb, e.symm⟩
        · rw [if_neg (fun w => e ((hsame v hv).mp w.2.2))]
          rcases i4 v hv with q | ⟨q, y, y1, y2, y3⟩
          · refine Or.inl ⟨q.1, fun y hy hb' => ?_⟩
            rcases List.mem_append.mp hy with r | r
            · exact q.2 y r hb'
            · rw [List.mem_singleton.mp r]; exact fun w => e w.symm
          · exact Or.inr ⟨q, y, List.mem_append_left _ y1, y2, y3⟩
      · show l.foldl (zmg (β x 0)) β v 3 = _
        rw [zmg_at, if_neg (fun w => by omega)]
        exact i3 v hv (fun w => hvp (List.mem_append_left _ w))
      · have hz : l.foldl (zmg (β x 0)) β v 4 = 0 := hz
        show l.foldl (zmg (β x 0)) β v 3 = _
        have hvl : v ∈ l := by
          rcases List.mem_append.mp hv with r | r
          · exact hp v r
          · rw [List.mem_singleton.mp r]; exact hx
        rw [zmg_at, e0, e0] at hz
        by_cases e : v / 6 = x / 6
        · rw [if_pos ⟨hvl, rfl, (hsame v hvl).mpr e⟩] at hz
          exact absurd hz (by decide)
        · rw [if_neg (fun w => e ((hsame v hvl).mp w.2.2))] at hz
          rw [zmg_at, if_neg (fun w => by omega)]
          rcases List.mem_append.mp hv with r | r
          · exact i3' v r hz
          · exact absurd (by rw [List.mem_singleton.mp r]) e
      · show u + 1 = _
        rw [iu]
        unfold zcd1
        have hf : p.any (fun y => decide (y / 6 = x / 6) && zbd α la y) = false := by
          rw [Bool.eq_false_iff]
          intro w
          rw [List.any_eq_true] at w
          obtain ⟨y, y1, y2⟩ := w
          rw [Bool.and_eq_true, decide_eq_true_eq] at y2
          exact hno y y1 y2.2 y2.1
        have key := (zcnt1 (P := fun d => p.any (fun y => decide (y / 6 = d) && zbd α la y)) (d0 := x / 6) hf (L := List.range' 1 m) List.nodup_range').1 (by rw [List.mem_range'_1]; have := hd x hx; omega)
        rw [← key]
        apply List.countP_congr
        intro d _
        rw [hany, hb, Bool.and_true]
        have : decide (x / 6 = d) = decide (d = x / 6) := by
          by_cases e : d = x / 6
          · rw [decide_eq_true e, decide_eq_true e.symm]
          · rw [decide_eq_false e, decide_eq_false (fun w => e w.symm)]
        rw [this]
    · rw [if_neg h4]
      rw [e5] at h4
      have hb : zbd α la x = false := by unfold zbd; rw [decide_eq_false_iff_not]; exact fun w => h4 w.2.2
      refine ⟨fun v q h3 h4 => ?_, fun v hv => ?_, fun v hv hvp => ?_, fun v hv hz => ?_, ?_⟩
      · show zau β x 3 0 v q = _
        rw [zau_at, if_neg (fun w => h3 w.2)]
        exact i0 v q h3 h4
      · show (zau β x 3 0 v 4 = 0 ∧ _) ∨ (zau β x 3 0 v 4 = 1 ∧ _)
        rw [zau_at, if_neg (fun w => by omega)]
        rcases i4 v hv with q | ⟨q, y, y1, y2, y3⟩
        · exact Or.inl ⟨q.1, hkeep (Or.inl hb) v hv q.2⟩
        · exact Or.inr ⟨q, y, List.mem_append_left _ y1, y2, y3⟩
      · show zau β x 3 0 v 3 = _
        rw [zau_at, if_neg (fun w => hvp (by rw [w.1]; exact List.mem_append_right _ List.mem_cons_self))]
        exact i3 v hv (fun w => hvp (List.mem_append_left _ w))
      · have hz : zau β x 3 0 v 4 = 0 := hz
        rw [zau_at, if_neg (fun w => by omega)] at hz
        show zau β x 3 0 v 3 = _
        rw [zau_at]
        by_cases e : v = x
        · subst e
          rw [if_pos ⟨rfl, rfl⟩, if_pos ⟨hc.2.1, hc.2.2⟩]
        · rw [if_neg (fun w => e w.1)]
          rcases List.mem_append.mp hv with r | r
          · exact i3' v r hz
          · exact absurd (List.mem_singleton.mp r) e
      · show u = _
        rw [iu, hcsame (Or.inl hb)]
  · rw [if_neg hc]
    rw [e3, e6] at hc
    have hh : zbd α la x = false ∨ ∃ y, y ∈ p ∧ zbd α la y = true ∧ y / 6 = x / 6 := by
      rcases i4 x hx with q | ⟨q, y, y1, y2, y3⟩
      · refine Or.inl ?_
        unfold zbd; rw [decide_eq_false_iff_not]
        exact fun w => hc ⟨q.1, w.1, w.2.1⟩
      · exact Or.inr ⟨y, y1, y2, y3⟩
    refine ⟨i0, fun v hv => ?_, fun v hv hvp => i3 v hv (fun w => hvp (List.mem_append_left _ w)), fun v hv hz => ?_, ?_⟩
    · rcases i4 v hv with q | ⟨q, y, y1, y2, y3⟩
      · exact Or.inl ⟨q.1, hkeep hh v hv q.2⟩
      · exact Or.inr ⟨q, y, List.mem_append_left _ y1, y2, y3⟩
    · rcases List.mem_append.mp hv with r | r
      · exact i3' v r hz
      · have : v = x := List.mem_singleton.mp r
        subst this
        rw [if_neg (fun w => hc ⟨hz, w.1, w.2⟩)]
        exact e3
    · show u = _
      rw [iu, hcsame hh]
theorem zGU_all (hnd : l.Nodup) (hd : ∀ x, x ∈ l → α x 0 = nI (x / 6) ∧ 1 ≤ x / 6 ∧ x / 6 ≤ m ∧ x < 366) : ∀ (s p : List Nat) (w : zAt × Nat), l = p ++ s → zGU l α la m p w → zGU l α la m l (s.foldl (zgu l la) w)
  | [], p, w, hl, h => by
    rw [List.append_nil] at hl
    rw [← hl] at h
    exact h
  | x :: s, p, w, hl, h => by
    rw [List.foldl_cons]
    have hnd' := hnd
    rw [hl, List.nodup_append] at hnd'
    refine zGU_all hnd hd s (p ++ [x]) (zgu l la w x) (by rw [hl, List.append_assoc]; rfl) (h.st hd (fun y hy => by rw [hl]; exact List.mem_append_left _ hy) (by rw [hl]; exact List.mem_append_right _ List.mem_cons_self) (fun w => ?_))
    exact hnd'.2.2 x w x List.mem_cons_self rfl
theorem zGU_0 (h4 : ∀ x, x ∈ l → α x 4 = 0) : zGU l α la m [] (α, 0) := by
  refine ⟨fun _ _ _ _ => rfl, fun x hx => Or.inl ⟨h4 x hx, fun y hy => absurd hy List.not_mem_nil⟩, fun _ _ _ => rfl, fun x hx => absurd hx List.not_mem_nil, ?_⟩
  unfold zcd1
  show 0 = _
  rw [eq_comm, List.countP_eq_zero]
  intro d _ h
  cases h
end RU4
