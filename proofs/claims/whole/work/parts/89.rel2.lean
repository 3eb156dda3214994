/-! Upkeep of the cells: power off, sending, what was told -/
section RU
variable {σ σ' : zM} {t m : Nat} {l : List Nat} {α : zAt} {z : Nat → Nat}
theorem zBk.cg (h : zBk σ t l α m z) (h1 : ∀ i, i < 366 → σ' (41, 0, 0) (366 * t + i) = σ (41, 0, 0) (366 * t + i)) (h2 : ∀ i, i < 366 → σ' (42, 0, 0) (366 * t + i) = σ (42, 0, 0) (366 * t + i)) (h3 : ∀ i, i < 366 → σ' (43, 0, 0) (366 * t + i) = σ (43, 0, 0) (366 * t + i)) : zBk σ' t l α m z := by
  obtain ⟨a1, a2, a3, a4, a5, a6⟩ := h
  refine ⟨a1, fun i => ?_, fun i hi => ?_, fun i hi => ?_, fun i hi => ?_, fun i hi => ?_⟩
  · rw [a2]
    constructor
    · rintro ⟨q, w⟩; exact ⟨q, by rw [h1 i q]; exact w⟩
    · rintro ⟨q, w⟩; rw [h1 i q] at w; exact ⟨q, w⟩
  · have q := ((a2 i).mp hi).1
    rw [h1 i q, h2 i q, h3 i q]; exact a3 i hi
  · rw [h1 i hi]; exact a4 i hi
  · rw [h1 i hi, h3 i hi]; exact a5 i hi
  · rw [h1 i hi, h3 i hi]; exact a6 i hi
theorem zau_at (α : zAt) (i q : Nat) (v : Int32) (x y : Nat) : zau α i q v x y = if x = i ∧ y = q then v else α x y := rfl
theorem zoff_at : ∀ (l : List Nat) (α : zAt) (i q : Nat), l.foldl (fun α x => zau (zau α x 3 0) x 5 0) α i q = if i ∈ l ∧ (q = 3 ∨ q = 5) then 0 else α i q
  | [], α, i, q => by rw [if_neg (fun w => List.not_mem_nil w.1)]; rfl
  | x :: l, α, i, q => by
    rw [List.foldl_cons, zoff_at l, zau_at, zau_at]
    by_cases h1 : i ∈ l ∧ (q = 3 ∨ q = 5)
    · rw [if_pos h1, if_pos ⟨List.mem_cons_of_mem _ h1.1, h1.2⟩]
    · rw [if_neg h1]
      by_cases h2 : i = x ∧ q = 5
      · rw [if_pos h2, if_pos ⟨by rw [h2.1]; exact List.mem_cons_self, Or.inr h2.2⟩]
      · rw [if_neg h2]
        by_cases h3 : i = x ∧ q = 3
        · rw [if_pos h3, if_pos ⟨by rw [h3.1]; exact List.mem_cons_self, Or.inl h3.2⟩]
        · rw [if_neg h3, if_neg]
          rintro ⟨w1, w2⟩
          rcases List.mem_cons.mp w1 with w | w
          · rcases w2 with w2 | w2
            · exact h3 ⟨w, w2⟩
            · exact h2 ⟨w, w2⟩
          · exact h1 ⟨w, w2⟩
/-- switched off -/
theorem zBk.off (h : zBk σ t l α m z) (h1 : ∀ i, i < 366 → σ' (41, 0, 0) (366 * t + i) = if σ (41, 0, 0) (366 * t + i) = nI 2 then nI 1 else σ (41, 0, 0) (366 * t + i)) (h3 : ∀ i, i < 366 → σ' (43, 0, 0) (366 * t + i) = nI 0) : zBk σ' t l (l.foldl (fun α x => zau (zau α x 3 0) x 5 0) α) m z := by
  obtain ⟨a1, a2, a3, a4, a5, a6⟩ := h
  have n12 : ¬ (nI 1 : Int32) = nI 2 := by decide
  have n1' : ∀ i, i < 366 → ¬ σ' (41, 0, 0) (366 * t + i) = nI 2 := fun i hi => by
    rw [h1 i hi]; split
    · exact n12
    · assumption
  refine ⟨a1, fun i => ?_, fun i hi => ?_, fun i hi v => ?_, fun i hi v => ?_, fun i hi => ⟨fun _ => ⟨0, by omega, h3 i hi⟩, fun w => absurd w (n1' i hi)⟩⟩
  · rw [a2]
    constructor
    · rintro ⟨q, w⟩
      refine ⟨q, Or.inl ?_⟩
      rw [h1 i q]
      rcases w with w | w
      · rw [if_neg (by rw [w]; exact n12)]; exact w
      · rw [if_pos w]
    · rintro ⟨q, w⟩
      refine ⟨q, ?_⟩
      rw [h1 i q] at w
      by_cases e : σ (41, 0, 0) (366 * t + i) = nI 2
      · exact Or.inr e
      · rw [if_neg e] at w; exact w
  · have q := ((a2 i).mp hi).1
    obtain ⟨b0, b1, b2, -, -, b4, -⟩ := a3 i hi
    rw [zoff_at, zoff_at, zoff_at, zoff_at, zoff_at, zoff_at, zoff_at, if_neg (by omega), if_neg (by omega), if_neg (by omega), if_pos ⟨hi, Or.inl rfl⟩, if_neg (by omega), if_neg (by omega), if_pos ⟨hi, Or.inr rfl⟩, h3 i q]
    exact ⟨b0, b1, b2, fun w => absurd w (n1' i q), fun _ => rfl, b4, nI_0.symm⟩
  · rw [h1 i hi]
    rcases a4 i hi v with w | w | w
    · rw [if_neg (by rw [w]; exact n12)]; exact Or.inl w
    · rw [if_pos w]; exact Or.inl rfl
    · rw [if_neg (by rw [w]; decide)]; exact Or.inr (Or.inr w)
  · have w := (a5 i hi v).1
    rw [h1 i hi, if_neg (by rw [w]; decide)]
    exact ⟨w, h3 i hi⟩
/-- a new datagram -/
theorem zBk.send (h : zBk σ t l α m z) {n : Nat} {α' : zAt} (n1 : 1 ≤ n) (n6 : n ≤ 6) (hm : m < 60) (hA : zAd α α' (m + 1) n (nI (m + 1)) (List.range' 0 n)) (h1 : ∀ i, i < 366 → σ' (41, 0, 0) (366 * t + i) = if 6 * (m + 1) ≤ i ∧ i < 6 * (m + 1) + n then nI 1 else σ (41, 0, 0) (366 * t + i)) (h2 : ∀ i, i < 366 → σ' (42, 0, 0) (366 * t + i) = σ (42, 0, 0) (366 * t + i)) (h3 : ∀ i, i < 366 → σ' (43, 0, 0) (366 * t + i) = σ (43, 0, 0) (366 * t + i)) : zBk σ' t (l ++ (List.range' 0 n).map (6 * (m + 1) + ·)) α' (m + 1) (zfu z (m + 1) n) := by
  have hmem := fun i hi => zBk.mem h (i := i) hi
  obtain ⟨a1, a2, a3, a4, a5, a6⟩ := h
  have hnew : ∀ i, i ∈ (List.range' 0 n).map (6 * (m + 1) + ·) ↔ 6 * (m + 1) ≤ i ∧ i < 6 * (m + 1) + n := fun i => by
    rw [List.mem_map]
    constructor
    · rintro ⟨k, hk, rfl⟩
      rw [List.mem_range'_1] at hk
      omega
    · intro w
      exact ⟨i - 6 * (m + 1), by rw [List.mem_range'_1]; omega, by show 6 * (m + 1) + (i - 6 * (m + 1)) = i; omega⟩
  have hold : ∀ i, i ∈ l → i < 6 * (m + 1) := fun i hi => by
    have := (hmem i hi).2.2.1
    omega
  have hval : ∀ i, ¬ (6 * (m + 1) ≤ i ∧ i < 6 * (m + 1) + n) → (zval (m + 1) (zfu z (m + 1) n) i ↔ zval m z i) := fun i hi => by
    unfold zval zfu
    by_cases e : i / 6 = m + 1
    · rw [if_pos e]
      constructor
      · intro w; omega
      · intro w; omega
    · rw [if_neg e]
      constructor
      · intro w; exact ⟨w.1, by omega, w.2.2⟩
      · intro w; exact ⟨w.1, by omega, w.2.2⟩
  have hvn : ∀ i, (6 * (m + 1) ≤ i ∧ i < 6 * (m + 1) + n) → ¬ zval m z i := fun i hi w => by
    have := w.2.1
    omega
  have n12 : ¬ (nI 1 : Int32) = nI 2 := by decide
  refine ⟨?_, fun i => ?_, fun i hi => ?_, fun i hi v => ?_, fun i hi v => ?_, fun i hi => ?_⟩
  · rw [List.pairwise_append]
    refine ⟨a1, ?_, fun a ha b hb => ?_⟩
    · rw [List.pairwise_map]
      refine List.Pairwise.imp (fun {a b} w => ?_) (List.pairwise_lt_range' (s := 0) (n := n) (step := 1) (by omega))
      omega
    · have := hold a ha
      have := (hnew b).mp hb
      omega
  · rw [List.mem_append, hnew, a2]
    constructor
    · rintro (⟨q, w⟩ | w)
      · refine ⟨q, ?_⟩
        rw [h1 i q, if_neg (fun e => ?_)]
        · exact w
        · have := hold i ((a2 i).mpr ⟨q, w⟩); omega
      · exact ⟨by omega, Or.inl (by rw [h1 i (by omega), if_pos w])⟩
    · rintro ⟨q, w⟩
      by_cases e : 6 * (m + 1) ≤ i ∧ i < 6 * (m + 1) + n
      · exact Or.inr e
      · rw [h1 i q, if_neg e] at w
        exact Or.inl ⟨q, w⟩
  · rw [List.mem_append] at hi
    by_cases e : 6 * (m + 1) ≤ i ∧ i < 6 * (m + 1) + n
    · obtain ⟨c0, c1, c2, c3, c4, c5⟩ := hA.2 (i - 6 * (m + 1)) (by rw [List.mem_range'_1]; omega)
      rw [show 6 * (m + 1) + (i - 6 * (m + 1)) = i by omega] at c0 c1 c2 c3 c4 c5
      have i366 : i < 366 := by omega
      have ei : i / 6 = m + 1 := by omega
      refine ⟨by rw [c0, ei], by rw [c1]; congr 1; omega, by rw [c2, ei]; unfold zfu; rw [if_pos rfl], fun w => ?_, fun _ => c3, c4, ?_⟩
      · rw [h1 i i366, if_pos e] at w; exact absurd w n12
      · rw [c5, h3 i i366, (a5 i i366 (hvn i e)).2]; exact nI_0.symm
    · have hl : i ∈ l := by
        rcases hi with q | q
        · exact q
        · exact absurd ((hnew i).mp q) e
      have i366 := ((a2 i).mp hl).1
      have hq := fun q => hA.1 i (fun w => e ((hnew i).mp w)) q
      have hne : ¬ i / 6 = m + 1 := fun w => by
        have := (hmem i hl).2.2.1
        omega
      rw [hq, hq, hq, hq, hq, hq, hq, h1 i i366, if_neg e, h2 i i366, h3 i i366]
      unfold zfu
      rw [if_neg hne]
      exact a3 i hl
  · rw [h1 i hi]
    by_cases e : 6 * (m + 1) ≤ i ∧ i < 6 * (m + 1) + n
    · rw [if_pos e]; exact Or.inl rfl
    · rw [if_neg e]; exact a4 i hi ((hval i e).mp v)
  · have e : ¬ (6 * (m + 1) ≤ i ∧ i < 6 * (m + 1) + n) := fun e => v ⟨by omega, by omega, by
      unfold zfu; rw [if_pos (by omega)]; omega⟩
    rw [h1 i hi, if_neg e, h3 i hi]
    exact a5 i hi (fun w => v ((hval i e).mpr w))
  · rw [h1 i hi, h3 i hi]
    by_cases e : 6 * (m + 1) ≤ i ∧ i < 6 * (m + 1) + n
    · rw [if_pos e]
      exact ⟨fun _ => ⟨0, by omega, (a5 i hi (hvn i e)).2⟩, fun w => absurd w n12⟩
    · rw [if_neg e]; exact a6 i hi
theorem zdr_at (rl : List (Int32 × Int32)) : ∀ (l : List Nat) (α : zAt) (i q : Nat), l.foldl (zdr rl) α i q = if i ∈ l ∧ q = 4 ∧ (α i 0, α i 1) ∈ rl then 1 else α i q
  | [], α, i, q => by rw [if_neg (fun w => List.not_mem_nil w.1)]; rfl
  | x :: l, α, i, q => by
    rw [List.foldl_cons, zdr_at rl l]
    have e0 : ∀ y, y ≠ 4 → zdr rl α x i y = α i y := fun y hy => by
      unfold zdr
      split
      · rw [zau_at, if_neg (fun w => hy w.2)]
      · rfl
    rw [e0 0 (by decide), e0 1 (by decide)]
    by_cases h1 : i ∈ l ∧ q = 4 ∧ (α i 0, α i 1) ∈ rl
    · rw [if_pos h1, if_pos ⟨List.mem_cons_of_mem _ h1.1, h1.2⟩]
    · rw [if_neg h1]
      unfold zdr
      by_cases hx : (α x 0, α x 1) ∈ rl
      · rw [if_pos hx, zau_at]
        by_cases h2 : i = x ∧ q = 4
        · rw [if_pos h2, if_pos ⟨by rw [h2.1]; exact List.mem_cons_self, h2.2, by rw [h2.1]; exact hx⟩]
        · rw [if_neg h2, if_neg]
          rintro ⟨w1, w2, w3⟩
          rcases List.mem_cons.mp w1 with w | w
          · exact h2 ⟨w, w2⟩
          · exact h1 ⟨w, w2, w3⟩
      · rw [if_neg hx, if_neg]
        rintro ⟨w1, w2, w3⟩
        rcases List.mem_cons.mp w1 with w | w
        · rw [w] at w3; exact hx w3
        · exact h1 ⟨w, w2, w3⟩
/-- what was told -/
theorem zBk.told (h : zBk σ t l α m z) {rl : List (Int32 × Int32)} {nm : Nat → Prop} (hn : ∀ i, i < 366 → (nm i ↔ (nI (i / 6), nI (i % 6)) ∈ rl)) (hv : ∀ i, i < 366 → nm i → zval m z i) (h1 : ∀ i, i < 366 → nm i → σ' (41, 0, 0) (366 * t + i) = nI 3) (h1' : ∀ i, i < 366 → ¬ nm i → σ' (41, 0, 0) (366 * t + i) = σ (41, 0, 0) (366 * t + i)) (h2 : ∀ i, i < 366 → σ' (42, 0, 0) (366 * t + i) = σ (42, 0, 0) (366 * t + i)) (h3 : ∀ i, i < 366 → σ' (43, 0, 0) (366 * t + i) = σ (43, 0, 0) (366 * t + i)) : zBk σ' t (l.filter (zal0 (l.foldl (zdr rl) α))) (l.foldl (zdr rl) α) m z := by
  obtain ⟨a1, a2, a3, a4, a5, a6⟩ := h
  have n31 : ¬ (nI 3 : Int32) = nI 1 := by decide
  have n32 : ¬ (nI 3 : Int32) = nI 2 := by decide
  have hin : ∀ i, i ∈ l.filter (zal0 (l.foldl (zdr rl) α)) ↔ i ∈ l ∧ ¬ nm i := fun i => by
    rw [List.mem_filter]
    constructor
    · rintro ⟨w1, w2⟩
      refine ⟨w1, fun w => ?_⟩
      obtain ⟨b0, b1, -, -, -, -, -⟩ := a3 i w1
      have i366 := ((a2 i).mp w1).1
      unfold zal0 at w2
      rw [decide_eq_true_eq, zdr_at, if_pos ⟨w1, rfl, by rw [b0, b1]; exact (hn i i366).mp w⟩] at w2
      exact absurd w2 (by decide)
    · rintro ⟨w1, w2⟩
      refine ⟨w1, ?_⟩
      obtain ⟨b0, b1, -, -, -, b4, -⟩ := a3 i w1
      have i366 := ((a2 i).mp w1).1
      unfold zal0
      rw [decide_eq_true_eq, zdr_at, if_neg (fun w => w2 ((hn i i366).mpr (by rw [← b0, ← b1]; exact w.2.2)))]
      exact b4
  refine ⟨List.Pairwise.filter _ a1, fun i => ?_, fun i hi => ?_, fun i hi v => ?_, fun i hi v => ?_, fun i hi => ?_⟩
  · rw [hin, a2]
    constructor
    · rintro ⟨⟨q, w⟩, w2⟩
      exact ⟨q, by rw [h1' i q w2]; exact w⟩
    · rintro ⟨q, w⟩
      by_cases e : nm i
      · rw [h1 i q e] at w
        exact absurd w (fun w => w.elim n31 n32)
      · rw [h1' i q e] at w
        exact ⟨⟨q, w⟩, e⟩
  · obtain ⟨w1, w2⟩ := (hin i).mp hi
    have i366 := ((a2 i).mp w1).1
    obtain ⟨b0, b1, b2, b3, b3', b4, b5⟩ := a3 i w1
    have hnr : ¬ (i ∈ l ∧ 4 = 4 ∧ (α i 0, α i 1) ∈ rl) := fun w => w2 ((hn i i366).mpr (by rw [← b0, ← b1]; exact w.2.2))
    rw [zdr_at, zdr_at, zdr_at, zdr_at, zdr_at, zdr_at, zdr_at, if_neg (by omega), if_neg (by omega), if_neg (by omega), if_neg (by omega), if_neg (by omega), if_neg hnr, if_neg (by omega), h1' i i366 w2, h2 i i366, h3 i i366]
    exact ⟨b0, b1, b2, b3, b3', b4, b5⟩
  · by_cases e : nm i
    · exact Or.inr (Or.inr (h1 i hi e))
    · rw [h1' i hi e]; exact a4 i hi v
  · have e : ¬ nm i := fun e => v (hv i hi e)
    rw [h1' i hi e, h3 i hi]; exact a5 i hi v
  · rw [h3 i hi]
    by_cases e : nm i
    · rw [h1 i hi e]
      exact ⟨fun w => absurd w n31, fun w => absurd w n32⟩
    · rw [h1' i hi e]; exact a6 i hi
end RU
