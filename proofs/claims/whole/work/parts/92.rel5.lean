/-! Upkeep of the cells: again -/
section RU5
variable {σ σ' : zM} {t m N : Nat} {l : List Nat} {α : zAt} {z : Nat → Nat}
theorem zfc_c (σ : zM) (t : Nat) (z : Nat → Nat) : ∀ m, zfc σ t z m = (List.range' 1 m).countP (fun d => zfl σ (366 * t + 6 * d) (z d))
  | 0 => rfl
  | m + 1 => by
    unfold zfc
    rw [zfc_c σ t z m, List.range'_1_concat, List.countP_append, List.countP_cons, List.countP_nil, Nat.add_comm 1 m]
    cases zfl σ (366 * t + 6 * (m + 1)) (z (m + 1)) <;> rfl
theorem zis_iff (h : zBk σ t l α m z) (hN : σ (30, 0, 0) 1 = nI N) {x : Nat} (hx : x ∈ l) : zisB σ (366 * t + x) = true ↔ (¬ α x 3 = 0 ∧ α x 6 ≤ nI N - nI 2) := by
  obtain ⟨a1, a2, a3, -, -, -⟩ := h
  obtain ⟨-, -, -, b3, b3', -, -⟩ := a3 x hx
  unfold zisB
  rw [Bool.and_eq_true, decide_eq_true_eq, decide_eq_true_eq, hN]
  constructor
  · rintro ⟨w1, w2⟩
    obtain ⟨c1, c2⟩ := b3 w1
    exact ⟨by rw [c1]; decide, by rw [c2]; exact w2⟩
  · rintro ⟨w1, w2⟩
    rcases ((a2 x).mp hx).2 with q | q
    · exact absurd (b3' q) w1
    · obtain ⟨c1, c2⟩ := b3 q
      exact ⟨q, by rw [← c2]; exact w2⟩
theorem zbd_iff (h : zBk σ t l α m z) (hN : σ (30, 0, 0) 1 = nI N) {x : Nat} (hx : x ∈ l) : zbd α (nI N - nI 2) x = true ↔ (zisB σ (366 * t + x) = true ∧ σ (43, 0, 0) (366 * t + x) = nI 4) := by
  have e5 : α x 5 = σ (43, 0, 0) (366 * t + x) := (h.2.2.1 x hx).2.2.2.2.2.2
  have x366 := ((h.2.1 x).mp hx).1
  unfold zbd
  rw [decide_eq_true_eq, e5]
  constructor
  · rintro ⟨w1, w2, w3⟩
    have hi := (zis_iff h hN hx).mpr ⟨w1, w2⟩
    refine ⟨hi, ?_⟩
    unfold zisB at hi
    rw [Bool.and_eq_true, decide_eq_true_eq] at hi
    obtain ⟨n, n4, hn⟩ := (h.2.2.2.2.2 x x366).2 hi.1
    rw [hn] at w3 ⊢
    have : 4 ≤ n := (nI_leI (a := 4) (b := n) (by decide) (by omega)).mp w3
    rw [show n = 4 by omega]
  · rintro ⟨w1, w2⟩
    have := (zis_iff h hN hx).mp w1
    exact ⟨this.1, this.2, by rw [w2]; decide⟩
theorem zfl_any (h : zBk σ t l α m z) (hz : ∀ d, 1 ≤ d → d ≤ m → z d ≤ 6) (hm : m ≤ 60) (hN : σ (30, 0, 0) 1 = nI N) {d : Nat} (d1 : 1 ≤ d) (dm : d ≤ m) : (∃ y, y ∈ l ∧ zbd α (nI N - nI 2) y = true ∧ y / 6 = d) ↔ zfl σ (366 * t + 6 * d) (z d) = true := by
  rw [zfl_iff]
  have h6 := hz d d1 dm
  constructor
  · rintro ⟨y, hy, hb, e⟩
    have hv := (h.mem hy).2.2.2
    have hb := (zbd_iff h hN hy).mp hb
    rw [e] at hv
    rw [show 366 * t + y = 366 * t + 6 * d + y % 6 by omega] at hb
    exact ⟨y % 6, hv, hb.1, hb.2⟩
  · rintro ⟨k, hk, h1, h2⟩
    have e : 366 * t + 6 * d + k = 366 * t + (6 * d + k) := by omega
    rw [e] at h1 h2
    have hm2 : σ (41, 0, 0) (366 * t + (6 * d + k)) = nI 2 := by
      unfold zisB at h1
      rw [Bool.and_eq_true, decide_eq_true_eq] at h1
      exact h1.1
    have hy : 6 * d + k ∈ l := (h.2.1 _).mpr ⟨by omega, Or.inr hm2⟩
    exact ⟨6 * d + k, hy, (zbd_iff h hN hy).mpr ⟨h1, h2⟩, by omega⟩
/-- giving up or renewing, by both -/
theorem zBk.again (h : zBk σ t l α m z) (hz : ∀ d, 1 ≤ d → d ≤ m → z d ≤ 6) (hm : m ≤ 60) (hN : σ (30, 0, 0) 1 = nI N) (hR : zAgR σ σ' t m z) : zBk σ' t (l.filter (zal0 (l.foldl (zgu l (nI N - nI 2)) (α, 0)).1)) (l.foldl (zgu l (nI N - nI 2)) (α, 0)).1 m z ∧ (l.foldl (zgu l (nI N - nI 2)) (α, 0)).2 = zfc σ t z m := by
  have hmem := fun i hi => zBk.mem h (i := i) hi
  have hnd : l.Nodup := List.Pairwise.imp (fun {a b} w => Nat.ne_of_lt w) h.1
  have hG : zGU l α (nI N - nI 2) m l (l.foldl (zgu l (nI N - nI 2)) (α, 0)) := zGU_all hnd (fun x hx => ⟨(h.2.2.1 x hx).1, (hmem x hx).2.1, (hmem x hx).2.2.1, (hmem x hx).1⟩) l [] (α, 0) rfl (zGU_0 (fun x hx => (h.2.2.1 x hx).2.2.2.2.2.1))
  have hany : ∀ {d : Nat}, 1 ≤ d → d ≤ m → ((∃ y, y ∈ l ∧ zbd α (nI N - nI 2) y = true ∧ y / 6 = d) ↔ zfl σ (366 * t + 6 * d) (z d) = true) := fun a b => zfl_any h hz hm hN a b
  have his : ∀ {x : Nat}, x ∈ l → (zisB σ (366 * t + x) = true ↔ (¬ α x 3 = 0 ∧ α x 6 ≤ nI N - nI 2)) := fun hx => zis_iff h hN hx
  generalize l.foldl (zgu l (nI N - nI 2)) (α, 0) = w at hG ⊢
  obtain ⟨i0, i4, -, i3, iu⟩ := hG
  obtain ⟨a1, a2, a3, a4, a5, a6⟩ := h
  obtain ⟨r1, r2, r3, r4, r5⟩ := hR
  have h42 : ∀ j, σ' (42, 0, 0) j = σ (42, 0, 0) j := fun j => r1 _ _ (by decide) (by decide)
  have h43 : ∀ j, σ' (43, 0, 0) j = σ (43, 0, 0) j := fun j => r1 _ _ (by decide) (by decide)
  have hin : ∀ i, i < 366 → zval m z i → σ' (41, 0, 0) (366 * t + i) = bif zfl σ (366 * t + 6 * (i / 6)) (z (i / 6)) then nI 3 else bif zisB σ (366 * t + i) then nI 1 else σ (41, 0, 0) (366 * t + i) := fun i hi v => by
    have := r3 (i / 6) (i % 6) v.1 v.2.1 v.2.2
    rw [show 366 * t + 6 * (i / 6) + i % 6 = 366 * t + i by omega] at this
    exact this
  have hout : ∀ i, i < 366 → ¬ zval m z i → σ' (41, 0, 0) (366 * t + i) = σ (41, 0, 0) (366 * t + i) := fun i hi v => r2 _ (fun d k d1 d2 hk e => by
    have h6 := hz d d1 d2
    have e1 : i / 6 = d := by omega
    have e2 : i % 6 = k := by omega
    exact v ⟨by omega, by omega, by rw [e1, e2]; exact hk⟩)
  have hflt : ∀ i, i ∈ l.filter (zal0 w.1) ↔ i ∈ l ∧ zfl σ (366 * t + 6 * (i / 6)) (z (i / 6)) = false := fun i => by
    rw [List.mem_filter]
    unfold zal0
    rw [decide_eq_true_eq]
    constructor
    · rintro ⟨w1, w2⟩
      obtain ⟨-, v1, v2, -⟩ := hmem i w1
      refine ⟨w1, ?_⟩
      rw [Bool.eq_false_iff]
      intro hf
      obtain ⟨y, y1, y2, y3⟩ := (hany v1 v2).mpr hf
      rcases i4 i w1 with q | q
      · exact q.2 y y1 y2 y3
      · rw [w2] at q; exact absurd q.1 (by decide)
    · rintro ⟨w1, w2⟩
      obtain ⟨-, v1, v2, -⟩ := hmem i w1
      refine ⟨w1, ?_⟩
      rcases i4 i w1 with q | ⟨-, y, y1, y2, y3⟩
      · exact q.1
      · rw [(hany v1 v2).mp ⟨y, y1, y2, y3⟩] at w2; cases w2
  have isM : ∀ i, zisB σ (366 * t + i) = true → σ (41, 0, 0) (366 * t + i) = nI 2 := fun i hi => by
    unfold zisB at hi
    rw [Bool.and_eq_true, decide_eq_true_eq] at hi
    exact hi.1
  have n31 : ¬ (nI 3 : Int32) = nI 1 := by decide
  have n32 : ¬ (nI 3 : Int32) = nI 2 := by decide
  have n12 : ¬ (nI 1 : Int32) = nI 2 := by decide
  refine ⟨⟨List.Pairwise.filter _ a1, fun i => ?_, fun i hi => ?_, fun i hi v => ?_, fun i hi v => ?_, fun i hi => ?_⟩, ?_⟩
  · rw [hflt]
    constructor
    · rintro ⟨w1, w2⟩
      obtain ⟨i366, v⟩ := hmem i w1
      refine ⟨i366, ?_⟩
      rw [hin i i366 v, w2]
      show (bif zisB σ (366 * t + i) then nI 1 else σ (41, 0, 0) (366 * t + i)) = nI 1 ∨ _
      cases zisB σ (366 * t + i) with
      | true => exact Or.inl rfl
      | false => exact ((a2 i).mp w1).2
    · rintro ⟨i366, w1⟩
      by_cases v : zval m z i
      · rw [hin i i366 v] at w1
        cases hf : zfl σ (366 * t + 6 * (i / 6)) (z (i / 6)) with
        | true =>
          rw [hf] at w1
          exact absurd w1 (fun w => w.elim n31 n32)
        | false =>
          rw [hf] at w1
          refine ⟨(a2 i).mpr ⟨i366, ?_⟩, rfl⟩
          have w1 : (bif zisB σ (366 * t + i) then nI 1 else σ (41, 0, 0) (366 * t + i)) = nI 1 ∨ (bif zisB σ (366 * t + i) then nI 1 else σ (41, 0, 0) (366 * t + i)) = nI 2 := w1
          cases hb : zisB σ (366 * t + i) with
          | true => exact Or.inr (isM i hb)
          | false => rw [hb] at w1; exact w1
      · rw [hout i i366 v, (a5 i i366 v).1] at w1
        rcases w1 with q | q <;> exact absurd q (by decide)
  · obtain ⟨w1, w2⟩ := (hflt i).mp hi
    obtain ⟨i366, v⟩ := hmem i w1
    obtain ⟨b0, b1, b2, b3, b3', b4, b5⟩ := a3 i w1
    have hz4 : w.1 i 4 = 0 := by
      have := (List.mem_filter.mp hi).2
      unfold zal0 at this
      exact of_decide_eq_true this
    have e3 := i3 i w1 hz4
    rw [i0 i 0 (by decide) (by decide), i0 i 1 (by decide) (by decide), i0 i 2 (by decide) (by decide), i0 i 6 (by decide) (by decide), i0 i 5 (by decide) (by decide), h42, h43, hin i i366 v, w2, e3]
    refine ⟨b0, b1, b2, fun q => ?_, fun q => ?_, hz4, b5⟩
    · have q : (bif zisB σ (366 * t + i) then nI 1 else σ (41, 0, 0) (366 * t + i)) = nI 2 := q
      cases hb : zisB σ (366 * t + i) with
      | true => rw [hb] at q; exact absurd q n12
      | false =>
        rw [hb] at q
        rw [if_neg (fun e => by rw [(his w1).mpr e] at hb; cases hb)]
        exact b3 q
    · have q : (bif zisB σ (366 * t + i) then nI 1 else σ (41, 0, 0) (366 * t + i)) = nI 1 := q
      cases hb : zisB σ (366 * t + i) with
      | true => rw [if_pos ((his w1).mp hb)]
      | false =>
        rw [hb] at q
        rw [if_neg (fun e => by rw [(his w1).mpr e] at hb; cases hb)]
        exact b3' q
  · rw [hin i hi v]
    cases zfl σ (366 * t + 6 * (i / 6)) (z (i / 6)) with
    | true => exact Or.inr (Or.inr rfl)
    | false =>
      show (bif zisB σ (366 * t + i) then nI 1 else σ (41, 0, 0) (366 * t + i)) = nI 1 ∨ (bif zisB σ (366 * t + i) then nI 1 else σ (41, 0, 0) (366 * t + i)) = nI 2 ∨ (bif zisB σ (366 * t + i) then nI 1 else σ (41, 0, 0) (366 * t + i)) = nI 3
      cases zisB σ (366 * t + i) with
      | true => exact Or.inl rfl
      | false => exact a4 i hi v
  · rw [hout i hi v, h43]; exact a5 i hi v
  · rw [h43]
    by_cases v : zval m z i
    · rw [hin i hi v]
      cases hf : zfl σ (366 * t + 6 * (i / 6)) (z (i / 6)) with
      | true => exact ⟨fun q => absurd q n31, fun q => absurd q n32⟩
      | false =>
        show ((bif zisB σ (366 * t + i) then nI 1 else σ (41, 0, 0) (366 * t + i)) = nI 1 → _) ∧ ((bif zisB σ (366 * t + i) then nI 1 else σ (41, 0, 0) (366 * t + i)) = nI 2 → _)
        cases hb : zisB σ (366 * t + i) with
        | false => exact a6 i hi
        | true =>
          refine ⟨fun _ => ?_, fun q => absurd q n12⟩
          obtain ⟨n, n4, hn⟩ := (a6 i hi).2 (isM i hb)
          refine ⟨n, ?_, hn⟩
          have : n ≠ 4 := fun e => by
            have : zfl σ (366 * t + 6 * (i / 6)) (z (i / 6)) = true := (zfl_iff _).mpr ⟨i % 6, v.2.2, by rw [show 366 * t + 6 * (i / 6) + i % 6 = 366 * t + i by omega]; exact ⟨hb, by rw [hn, e]⟩⟩
            rw [this] at hf; cases hf
          omega
    · rw [hout i hi v]; exact a6 i hi
  · rw [iu, zfc_c]
    unfold zcd1
    apply List.countP_congr
    intro d hd
    rw [List.mem_range'_1] at hd
    rw [List.any_eq_true, ← hany (d := d) (by omega) (by omega)]
    constructor
    · rintro ⟨y, y1, y2⟩
      rw [Bool.and_eq_true, decide_eq_true_eq] at y2
      exact ⟨y, y1, y2.2, y2.1⟩
    · rintro ⟨y, y1, y2, y3⟩
      exact ⟨y, y1, by rw [Bool.and_eq_true, decide_eq_true_eq]; exact ⟨y3, y2⟩⟩
end RU5
