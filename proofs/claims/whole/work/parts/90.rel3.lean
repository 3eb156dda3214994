/-! Upkeep of the cells: a burst; the reference's again in closed form -/
theorem zfind {p : Nat → Bool} : ∀ {l : List Nat}, l.Pairwise (· < ·) → ∀ {x : Nat}, x ∈ l → p x = true → (∀ y, y ∈ l → y < x → p y = false) → l.find? p = some x
  | [], _, x, hx, _, _ => absurd hx List.not_mem_nil
  | a :: l, hl, x, hx, hp, hy => by
    rw [List.pairwise_cons] at hl
    rcases List.mem_cons.mp hx with q | q
    · subst q
      rw [List.find?_cons, hp]
    · have := hl.1 x q
      rw [List.find?_cons, hy a List.mem_cons_self this]
      exact zfind hl.2 q hp (fun y h1 h2 => hy y (List.mem_cons_of_mem _ h1) h2)
section RU3
variable {σ σ' : zM} {t m : Nat} {l : List Nat} {α : zAt} {z : Nat → Nat}
theorem zBk.find (h : zBk σ t l α m z) {o : Option Nat} (ho : zFst (σ (41, 0, 0)) (366 * t + 6) (366 * t + 6 + 6 * m) o) (hm : m ≤ 60) : (o = none → l.find? (fun x => decide (α x 3 = 0)) = none) ∧ ∀ j, o = some j → ∃ x, j = 366 * t + x ∧ x ∈ l ∧ l.find? (fun x => decide (α x 3 = 0)) = some x ∧ σ (41, 0, 0) (366 * t + x) = nI 1 := by
  have hmem := fun i hi => zBk.mem h (i := i) hi
  obtain ⟨a1, a2, a3, -, -, -⟩ := h
  have h2 : ∀ y, y ∈ l → ¬ σ (41, 0, 0) (366 * t + y) = nI 1 → decide (α y 3 = 0) = false := fun y hy w => by
    rcases ((a2 y).mp hy).2 with q | q
    · exact absurd q w
    · rw [decide_eq_false_iff_not, ((a3 y hy).2.2.2.1 q).1]; decide
  have hrg : ∀ y, y ∈ l → 366 * t + 6 ≤ 366 * t + y ∧ 366 * t + y < 366 * t + 6 + 6 * m := fun y hy => by
    obtain ⟨-, v1, v2, v3⟩ := hmem y hy
    omega
  constructor
  · rintro rfl
    rw [List.find?_eq_none]
    intro y hy
    rw [Bool.not_eq_true]
    exact h2 y hy (ho _ (hrg y hy).1 (hrg y hy).2)
  · rintro j rfl
    obtain ⟨o1, o2, o3, o4⟩ := ho
    have hx : j = 366 * t + (j - 366 * t) := by omega
    have h366 : j - 366 * t < 366 := by omega
    rw [hx] at o3
    have hl : j - 366 * t ∈ l := (a2 _).mpr ⟨h366, Or.inl o3⟩
    refine ⟨j - 366 * t, hx, hl, zfind a1 hl ?_ (fun y hy hlt => h2 y hy (o4 _ (hrg y hy).1 (by omega))), o3⟩
    rw [decide_eq_true_eq]
    exact (a3 _ hl).2.2.2.2.1 o3
/-- a burst takes a cell -/
theorem zBk.load (h : zBk σ t l α m z) {x : Nat} {k : Int32} (hx : x ∈ l) (h1 : σ (41, 0, 0) (366 * t + x) = nI 1) (e1 : ∀ i, i < 366 → σ' (41, 0, 0) (366 * t + i) = if i = x then nI 2 else σ (41, 0, 0) (366 * t + i)) (e2 : ∀ i, i < 366 → σ' (42, 0, 0) (366 * t + i) = if i = x then k else σ (42, 0, 0) (366 * t + i)) (e3 : ∀ i, i < 366 → σ' (43, 0, 0) (366 * t + i) = if i = x then σ (43, 0, 0) (366 * t + i) + nI 1 else σ (43, 0, 0) (366 * t + i)) : zBk σ' t l (zld α x k) m z := by
  obtain ⟨x366, xv⟩ := h.mem hx
  obtain ⟨a1, a2, a3, a4, a5, a6⟩ := h
  have ne : ∀ i q, i ≠ x → zld α x k i q = α i q := fun i q hi => by
    unfold zld
    rw [zau_at, if_neg (fun w => hi w.1), zau_at, if_neg (fun w => hi w.1), zau_at, if_neg (fun w => hi w.1)]
  have n21 : ¬ (nI 2 : Int32) = nI 1 := by decide
  refine ⟨a1, fun i => ?_, fun i hi => ?_, fun i hi v => ?_, fun i hi v => ?_, fun i hi => ?_⟩
  · rw [a2]
    constructor
    · rintro ⟨q, w⟩
      refine ⟨q, ?_⟩
      rw [e1 i q]
      by_cases e : i = x
      · rw [if_pos e]; exact Or.inr rfl
      · rw [if_neg e]; exact w
    · rintro ⟨q, w⟩
      refine ⟨q, ?_⟩
      rw [e1 i q] at w
      by_cases e : i = x
      · rw [e]; exact Or.inl h1
      · rw [if_neg e] at w; exact w
  · have i366 := ((a2 i).mp hi).1
    obtain ⟨b0, b1, b2, b3, b3', b4, b5⟩ := a3 i hi
    rw [e1 i i366, e2 i i366, e3 i i366]
    by_cases e : i = x
    · subst e
      rw [if_pos rfl, if_pos rfl, if_pos rfl]
      unfold zld
      simp only [zau_at, true_and]
      refine ⟨b0, b1, b2, fun _ => ⟨rfl, rfl⟩, fun w => absurd w n21, b4, ?_⟩
      simp only [Nat.reduceEqDiff, if_false, if_true]
      rw [b5]
    · rw [if_neg e, if_neg e, if_neg e, ne i _ e, ne i _ e, ne i _ e, ne i _ e, ne i _ e, ne i _ e, ne i _ e]
      exact ⟨b0, b1, b2, b3, b3', b4, b5⟩
  · rw [e1 i hi]
    by_cases e : i = x
    · rw [if_pos e]; exact Or.inr (Or.inl rfl)
    · rw [if_neg e]; exact a4 i hi v
  · have e : i ≠ x := fun e => v (by rw [e]; exact xv)
    rw [e1 i hi, if_neg e, e3 i hi, if_neg e]
    exact a5 i hi v
  · rw [e1 i hi, e3 i hi]
    by_cases e : i = x
    · subst e
      rw [if_pos rfl, if_pos rfl]
      obtain ⟨n, n3, hn⟩ := (a6 i hi).1 h1
      exact ⟨fun w => absurd w n21, fun _ => ⟨n + 1, by omega, by rw [hn, nI_add]⟩⟩
    · rw [if_neg e, if_neg e]; exact a6 i hi
/-! again -/
theorem zfl_iff {f : zM} {b : Nat} : ∀ n, zfl f b n = true ↔ ∃ k, k < n ∧ zisB f (b + k) = true ∧ f (43, 0, 0) (b + k) = nI 4
  | 0 => ⟨fun h => (by cases h), fun ⟨k, h, _⟩ => (by omega)⟩
  | n + 1 => by
    unfold zfl
    rw [Bool.or_eq_true, zfl_iff n, Bool.and_eq_true, decide_eq_true_eq]
    constructor
    · rintro (⟨k, h1, h2⟩ | h)
      · exact ⟨k, by omega, h2⟩
      · exact ⟨n, by omega, h⟩
    · rintro ⟨k, h1, h2⟩
      by_cases e : k = n
      · subst e; exact Or.inr h2
      · exact Or.inl ⟨k, by omega, h2⟩
def zfc (σ : zM) (t : Nat) (z : Nat → Nat) : Nat → Nat
  | 0 => 0
  | d + 1 => zfc σ t z d + (bif zfl σ (366 * t + 6 * (d + 1)) (z (d + 1)) then 1 else 0)
/-- the reference's again, closed -/
def zAgR (σ σ' : zM) (t m : Nat) (z : Nat → Nat) : Prop := (∀ x j, x ≠ (41, 0, 0) → x ≠ (37, 0, 0) → σ' x j = σ x j) ∧ (∀ j, (∀ d k, 1 ≤ d → d ≤ m → k < z d → j ≠ 366 * t + 6 * d + k) → σ' (41, 0, 0) j = σ (41, 0, 0) j) ∧ (∀ d k, 1 ≤ d → d ≤ m → k < z d → σ' (41, 0, 0) (366 * t + 6 * d + k) = bif zfl σ (366 * t + 6 * d) (z d) then nI 3 else bif zisB σ (366 * t + 6 * d + k) then nI 1 else σ (41, 0, 0) (366 * t + 6 * d + k)) ∧ (∀ j, j ≠ t → σ' (37, 0, 0) j = σ (37, 0, 0) j) ∧ σ' (37, 0, 0) t = σ (37, 0, 0) t + nI (zfc σ t z m)
theorem zgA_R (σ : zM) (t : Nat) (z : Nat → Nat) : ∀ m, (∀ d, 1 ≤ d → d ≤ m → z d ≤ 6) → zAgR σ (zgA σ t z m) t m z
  | 0, _ => ⟨fun _ _ _ _ => rfl, fun _ _ => rfl, fun d k h1 h2 => by omega, fun _ _ => rfl, by
    show σ (37, 0, 0) t = σ (37, 0, 0) t + nI 0
    rw [nI_0, Int32.add_zero]⟩
  | m + 1, hz => by
    obtain ⟨h1, h2, h3, h4, h5⟩ := zgA_R σ t z m (fun d a b => hz d a (by omega))
    have hz1 := hz (m + 1) (by omega) (by omega)
    have e : zgA σ t z (m + 1) = zg3 (zgA σ t z m) t (m + 1) (z (m + 1)) := rfl
    rw [e]
    generalize zgA σ t z m = F at h1 h2 h3 h4 h5
    have hF : ∀ j, 366 * t + 6 * (m + 1) ≤ j → F (41, 0, 0) j = σ (41, 0, 0) j := fun j hj => h2 j (fun d k a b c => by
      have := hz d a (by omega)
      omega)
    have hisB : ∀ j, 366 * t + 6 * (m + 1) ≤ j → zisB F j = zisB σ j := fun j hj => by
      unfold zisB
      rw [hF j hj, h1 _ _ (by decide) (by decide), h1 _ _ (by decide) (by decide)]
    have hfl : ∀ n, zfl F (366 * t + 6 * (m + 1)) n = zfl σ (366 * t + 6 * (m + 1)) n := fun n => by
      induction n with
      | zero => rfl
      | succ n ih =>
        unfold zfl
        rw [ih, hisB _ (by omega), h1 _ _ (by decide) (by decide)]
    have hg1 : ∀ j, zg1 F (366 * t + 6 * (m + 1)) (z (m + 1)) (41, 0, 0) j = if 366 * t + 6 * (m + 1) ≤ j ∧ j < 366 * t + 6 * (m + 1) + z (m + 1) ∧ zisB F j = true then nI 1 else F (41, 0, 0) j := fun j => by
      unfold zg1
      by_cases q : 366 * t + 6 * (m + 1) ≤ j ∧ j < 366 * t + 6 * (m + 1) + z (m + 1) ∧ zisB F j = true
      · rw [if_pos q, if_pos ⟨rfl, q⟩]
      · rw [if_neg q, if_neg (fun w => q w.2)]
    have hfc : zfc σ t z (m + 1) = zfc σ t z m + (bif zfl σ (366 * t + 6 * (m + 1)) (z (m + 1)) then 1 else 0) := rfl
    refine ⟨fun x j a b => (zg3_ne a b).trans (h1 x j a b), fun j hj => ?_, fun d k d1 d2 hk => ?_, fun j hj => ?_, ?_⟩
    · have hj2 : ¬ (366 * t + 6 * (m + 1) ≤ j ∧ j < 366 * t + 6 * (m + 1) + z (m + 1)) := fun w => hj (m + 1) (j - (366 * t + 6 * (m + 1))) (by omega) (by omega) (by omega) (by omega)
      have e1 : zg1 F (366 * t + 6 * (m + 1)) (z (m + 1)) (41, 0, 0) j = F (41, 0, 0) j := by rw [hg1, if_neg (fun w => hj2 ⟨w.1, w.2.1⟩)]
      have e0 : F (41, 0, 0) j = σ (41, 0, 0) j := h2 j (fun d k a b c => hj d k a (by omega) c)
      unfold zg3
      cases zfl F (366 * t + 6 * (m + 1)) (z (m + 1)) with
      | false => exact e1.trans e0
      | true =>
        show zup _ _ _ _ _ j = _
        rw [zup_nk (by decide)]
        unfold zg2
        rw [if_neg (fun w => hj2 w.2)]
        exact e1.trans e0
    · unfold zg3
      rw [hfl]
      by_cases ed : d = m + 1
      · subst ed
        cases hq : zfl σ (366 * t + 6 * (m + 1)) (z (m + 1)) with
        | false =>
          show zg1 F _ _ _ _ = bif zisB σ (366 * t + 6 * (m + 1) + k) then _ else _
          rw [hg1, hisB _ (by omega), hF _ (by omega)]
          cases hb : zisB σ (366 * t + 6 * (m + 1) + k) with
          | false => rw [if_neg (fun w => by cases w.2.2)]; rfl
          | true => rw [if_pos ⟨by omega, by omega, rfl⟩]; rfl
        | true =>
          show zup _ _ _ _ _ _ = nI 3
          rw [zup_nk (by decide)]
          unfold zg2
          rw [if_pos ⟨rfl, by omega, by omega⟩]
      · have h6 := hz d d1 (by omega)
        have hlt : ¬ (366 * t + 6 * (m + 1) ≤ 366 * t + 6 * d + k) := by omega
        have e1 : zg1 F (366 * t + 6 * (m + 1)) (z (m + 1)) (41, 0, 0) (366 * t + 6 * d + k) = F (41, 0, 0) (366 * t + 6 * d + k) := by rw [hg1, if_neg (fun w => hlt w.1)]
        have e0 := h3 d k d1 (by omega) hk
        cases zfl σ (366 * t + 6 * (m + 1)) (z (m + 1)) with
        | false => exact e1.trans e0
        | true =>
          show zup _ _ _ _ _ _ = _
          rw [zup_nk (by decide)]
          unfold zg2
          rw [if_neg (fun w => hlt w.2.1)]
          exact e1.trans e0
    · unfold zg3
      cases zfl F (366 * t + 6 * (m + 1)) (z (m + 1)) with
      | false => exact (zg1_ne (by decide)).trans (h4 j hj)
      | true =>
        show zup _ _ _ _ _ _ = _
        rw [zup_ne (fun w => hj w.2), zg2_ne (by decide), zg1_ne (by decide)]
        exact h4 j hj
    · unfold zg3
      rw [hfl, hfc]
      cases zfl σ (366 * t + 6 * (m + 1)) (z (m + 1)) with
      | false =>
        show zg1 _ _ _ _ _ = _
        rw [zg1_ne (by decide)]
        exact h5
      | true =>
        show zup _ _ _ _ _ _ = σ (37, 0, 0) t + nI (zfc σ t z m + 1)
        rw [zup_eq, h5, Int32.add_assoc, nI_add]
end RU3
