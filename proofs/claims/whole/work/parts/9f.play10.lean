/-! A superframe's upkeep: telling -/
section S7
variable {N : Nat}
theorem zsrp_ne {f : zM} {t p j : Nat} {k off : Int32} {x : zA} (h : x ≠ (10, t, p)) : zsrp f t p k off x j = f x j := by
  unfold zsrp zclrR
  split
  · rw [zup_nk h, zup_nk h, zup_nk h, zup_nk h, zup_nk h, zup_nk h]
  · rw [zup_nk h, zup_nk h, zup_nk h, zup_nk h]
theorem zsrp_at {f : zM} {t p : Nat} {k off : Int32} : zsrp f t p k off (10, t, p) 0 = nI 0 ∧ zsrp f t p k off (10, t, p) 3 = nI 0 ∧ zsrp f t p k off (10, t, p) 1 = (if f (7, t, 0) 5 = k then nI 1 else nI 0) ∧ zsrp f t p k off (10, t, p) 2 = (if f (7, t, 0) 5 = k then off - f (10, t, 1 - p) 2 else nI 0) := by
  have n : ∀ {f : zM} {k j : Nat} {v : Int32}, j ≠ k → zup f (10, t, p) k v (10, t, p) j = f (10, t, p) j := fun h => zup_ne (fun w => h w.2)
  unfold zsrp zclrR
  by_cases q : f (7, t, 0) 5 = k
  · rw [if_pos q, if_pos q, if_pos q]
    refine ⟨?_, ?_, ?_, zup_eq⟩
    · rw [n (by decide), n (by decide), n (by decide), n (by decide), n (by decide), zup_eq]
    · rw [n (by decide), n (by decide), zup_eq]
    · rw [n (by decide), zup_eq]
  · rw [if_neg q, if_neg q, if_neg q]
    refine ⟨?_, zup_eq, ?_, ?_⟩
    · rw [n (by decide), n (by decide), n (by decide), zup_eq]
    · rw [n (by decide), n (by decide), zup_eq]
    · rw [n (by decide), zup_eq]
theorem zsrN_ne {f : zM} {j : Nat} {x : zA} (h : x.1 ≠ 10 ∨ x.2.2 ≠ N % 2) : ∀ n, zsrN f N n x j = f x j
  | 0 => rfl
  | n + 1 => by
    have e : zsrN f N (n + 1) = zsrp (zsrN f N n) n (N % 2) (nI N) (zsrN f N n (3, n, 0) 2) := rfl
    rw [e, zsrp_ne (fun w => by rw [w] at h; simp at h)]
    exact zsrN_ne h n
theorem zsrN_at {f : zM} : ∀ n t, t < n → zsrN f N n (10, t, N % 2) 0 = nI 0 ∧ zsrN f N n (10, t, N % 2) 3 = nI 0 ∧ zsrN f N n (10, t, N % 2) 1 = (if f (7, t, 0) 5 = nI N then nI 1 else nI 0) ∧ zsrN f N n (10, t, N % 2) 2 = (if f (7, t, 0) 5 = nI N then f (3, t, 0) 2 - f (10, t, 1 - N % 2) 2 else nI 0)
  | 0, t, h => by omega
  | n + 1, t, h => by
    have e : zsrN f N (n + 1) = zsrp (zsrN f N n) n (N % 2) (nI N) (zsrN f N n (3, n, 0) 2) := rfl
    rw [e]
    by_cases q : t = n
    · subst q
      obtain ⟨a, b, c, d⟩ := zsrp_at (f := zsrN f N t) (t := t) (p := N % 2) (k := nI N) (off := zsrN f N t (3, t, 0) 2)
      rw [zsrN_ne (x := (7, t, 0)) (Or.inl (by simp)), zsrN_ne (x := (3, t, 0)) (Or.inl (by simp)), zsrN_ne (x := (10, t, 1 - N % 2)) (Or.inr (by show 1 - N % 2 ≠ N % 2; omega))] at d
      rw [zsrN_ne (x := (7, t, 0)) (Or.inl (by simp))] at c
      refine ⟨a, b, c, ?_⟩
      rw [zsrN_ne (x := (3, t, 0)) (Or.inl (by simp))]
      exact d
    · have hne : ((10, t, N % 2) : zA) ≠ (10, n, N % 2) := fun w => q (by have := congrArg (fun y => y.2.1) w; simpa using this)
      rw [zsrp_ne hne, zsrp_ne hne, zsrp_ne hne, zsrp_ne hne]
      exact zsrN_at n t (by omega)
/-- the cells that a report has, after k slots -/
def zRL (f3 : zM) (ho : Nat → Option Nat) (t k : Nat) (rl : List (Int32 × Int32)) : Prop := (∀ x, x ∈ rl ↔ ∃ j, 1 ≤ j ∧ j ≤ k ∧ ho j = some t ∧ ¬ f3 (19, j, 0) 3 = zK (-1) ∧ x = (f3 (19, j, 0) 3, f3 (19, j, 0) 4)) ∧ rl.length ≤ k / 3 + 1 ∧ ((∀ j, 1 ≤ j → j ≤ k → j / 3 = k / 3 → ho j ≠ some t) → rl.length ≤ k / 3)
theorem zRL.no {f3 : zM} {ho : Nat → Option Nat} {t k : Nat} {rl : List (Int32 × Int32)} (h : zRL f3 ho t k rl) (hno : ho (k + 1) ≠ some t) : zRL f3 ho t (k + 1) rl := by
  obtain ⟨h1, h2, h3⟩ := h
  refine ⟨fun x => ?_, by omega, fun w => ?_⟩
  · rw [h1]
    constructor
    · rintro ⟨j, a, b, c⟩; exact ⟨j, a, by omega, c⟩
    · rintro ⟨j, a, b, c, d⟩
      have : j ≠ k + 1 := fun e => hno (by rw [← e]; exact c)
      exact ⟨j, a, by omega, c, d⟩
  · by_cases q : (k + 1) / 3 = k / 3
    · rw [q]
      exact h3 (fun j a b c => w j a (by omega) (by omega))
    · omega
theorem zRL.skip {f3 : zM} {ho : Nat → Option Nat} {t k : Nat} {rl : List (Int32 × Int32)} (h : zRL f3 ho t k rl) (hy : ho (k + 1) = some t) (hno : f3 (19, k + 1, 0) 3 = zK (-1)) : zRL f3 ho t (k + 1) rl := by
  obtain ⟨h1, h2, h3⟩ := h
  refine ⟨fun x => ?_, by omega, fun w => absurd hy (w (k + 1) (by omega) (by omega) rfl)⟩
  rw [h1]
  constructor
  · rintro ⟨j, a, b, c⟩; exact ⟨j, a, by omega, c⟩
  · rintro ⟨j, a, b, c, d, e⟩
    have : j ≠ k + 1 := fun e => d (by rw [e]; exact hno)
    exact ⟨j, a, by omega, c, d, e⟩
theorem zRL.len {f3 : zM} {ho : Nat → Option Nat} {t k : Nat} {rl : List (Int32 × Int32)} (h : zRL f3 ho t k rl) (hk : k < 29) (hy : ho (k + 1) = some t) (hu : ∀ i j, 1 ≤ i → 1 ≤ j → i < 30 → j < 30 → i / 3 = j / 3 → ho i = some t → ho j = some t → i = j) : rl.length ≤ (k + 1) / 3 := by
  obtain ⟨h1, h2, h3⟩ := h
  by_cases q : (k + 1) / 3 = k / 3
  · rw [q]
    exact h3 (fun j a b c w => by
      have := hu j (k + 1) a (by omega) (by omega) (by omega) (by omega) w hy
      omega)
  · omega
theorem zRL.add {f3 : zM} {ho : Nat → Option Nat} {t k : Nat} {rl : List (Int32 × Int32)} (h : zRL f3 ho t k rl) (hl : rl.length ≤ (k + 1) / 3) (hy : ho (k + 1) = some t) (hc : ¬ f3 (19, k + 1, 0) 3 = zK (-1)) : zRL f3 ho t (k + 1) (rl ++ [(f3 (19, k + 1, 0) 3, f3 (19, k + 1, 0) 4)]) := by
  obtain ⟨h1, h2, h3⟩ := h
  refine ⟨fun x => ?_, ?_, fun w => absurd hy (w (k + 1) (by omega) (by omega) rfl)⟩
  · rw [List.mem_append, h1, List.mem_singleton]
    constructor
    · rintro (⟨j, a, b, c⟩ | rfl)
      · exact ⟨j, a, by omega, c⟩
      · exact ⟨k + 1, by omega, by omega, hy, hc, rfl⟩
    · rintro ⟨j, a, b, c, d, e⟩
      by_cases q : j = k + 1
      · subst q; exact Or.inr e
      · exact Or.inl ⟨j, a, by omega, c, d, e⟩
  · rw [List.length_append, List.length_singleton]
    omega
/-- what telling leaves -/
def zTl (f6 f7 : zM) (N : Nat) (ho : Nat → Option Nat) (W Q D0 G0 : Nat → Nat) : Prop :=
  (∀ x j, ¬ (x.1 = 10 ∨ x.1 = 11 ∨ x.1 = 12 ∨ x.1 = 13 ∨ x.1 = 14 ∨ x.1 = 15) → x ≠ (17, N % 2, 0) → f7 x j = f6 x j) ∧ (∀ x j, (x.1 = 10 ∨ x.1 = 11 ∨ x.1 = 12) → x.2.2 ≠ N % 2 → f7 x j = f6 x j) ∧
  (∀ t, t < 5 → f7 (10, t, N % 2) 0 = (if ho 0 = some t then nI 1 else nI 0) ∧ f7 (10, t, N % 2) 1 = (if f6 (7, t, 0) 5 = nI N then nI 1 else nI 0) ∧ f7 (10, t, N % 2) 2 = (if f6 (7, t, 0) 5 = nI N then f6 (3, t, 0) 2 - f6 (10, t, 1 - N % 2) 2 else nI 0) ∧ ∃ rl, zRR f7 t (N % 2) rl ∧ zRL f6 ho t 29 rl) ∧
  (∃ F, (∀ t j, F (7, t, 0) j = f6 (7, t, 0) j) ∧ f7 (17, N % 2, 0) = (zplan F W Q D0 G0 (N % 2)).1) ∧ ∃ D G S, zPR f7 D G S
def zP7 (f6 : zM) (N : Nat) (ho : Nat → Option Nat) (k : Nat) (f : zM) : Prop :=
  (∀ x j, ¬ (x.1 = 10 ∨ x.1 = 11 ∨ x.1 = 12) → f x j = f6 x j) ∧ (∀ x j, (x.1 = 10 ∨ x.1 = 11 ∨ x.1 = 12) → x.2.2 ≠ N % 2 → f x j = f6 x j) ∧
  (∀ t, t < 5 → f (10, t, N % 2) 0 = (if ho 0 = some t then nI 1 else nI 0) ∧ f (10, t, N % 2) 1 = (if f6 (7, t, 0) 5 = nI N then nI 1 else nI 0) ∧ f (10, t, N % 2) 2 = (if f6 (7, t, 0) 5 = nI N then f6 (3, t, 0) 2 - f6 (10, t, 1 - N % 2) 2 else nI 0) ∧ ∃ rl, zRR f t (N % 2) rl ∧ zRL f6 ho t k rl)
theorem zRR.cg2 {f f' : zM} {t p : Nat} {rl : List (Int32 × Int32)} (h : zRR f t p rl) (h0 : f' (10, t, p) 3 = f (10, t, p) 3) (h1 : ∀ k, f' (11, t, p) k = f (11, t, p) k) (h2 : ∀ k, f' (12, t, p) k = f (12, t, p) k) : zRR f' t p rl := ⟨h0.trans h.1, h.2.1, fun i hi => ⟨(h1 _).trans (h.2.2 i hi).1, (h2 _).trans (h.2.2 i hi).2⟩⟩
theorem p_stage7 {sc : zC} {c s : Nat} {g : zW} {K : zR → Prop} {f6 : zM} {ho : Nat → Option Nat} {W Q D0 G0 : Nat → Nat} {S0 : Nat} (hh : ∀ j, j < 30 → f6 (21, 0, 0) j = zopt (ho j)) (h5 : ∀ j t, j < 30 → ho j = some t → t < 5) (hu : ∀ t i j, 1 ≤ i → 1 ≤ j → i < 30 → j < 30 → i / 3 = j / 3 → ho i = some t → ho j = some t → i = j) (hP : zPR f6 D0 G0 S0) (hQ : zPQ f6 Q) (hW : zPW f6 W) (hK : ∀ f7, zTl f6 f7 N ho W Q D0 G0 → K (.inl none, zN c s f7 g)) : zT sc 32 0 true [zsu, some (.inl (nI N))] [] (zN c s f6 g) K := by
  have ns : ∀ {x : zA} {j : Nat}, (x.1 ≠ 10 ∨ x.2.2 ≠ N % 2) → zsrN f6 N 5 x j = f6 x j := fun h => zsrN_ne h 5
  have base : ∀ F, (∀ x j, x.1 ≠ 10 → F x j = zsrN f6 N 5 x j) → (∀ t j, (j ≠ 0) → F (10, t, N % 2) j = zsrN f6 N 5 (10, t, N % 2) j) → (∀ x j, x.2.2 ≠ N % 2 → F x j = zsrN f6 N 5 x j) → (∀ t, t < 5 → F (10, t, N % 2) 0 = if ho 0 = some t then nI 1 else nI 0) → zP7 f6 N ho 0 F := fun F g1 g2 g3 g4 => by
    refine ⟨fun x j hx => ?_, fun x j hx hx2 => ?_, fun t ht => ?_⟩
    · rw [g1 x j (fun w => hx (Or.inl w))]; exact ns (Or.inl (fun w => hx (Or.inl w)))
    · rw [g3 x j hx2]; exact ns (Or.inr hx2)
    · obtain ⟨-, a3, a1, a2⟩ := zsrN_at (f := f6) (N := N) 5 t ht
      refine ⟨g4 t ht, (g2 t 1 (by decide)).trans a1, (g2 t 2 (by decide)).trans a2, [], ⟨(g2 t 3 (by decide)).trans a3, by decide, fun i hi => absurd hi (by simp)⟩, fun x => ⟨fun w => absurd w List.not_mem_nil, fun ⟨j, j1, j2, _⟩ => by omega⟩, by simp, fun _ => by simp⟩
  refine p_tell (P := zP7 f6 N ho) (ho := ho) (by rw [ns (Or.inl (by decide))]; exact hh 0 (by omega)) (fun t ht => h5 0 t (by omega) ht) (fun hn => ?_) (fun t ht => ?_) (fun k f hk hP7 => ?_) (fun f hP7 => ?_)
  · refine base _ (fun _ _ _ => rfl) (fun _ _ _ => rfl) (fun _ _ _ => rfl) (fun t ht => ?_)
    rw [hn, if_neg (fun w => by cases w)]
    exact (zsrN_at (f := f6) (N := N) 5 t ht).1
  · refine base _ (fun x j hx => zup_nk (fun w => hx (by rw [w]))) (fun t' j hj => zup_ne (fun w => hj w.2)) (fun x j hx => zup_nk (fun w => hx (by rw [w]))) (fun t' ht' => ?_)
    rw [ht]
    by_cases q : t' = t
    · subst q
      rw [if_pos rfl, zup_eq]
    · rw [if_neg (fun w => q (Option.some.inj w).symm), zup_nk (fun w => q (by have := congrArg (fun y => y.2.1) w; simpa using this))]
      exact (zsrN_at (f := f6) (N := N) 5 t' ht').1
  · obtain ⟨p1, p2, p3⟩ := hP7
    have e19 : ∀ j i, f (19, j, 0) i = f6 (19, j, 0) i := fun j i => p1 _ _ (by simp)
    refine ⟨by rw [p1 _ _ (by simp)]; exact hh (k + 1) (by omega), fun t ht => h5 (k + 1) t (by omega) ht, fun hn => ⟨p1, p2, fun t ht => ?_⟩, fun t ht => ?_⟩
    · obtain ⟨a, b, c, rl, d, e⟩ := p3 t ht
      exact ⟨a, b, c, rl, d, e.no (by rw [hn]; exact fun w => by cases w)⟩
    · have ht5 := h5 (k + 1) t (by omega) ht
      obtain ⟨a, b, c, rl, d, e⟩ := p3 t ht5
      have hl := e.len hk ht (hu t)
      refine ⟨rl, d, by omega, fun hno => ⟨p1, p2, fun t' ht' => ?_⟩, fun hyes hrr => ?_⟩
      · obtain ⟨a', b', c', rl', d', e'⟩ := p3 t' ht'
        rw [e19] at hno
        by_cases q : t' = t
        · subst q
          exact ⟨a', b', c', rl', d', e'.skip ht hno⟩
        · exact ⟨a', b', c', rl', d', e'.no (by rw [ht]; exact fun w => q (Option.some.inj w).symm)⟩
      · have na : ∀ {x : zA} {j : Nat}, x ≠ (11, t, N % 2) → x ≠ (12, t, N % 2) → ¬ (x = (10, t, N % 2) ∧ j = 3) → zadc f t (N % 2) (k + 1) rl.length x j = f x j := fun h1 h2 h3 => by
          unfold zadc
          rw [zup_ne h3, zup_nk h2, zup_nk h1]
        rw [e19, e19] at hrr
        rw [e19] at hyes
        refine ⟨fun x j hx => ?_, fun x j hx hx2 => ?_, fun t' ht' => ?_⟩
        · rw [na (fun w => hx (by rw [w]; simp)) (fun w => hx (by rw [w]; simp)) (fun w => hx (by rw [w.1]; simp))]; exact p1 x j hx
        · rw [na (fun w => hx2 (by rw [w])) (fun w => hx2 (by rw [w])) (fun w => hx2 (by rw [w.1]))]; exact p2 x j hx hx2
        · obtain ⟨a', b', c', rl', d', e'⟩ := p3 t' ht'
          rw [na (fun w => by cases w) (fun w => by cases w) (fun w => absurd w.2 (by decide)), na (fun w => by cases w) (fun w => by cases w) (fun w => absurd w.2 (by decide)), na (fun w => by cases w) (fun w => by cases w) (fun w => absurd w.2 (by decide))]
          by_cases q : t' = t
          · subst q
            exact ⟨a', b', c', _, hrr, e.add hl ht hyes⟩
          · have hq : ∀ κ κ', ((κ, t', N % 2) : zA) ≠ (κ', t, N % 2) := fun κ κ' w => q (by have := congrArg (fun y => y.2.1) w; simpa using this)
            refine ⟨a', b', c', rl', d'.cg2 ?_ (fun i => ?_) (fun i => ?_), e'.no (by rw [ht]; exact fun w => q (Option.some.inj w).symm)⟩
            · exact na (hq 10 11) (hq 10 12) (fun w => hq 10 10 w.1)
            · exact na (hq 11 11) (hq 11 12) (fun w => hq 11 10 w.1)
            · exact na (hq 12 11) (hq 12 12) (fun w => hq 12 10 w.1)
  · obtain ⟨p1, p2, p3⟩ := hP7
    have hPf : zPf f6 f6 := fun _ _ _ => rfl
    refine ⟨D0, G0, Q, W, S0, ⟨fun t ht => ?_, ?_, hP.2.2⟩, fun t ht => ?_, fun t ht => ?_, fun f7 D G S b1 b2 b3 => ?_⟩
    · rw [p1 _ _ (by simp), p1 _ _ (by simp)]; exact hP.1 t ht
    · rw [p1 _ _ (by simp)]; exact hP.2.1
    · rw [p1 _ _ (by simp)]; exact hQ t ht
    · rw [p1 _ _ (by simp)]; exact hW t ht
    · refine hK f7 ⟨fun x j hx hx2 => ?_, fun x j hx hx2 => ?_, fun t ht => ?_, ⟨f, fun t j => p1 _ _ (by simp), b2⟩, D, G, S, b3⟩
      · rw [b1 x j hx2 (fun w => hx (by omega))]; exact p1 x j (fun w => hx (by omega))
      · rw [b1 x j (fun w => by rw [w] at hx; simp at hx) (fun w => by omega)]; exact p2 x j hx hx2
      · obtain ⟨a', b', c', rl', d', e'⟩ := p3 t ht
        have nb : ∀ κ j, κ = 10 ∨ κ = 11 ∨ κ = 12 → f7 (κ, t, N % 2) j = f (κ, t, N % 2) j := fun κ j hκ => b1 _ _ (fun w => by have := congrArg Prod.fst w; simp at this; omega) (by show ¬ (κ = 13 ∨ κ = 14 ∨ κ = 15); omega)
        rw [nb 10 _ (by omega), nb 10 _ (by omega), nb 10 _ (by omega)]
        exact ⟨a', b', c', rl', d'.cg2 (nb 10 _ (by omega)) (fun i => nb 11 _ (by omega)) (fun i => nb 12 _ (by omega)), e'⟩
end S7
