/-! The reference: all bursts -/
def zaq (f : zM) (t : Nat) : Bool := decide (f (31, 0, 0) t = nI 1) && decide (f (32, 0, 0) t = 0)
def zdm (f : zM) (w : Option Nat × Nat) (t : Nat) : Option Nat × Nat := bif zaq f t then (some t, w.2 + 1) else w
def zdq (f : zM) (w : Option Nat × Nat) : zM := zup (zup f (30, 0, 0) 35 (nI w.2)) (59, 0, 0) 0 (zopt w.1)
theorem zdq_ne {f : zM} {w : Option Nat × Nat} {x : zA} {j : Nat} (h1 : x ≠ (30, 0, 0)) (h2 : x ≠ (59, 0, 0)) : zdq f w x j = f x j := (zup_nk h2).trans (zup_nk h1)
theorem zdq_st {f : zM} {w w' : Option Nat × Nat} : zup (zup (zdq f w) (59, 0, 0) 0 (zopt w'.1)) (30, 0, 0) 35 (nI w'.2) = zdq f w' := by
  funext x j
  unfold zdq
  rw [zup_at, zup_at, zup_at, zup_at, zup_at, zup_at]
  by_cases q : x = (30, 0, 0) ∧ j = 35
  · rw [if_pos q, if_neg (fun w => by rw [q.1] at w; exact absurd w.1 (by decide)), if_pos q]
  · rw [if_neg q]
    by_cases q2 : x = (59, 0, 0) ∧ j = 0
    · rw [if_pos q2, if_pos q2]
    · rw [if_neg q2, if_neg q2, if_neg q2, if_neg q, if_neg q]
section MO11
variable {sc : zC} {c s : Nat} {f : zM} {g : zW} {K : zR → Prop} {row : Nat} {M : Nat → Nat} {z : Nat → Nat → Nat}
theorem q_door_loop {v : Option zV} (n : Nat) : ∀ {i : Nat} {w : Option Nat × Nat} {cl : Bool} {lv : zL}, i + n = 5 → (lv = [] ∨ ∃ v, lv = [v]) → (∀ cl {lv : zL}, (lv = [] ∨ ∃ v, lv = [v]) → zT sc 43 91 cl (zmo :: v :: some (.inl (nI 5)) :: lv) [] (zN c s (zdq f ((List.range' i n).foldl (zdm f) w)) g) K) → zT sc 43 14 cl (zmo :: v :: some (.inl (nI i)) :: lv) [] (zN c s (zdq f w) g) K := by
  induction n with
  | zero =>
    intro i w cl lv hi hlv hK
    have e : i = 5 := by omega
    subst e
    have h := hK cl hlv
    rcases hlv with rfl | ⟨v, rfl⟩
    all_goals
      refine zb ?_
      exact h
  | succ n ih =>
    intro i w cl lv hi hlv hK
    have hnx : ∀ cl u, zT sc 43 14 cl [zmo, v, some (.inl (nI (i + 1))), u] [] (zN c s (zdq f (zdm f w i)) g) K := fun cl u => ih (i := i + 1) (w := zdm f w i) (by omega) (Or.inr ⟨_, rfl⟩) hK
    have h43 : ∀ cl {lv : zL} (x : Int32), x = zbI (zaq f i) → (lv = [] ∨ ∃ v, lv = [v]) → zT sc 43 43 cl (zmo :: v :: some (.inl (nI i)) :: lv) [.inl x] (zN c s (zdq f w) g) K := fun cl lv x hx hl => by
      subst hx
      cases ha : zaq f i with
      | true =>
        have e : zdm f w i = (some i, w.2 + 1) := by unfold zdm; rw [ha]; rfl
        rw [e, ← nI_add] at hnx
        rw [← zdq_st (f := f) (w := w) (w' := (some i, w.2 + 1))] at hnx
        have e2 : zup (zdq f w) (59, 0, 0) 0 (nI i) (30, 0, 0) 35 = nI w.2 := by
          rw [zup_nk (by decide)]; unfold zdq; rw [zup_nk (by decide), zup_eq]
        have hnx := hnx false (some (.inl (nI 1)))
        rw [show nI (w.2 + 1) = nI w.2 + nI 1 from (nI_add _ _).symm, ← e2] at hnx
        rcases hl with rfl | ⟨u, rfl⟩
        all_goals
          refine zb ?_
          refine zb ?_
          refine zb ?_
          exact hnx
      | false =>
        have e : zdm f w i = w := by unfold zdm; rw [ha]; rfl
        rw [e, ← nI_add] at hnx
        rw [← zdq_st (f := f) (w := w) (w' := w)] at hnx
        have e2 : zup (zdq f w) (59, 0, 0) 0 (zopt w.1) (30, 0, 0) 35 = nI w.2 := by
          rw [zup_nk (by decide)]; unfold zdq; rw [zup_nk (by decide), zup_eq]
        have e3 : zdq f w (59, 0, 0) 0 = zopt w.1 := zup_eq
        have hnx := hnx false (some (.inl (nI 0)))
        rw [← e2, ← e3] at hnx
        rcases hl with rfl | ⟨u, rfl⟩
        all_goals
          refine zb ?_
          refine zb ?_
          refine zb ?_
          refine zb ?_
          refine zb ?_
          exact hnx
    rcases hlv with rfl | ⟨u, rfl⟩
    all_goals
      refine zb ?_
      refine zin (nI_ge (a := i) (b := 5) (by omega) (by decide)) ?_
      refine zin (nI_in (N := 5) (by omega) (by decide)) ?_
      rw [nI_clamp (show i < 2 ^ 31 by omega)]
      refine zif (fun q => ?_) (fun q => ?_)
      · have q : zdq f w (31, 0, 0) i = nI 1 := q
        rw [zdq_ne (by decide) (by decide)] at q
        refine zin (nI_in (N := 5) (by omega) (by decide)) ?_
        rw [nI_clamp (show i < 2 ^ 31 by omega)]
        refine zif (fun q2 => ?_) (fun q2 => ?_)
        · have q2 : zdq f w (32, 0, 0) i = 0 := q2
          rw [zdq_ne (by decide) (by decide)] at q2
          refine h43 _ _ ?_ (by first | exact Or.inl rfl | exact Or.inr ⟨_, rfl⟩)
          unfold zaq; rw [decide_eq_true q, decide_eq_true q2]; rfl
        · have q2 : ¬ zdq f w (32, 0, 0) i = 0 := q2
          rw [zdq_ne (by decide) (by decide)] at q2
          refine zb ?_
          refine h43 _ _ ?_ (by first | exact Or.inl rfl | exact Or.inr ⟨_, rfl⟩)
          unfold zaq; rw [decide_eq_true q, decide_eq_false q2]; rfl
      · have q : ¬ zdq f w (31, 0, 0) i = nI 1 := q
        rw [zdq_ne (by decide) (by decide)] at q
        refine zb ?_
        refine h43 _ _ ?_ (by first | exact Or.inl rfl | exact Or.inr ⟨_, rfl⟩)
        unfold zaq; rw [decide_eq_false q]; rfl
/-- a burst in a place -/
def zSe (M : Nat → Nat) (z : Nat → Nat → Nat) (f : zM) (t k : Nat) (f' : zM) : Prop := ∃ o b, zFst (f (41, 0, 0)) (366 * t + 6) (366 * t + 6 + 6 * M t) o ∧ zBs (zs1 f t k o) t (M t) (z t) b ∧ f' = zup (zup (zs1 f t k o) (61, 0, 0) k (nI (zmc (zs1 f t k o (41, 0, 0)) (nI 1) (366 * t) 366))) (62, 0, 0) k (nI b)
def zBu1 (M : Nat → Nat) (z : Nat → Nat → Nat) (f : zM) (row k : Nat) (f' : zM) : Prop := (∃ t, t < 5 ∧ f (55, 0, 0) (30 * row + k) = nI t ∧ f (31, 0, 0) t = nI 3 ∧ zSe M z f t k f') ∨ ((∀ t, t < 5 → f (55, 0, 0) (30 * row + k) = nI t → ¬ f (31, 0, 0) t = nI 3) ∧ f' = zup f (59, 0, 0) k (zK (-1)))
def zBuN (M : Nat → Nat) (z : Nat → Nat → Nat) (f : zM) (row : Nat) : Nat → zM → Prop
  | 0, f' => f' = f
  | n + 1, f' => ∃ f1, zBuN M z f row n f1 ∧ zBu1 M z f1 row (n + 1) f'
theorem zs1_tw {f : zM} {t k : Nat} {v : Int32} {o : Option Nat} : zs1 (zup f (59, 0, 0) k v) t k o = zs1 f t k o := by
  cases o with
  | none => show zup (zup (zup _ _ _ _) _ _ _) _ _ _ = _; rw [zup_tw]; rfl
  | some i =>
    show zup (zup (zup (zup (zup (zup f (59, 0, 0) k v) (59, 0, 0) k (nI t)) (60, 0, 0) k (nI i)) (41, 0, 0) i (nI 2)) (42, 0, 0) i (zup f (59, 0, 0) k v (30, 0, 0) 1)) (43, 0, 0) i (zup f (59, 0, 0) k v (43, 0, 0) i + nI 1) = _
    rw [zup_tw, zup_nk (x := (30, 0, 0)) (by decide), zup_nk (x := (43, 0, 0)) (by decide)]
    rfl
/-- what the bursts need of the plan and the sizes -/
def zRdy (M : Nat → Nat) (z : Nat → Nat → Nat) (f : zM) (row : Nat) : Prop := (∀ k, 1 ≤ k → k < 30 → f (55, 0, 0) (30 * row + k) = zK (-1) ∨ ∃ t, t < 5 ∧ f (55, 0, 0) (30 * row + k) = nI t) ∧ ∀ t, t < 5 → zSz f t (M t) (z t)
theorem zBu1_ne {f f' : zM} {k : Nat} {x : zA} {j : Nat} (h : zBu1 M z f row k f') (h1 : x ≠ (59, 0, 0)) (h2 : x ≠ (60, 0, 0)) (h3 : x ≠ (41, 0, 0)) (h4 : x ≠ (42, 0, 0)) (h5 : x ≠ (43, 0, 0)) (h6 : x ≠ (61, 0, 0)) (h7 : x ≠ (62, 0, 0)) : f' x j = f x j := by
  rcases h with ⟨t, -, -, -, o, b, -, -, rfl⟩ | ⟨-, rfl⟩
  · rw [zup_nk h7, zup_nk h6, zs1_ne h1 h2 h3 h4 h5]
  · rw [zup_nk h1]
theorem zBuN_ne {f : zM} {x : zA} {j : Nat} (h1 : x ≠ (59, 0, 0)) (h2 : x ≠ (60, 0, 0)) (h3 : x ≠ (41, 0, 0)) (h4 : x ≠ (42, 0, 0)) (h5 : x ≠ (43, 0, 0)) (h6 : x ≠ (61, 0, 0)) (h7 : x ≠ (62, 0, 0)) : ∀ n f', zBuN M z f row n f' → f' x j = f x j
  | 0, _, h => by rw [h]
  | n + 1, f', ⟨f1, h8, h9⟩ => (zBu1_ne h9 h1 h2 h3 h4 h5 h6 h7).trans (zBuN_ne h1 h2 h3 h4 h5 h6 h7 n f1 h8)
theorem zRdy.st {f f' : zM} {k : Nat} (h : zRdy M z f row) (h' : zBu1 M z f row k f') : zRdy M z f' row := by
  refine ⟨fun k a b => ?_, fun t ht => (h.2 t ht).cg (fun j => ?_) (fun j => ?_)⟩
  · rw [zBu1_ne h' (by decide) (by decide) (by decide) (by decide) (by decide) (by decide) (by decide)]
    exact h.1 k a b
  · exact zBu1_ne h' (by decide) (by decide) (by decide) (by decide) (by decide) (by decide) (by decide)
  · exact zBu1_ne h' (by decide) (by decide) (by decide) (by decide) (by decide) (by decide) (by decide)
theorem q_bursts_loop {f0 : zM} (hr : row < 2) (n : Nat) : ∀ {f : zM} {i : Nat} {cl : Bool} {lv : zL}, i + n = 29 → zBuN M z f0 row i f → zRdy M z f row → (lv = [] ∨ ∃ v, lv = [v]) → (∀ f', zBuN M z f0 row 29 f' → K (.inl none, zN c s f' g)) → zT sc 43 93 cl (zmo :: some (.inl (nI row)) :: some (.inl (nI (i + 1))) :: lv) [] (zN c s f g) K := by
  induction n with
  | zero =>
    intro f i cl lv hi hB hR hlv hK
    have e : i = 29 := by omega
    subst e
    rcases hlv with rfl | ⟨v, rfl⟩
    all_goals
      refine zb ?_
      refine zb ?_
      exact hK f hB
  | succ n ih =>
    intro f i cl lv hi hB hR hlv hK
    have hin : ¬ (nI 30 * nI row + nI (i + 1) < 0 ∨ 60 ≤ (nI 30 * nI row + nI (i + 1)).toNatClampNeg) := by
      rw [zrw_e]; exact nI_in (N := 60) (by omega) (by decide)
    have ec : (nI 30 * nI row + nI (i + 1)).toNatClampNeg = 30 * row + (i + 1) := by rw [zrw_e, nI_clamp (by omega)]
    have hnx : ∀ f' cl u, zBu1 M z f row (i + 1) f' → zT sc 43 138 cl [zmo, some (.inl (nI row)), some (.inl (nI (i + 1))), u] [] (zN c s f' g) K := fun f' cl u h => by
      have h := ih (f := f') (i := i + 1) (cl := cl) (by omega) ⟨f, hB, h⟩ (hR.st h) (Or.inr ⟨u, rfl⟩) hK
      rw [← nI_add (i + 1) 1] at h
      refine zb ?_
      exact h
    have hP := hR.1 (i + 1) (by omega) (by omega)
    rcases hlv with rfl | ⟨u, rfl⟩
    all_goals
      refine zb ?_
      refine zin (nI_ge (a := i + 1) (b := 30) (by omega) (by decide)) ?_
      refine zin hin ?_
      refine zin (nI_in (N := 30) (by omega) (by decide)) ?_
      rw [nI_clamp (show i + 1 < 2 ^ 31 by omega)]
      rcases hP with hP | ⟨t, ht, hP⟩
      · refine zip (show f (55, 0, 0) (nI 30 * nI row + nI (i + 1)).toNatClampNeg < 0 by rw [ec, hP]; decide) ?_
        refine hnx _ _ _ (Or.inr ⟨fun t ht w => ?_, rfl⟩)
        rw [hP] at w
        exact absurd w.symm (zK1 (by omega))
      · refine zin (show ¬ f (55, 0, 0) (nI 30 * nI row + nI (i + 1)).toNatClampNeg < 0 by rw [ec, hP]; exact nI_pos (by omega)) ?_
        refine zin (show ¬ (f (55, 0, 0) (nI 30 * nI row + nI (i + 1)).toNatClampNeg < 0 ∨ 5 ≤ (f (55, 0, 0) (nI 30 * nI row + nI (i + 1)).toNatClampNeg).toNatClampNeg) by rw [ec, hP]; exact nI_in (N := 5) ht (by decide)) ?_
        have es : zup f (59, 0, 0) (i + 1) (zK (-1)) (31, 0, 0) (f (55, 0, 0) (nI 30 * nI row + nI (i + 1)).toNatClampNeg).toNatClampNeg = f (31, 0, 0) t := by
          rw [ec, hP, nI_clamp (by omega), zup_nk (by decide)]
        refine zif (fun q => ?_) (fun q => ?_)
        · have q : zup f (59, 0, 0) (i + 1) (zK (-1)) (31, 0, 0) (f (55, 0, 0) (nI 30 * nI row + nI (i + 1)).toNatClampNeg).toNatClampNeg = nI 3 := q
          rw [es] at q
          show zT sc 42 0 true [zmo, some (.inl (f (55, 0, 0) (nI 30 * nI row + nI (i + 1)).toNatClampNeg)), some (.inl (nI (i + 1)))] [] (zN c s (zup f (59, 0, 0) (i + 1) (zK (-1))) g) _
          rw [ec, hP]
          refine q_send0 (M := M t) (z := z t) ht (by omega) ((hR.2 t ht).cg (fun j => zup_nk (by decide)) (fun j => zup_nk (by decide))) (fun o b ho hb => ?_)
          rw [zs1_tw] at hb ⊢
          refine hnx _ _ _ (Or.inl ⟨t, ht, hP, q, o, b, ?_, hb, rfl⟩)
          have e : zup f (59, 0, 0) (i + 1) (zK (-1)) (41, 0, 0) = f (41, 0, 0) := funext fun j => zup_nk (by decide)
          rw [e] at ho
          exact ho
        · have q : ¬ zup f (59, 0, 0) (i + 1) (zK (-1)) (31, 0, 0) (f (55, 0, 0) (nI 30 * nI row + nI (i + 1)).toNatClampNeg).toNatClampNeg = nI 3 := q
          rw [es] at q
          refine hnx _ _ _ (Or.inr ⟨fun t' ht' w => ?_, rfl⟩)
          rw [hP] at w
          rw [← (nI_eq (by omega) (by omega)).mp w]
          exact q
theorem q_bursts (hr : row < 2) (hR : zRdy M z f row) (hK : ∀ f', zBuN M z (zdq f ((List.range' 0 5).foldl (zdm f) (none, 0))) row 29 f' → K (.inl none, zN c s f' g)) : zT sc 43 0 true [zmo, some (.inl (nI row))] [] (zN c s f g) K := by
  refine zb ?_
  refine q_door_loop 5 (i := 0) (w := (none, 0)) (f := f) rfl (Or.inl rfl) (fun cl lv hl => ?_)
  have hR' : zRdy M z (zdq f ((List.range' 0 5).foldl (zdm f) (none, 0))) row := ⟨fun k a b => by rw [zdq_ne (by decide) (by decide)]; exact hR.1 k a b, fun t ht => (hR.2 t ht).cg (fun j => zdq_ne (by decide) (by decide)) (fun j => zdq_ne (by decide) (by decide))⟩
  have key := fun cl lv hl => q_bursts_loop (sc := sc) (K := K) (c := c) (s := s) (g := g) (M := M) (z := z) (f0 := zdq f ((List.range' 0 5).foldl (zdm f) (none, 0))) hr 29 (f := zdq f ((List.range' 0 5).foldl (zdm f) (none, 0))) (i := 0) (cl := cl) (lv := lv) rfl rfl hR' hl hK
  rcases hl with rfl | ⟨u, rfl⟩
  · refine zb ?_
    exact key _ _ (Or.inl rfl)
  · refine zb ?_
    exact key _ _ (Or.inr ⟨_, rfl⟩)
end MO11
