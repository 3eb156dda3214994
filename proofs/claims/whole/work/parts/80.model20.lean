/-! The reference: all places -/
section MO20
variable {sc : zC} {c s : Nat} {f0 : zM} {g : zW} {K : zR → Prop} {row : Nat}
theorem zGM.st {f : zM} {R : Nat → Int32} {D : Nat → Nat} {k : Nat} (hk : k < 30) (hG : zGM f0 row f R D) : (zgbN R D k 5 none = none → zGM f0 row (zup f (55, 0, 0) (30 * row + k) (zK (-1))) (zgM (R, D) k).1 (zgM (R, D) k).2) ∧ ∀ x, zgbN R D k 5 none = some x → zGM f0 row (zup (zup f (55, 0, 0) (30 * row + k) (nI x)) (63, 0, 0) x (nI (D x - 1))) (zgM (R, D) k).1 (zgM (R, D) k).2 := by
  obtain ⟨g1, g2, g3, g4⟩ := hG
  constructor
  · intro hb
    have e : zgM (R, D) k = ((fun j => if j = k then zK (-1) else R j), D) := by unfold zgM; show (match zgbN R D k 5 none with | none => _ | some x => _) = _; rw [hb]
    rw [e]
    refine ⟨fun x j a b => (zup_nk a).trans (g1 x j a b), fun j hj => ?_, fun j hj => ?_, fun t ht => ?_⟩
    · rw [zup_ne (fun w => by omega)]; exact g2 j hj
    · rw [zup_at]
      show _ = if j = k then zK (-1) else R j
      by_cases q : j = k
      · rw [if_pos q, if_pos ⟨rfl, by omega⟩]
      · rw [if_neg q, if_neg (fun w => q (by omega))]; exact g3 j hj
    · rw [zup_nk (by decide)]; exact g4 t ht
  · intro x hb
    have e : zgM (R, D) k = ((fun j => if j = k then nI x else R j), zfu D x (D x - 1)) := by unfold zgM; show (match zgbN R D k 5 none with | none => _ | some x => _) = _; rw [hb]
    rw [e]
    refine ⟨fun y j a b => (zup_nk b).trans ((zup_nk a).trans (g1 y j a b)), fun j hj => ?_, fun j hj => ?_, fun t ht => ?_⟩
    · rw [zup_nk (by decide), zup_ne (fun w => by omega)]; exact g2 j hj
    · rw [zup_nk (by decide), zup_at]
      show _ = if j = k then nI x else R j
      by_cases q : j = k
      · rw [if_pos q, if_pos ⟨rfl, by omega⟩]
      · rw [if_neg q, if_neg (fun w => q (by omega))]; exact g3 j hj
    · obtain ⟨a, b⟩ := g4 t ht
      show _ = nI (zfu D x (D x - 1) t) ∧ zfu D x (D x - 1) t ≤ 9
      unfold zfu
      by_cases q : t = x
      · subst q; rw [if_pos rfl, zup_eq]; exact ⟨rfl, by omega⟩
      · rw [if_neg q, zup_ne (fun w => q w.2), zup_nk (by decide)]; exact ⟨a, b⟩
theorem q_places_all (hr : row < 2) (r : Nat) : ∀ {f : zM} {R : Nat → Int32} {D : Nat → Nat} {n : Nat} {cl : Bool} {lv : zL}, n + r = 29 → zGM f0 row f R D → (lv = [] ∨ ∃ u v, lv = [u, v]) → (∀ f', zGM f0 row f' ((List.range' (n + 1) r).foldl zgM (R, D)).1 ((List.range' (n + 1) r).foldl zgM (R, D)).2 → K (.inl none, zN c s f' g)) → zT sc 53 12 cl (zmo :: some (.inl (nI row)) :: some (.inl (nI (n + 1))) :: lv) [] (zN c s f g) K := by
  induction r with
  | zero =>
    intro f R D n cl lv hn hG hlv hK
    have e : n = 29 := by omega
    subst e
    have h := hK f hG
    rcases hlv with rfl | ⟨u, v, rfl⟩
    all_goals
      refine zb ?_
      refine zb ?_
      exact h
  | succ r ih =>
    intro f R D n cl lv hn hG hlv hK
    rw [List.range'_succ, List.foldl_cons] at hK
    have hin : ¬ (nI 30 * nI row + nI (n + 1) < 0 ∨ 60 ≤ (nI 30 * nI row + nI (n + 1)).toNatClampNeg) := by
      rw [zrw_e]; exact nI_in (N := 60) (by omega) (by decide)
    have ec : (nI 30 * nI row + nI (n + 1)).toNatClampNeg = 30 * row + (n + 1) := by rw [zrw_e, nI_clamp (by omega)]
    have ec' : (zK 30 * nI row + nI (n + 1)).toNatClampNeg = 30 * row + (n + 1) := ec
    have h98 : ∀ f' u v, zGM f0 row f' (zgM (R, D) (n + 1)).1 (zgM (R, D) (n + 1)).2 → zT sc 53 98 false [zmo, some (.inl (nI row)), some (.inl (nI (n + 1))), u, v] [] (zN c s f' g) K := fun f' u v h => by
      have h := ih (f := f') (n := n + 1) (cl := false) (by omega) h (Or.inr ⟨u, v, rfl⟩) hK
      rw [← nI_add (n + 1) 1] at h
      refine zb ?_
      exact h
    obtain ⟨hN, hS⟩ := hG.st (k := n + 1) (by omega)
    have h72 : ∀ cl, zT sc 53 72 cl [zmo, some (.inl (nI row)), some (.inl (nI (n + 1))), some (.inl (zopt (zgbN R D (n + 1) 5 none))), some (.inl (zK (-1)))] [] (zN c s f g) K := fun cl => by
      cases hb : zgbN R D (n + 1) 5 none with
      | none =>
        refine zb ?_
        refine zin hin ?_
        rw [ec']
        exact h98 _ _ _ (hN hb)
      | some x =>
        obtain ⟨hx, hd⟩ := zgbN_lt 5 (by omega) (fun x w => by cases w) x hb
        have hs := hS x hb
        obtain ⟨d1, d2⟩ := hG.2.2.2 x hx
        have e63 : nI (D x - 1) = zup f (55, 0, 0) (30 * row + (n + 1)) (nI x) (63, 0, 0) x - nI 1 := by rw [zup_nk (by decide), d1, nI_sub (by omega)]
        rw [e63] at hs
        rw [show zopt (some x) = nI x from rfl]
        refine zb ?_
        refine zin hin ?_
        rw [ec']
        refine zin (show ¬ nI x < 0 from nI_pos (by omega)) ?_
        refine zin (nI_in (N := 5) hx (by decide)) ?_
        refine zin (nI_in (N := 5) hx (by decide)) ?_
        rw [nI_clamp (show x < 2 ^ 31 by omega)]
        exact h98 _ _ _ hs
    rcases hlv with rfl | ⟨u, v, rfl⟩
    all_goals
      refine zb ?_
      refine zin (nI_ge (a := n + 1) (b := 30) (by omega) (by decide)) ?_
      exact q_gp_loop (b := none) hr (by omega) (by omega) hG 5 (by omega) (fun x w => by cases w) h72
/-- all places of a row -/
noncomputable def zgMA (R : Nat → Int32) (D : Nat → Nat) : zRD := (List.range' 1 29).foldl zgM ((fun j => if j = 0 then zK (-1) else R j), D)
theorem q_givePlaces {f : zM} {D : Nat → Nat} (hr : row < 2) (hD : ∀ t, t < 5 → f (63, 0, 0) t = nI (D t) ∧ D t ≤ 9) (hK : ∀ f', zGM f row f' (zgMA (fun j => f (55, 0, 0) (30 * row + j)) D).1 (zgMA (fun j => f (55, 0, 0) (30 * row + j)) D).2 → K (.inl none, zN c s f' g)) : zT sc 53 0 true [zmo, some (.inl (nI row))] [] (zN c s f g) K := by
  refine zb ?_
  have e : nI 30 * nI row = nI (30 * row) := nI_mul _ _
  refine zin (show ¬ (nI 30 * nI row < 0 ∨ 60 ≤ (nI 30 * nI row).toNatClampNeg) by rw [e]; exact nI_in (N := 60) (by omega) (by decide)) ?_
  have ec : (nI 30 * nI row).toNatClampNeg = 30 * row := by rw [e, nI_clamp (by omega)]
  have h := q_places_all (sc := sc) (K := K) (c := c) (s := s) (g := g) (f0 := f) (f := zup f (55, 0, 0) (30 * row) (zK (-1))) (R := fun j => if j = 0 then zK (-1) else f (55, 0, 0) (30 * row + j)) (D := D) (cl := false) (lv := []) hr 29 (n := 0) rfl ⟨fun x k a b => zup_nk a, fun j hj => zup_ne (fun w => by omega), fun j hj => by
    rw [zup_at]
    show _ = if j = 0 then zK (-1) else f (55, 0, 0) (30 * row + j)
    by_cases q : j = 0
    · rw [if_pos q, if_pos ⟨rfl, by omega⟩]
    · rw [if_neg q, if_neg (fun w => q (by omega))], fun t ht => by rw [zup_nk (by decide)]; exact hD t ht⟩ (Or.inl rfl) hK
  rw [← ec] at h
  exact h
end MO20
