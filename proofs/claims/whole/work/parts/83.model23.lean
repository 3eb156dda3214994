/-! The reference: a superframe, run -/
section MO23
variable {sc : zC} {c s : Nat} {f : zM} {g : zW} {K : zR → Prop} {M : Nat → Nat} {z : Nat → Nat → Nat} {W Q : Nat → Nat} {row : Nat}
theorem q_pl_listen (hr : row < 2) (hc : ∀ j, j < 60 → ¬ f (57, 0, 0) j < 0 → ∃ i, i < 1830 ∧ f (57, 0, 0) j = nI i) (r : Nat) : ∀ {i : Nat} {cl : Bool}, i + r = 5 → (∀ cl, zT sc 54 54 cl [zmo, some (.inl (nI row)), some (.inl (nI 5))] [] (zN c s (zLiN f row 5) g) K) → zT sc 54 37 cl [zmo, some (.inl (nI row)), some (.inl (nI i))] [] (zN c s (zLiN f row i) g) K := by
  induction r with
  | zero =>
    intro i cl hi hK
    have e : i = 5 := by omega
    subst e
    refine zb ?_
    exact hK _
  | succ r ih =>
    intro i cl hi hK
    have h := fun cl => ih (i := i + 1) (cl := cl) (by omega) hK
    have e : zLiN f row (i + 1) = zLi (zLiN f row i) i row := rfl
    rw [e, ← nI_add] at h
    unfold zLi at h
    refine zb ?_
    refine zin (nI_ge (a := i) (b := 5) (by omega) (by decide)) ?_
    refine q_listen (by omega) hr (fun j hj => by rw [zLiN_ne (by decide) (by decide) (by decide) (by decide)]; exact hc j hj) (fun q => ?_) (fun q => ?_)
    · rw [if_neg q] at h
      exact h _
    · rw [if_pos q] at h
      exact h _
theorem q_pl_again (hS : ∀ t, t < 5 → zSz f t (M t) (z t)) (r : Nat) : ∀ {i : Nat} {cl : Bool}, i + r = 5 → (∀ cl, zT sc 54 130 cl [zmo, some (.inl (nI row)), some (.inl (nI 5))] [] (zN c s (zAgN f M z 5) g) K) → zT sc 54 56 cl [zmo, some (.inl (nI row)), some (.inl (nI i))] [] (zN c s (zAgN f M z i) g) K := by
  induction r with
  | zero =>
    intro i cl hi hK
    have e : i = 5 := by omega
    subst e
    refine zb ?_
    exact hK _
  | succ r ih =>
    intro i cl hi hK
    have h := fun cl => ih (i := i + 1) (cl := cl) (by omega) hK
    have e : zAgN f M z (i + 1) = zAg (zAgN f M z i) i (M i) (z i) := rfl
    have hSi := hS i (by omega)
    have hS' : zSz (zAgN f M z i) i (M i) (z i) := hSi.cg (fun j => zAgN_ne (by decide) (by decide) (by decide) (by decide) (by decide) i) (fun j => zAgN_ne (by decide) (by decide) (by decide) (by decide) (by decide) i)
    rw [e, ← nI_add] at h
    unfold zAg at h
    generalize zAgN f M z i = F at h hS' ⊢
    have h100 : ∀ F' cl, F' = zck F i → zT sc 54 100 cl [zmo, some (.inl (nI row)), some (.inl (nI i))] [] (zN c s F' g) K := fun F' cl hF => by
      subst hF
      have hSc : zSz (zck F i) i (M i) (z i) := hS'.cg (fun j => zck_ne (by decide) (by decide)) (fun j => zck_ne (by decide) (by decide))
      refine zb ?_
      refine q_again (by omega) hSc ?_
      refine zin (nI_in (N := 5) (by omega) (by decide)) ?_
      refine zin (nI_in (N := 5) (by omega) (by decide)) ?_
      refine zin (nI_in (N := 5) (by omega) (by decide)) ?_
      rw [nI_clamp (show i < 2 ^ 31 by omega)]
      have e1 : zgA (zck F i) i (z i) (M i) (33, 0, 0) i = F (33, 0, 0) i := (zgA_ne (by decide) (by decide) _).trans (zck_ne (by decide) (by decide))
      have e2 : zgA (zck F i) i (z i) (M i) (34, 0, 0) i = F (34, 0, 0) i := (zgA_ne (by decide) (by decide) _).trans (zck_ne (by decide) (by decide))
      rw [← e1, ← e2] at h
      exact h _
    refine zb ?_
    refine zin (nI_ge (a := i) (b := 5) (by omega) (by decide)) ?_
    refine zin (nI_in (N := 5) (by omega) (by decide)) ?_
    rw [nI_clamp (show i < 2 ^ 31 by omega)]
    refine zif (fun q => ?_) (fun q => ?_)
    · have q : F (31, 0, 0) i = nI 3 := q
      refine zin (nI_in (N := 5) (by omega) (by decide)) ?_
      rw [nI_clamp (show i < 2 ^ 31 by omega)]
      refine zif (fun q2 => ?_) (fun q2 => ?_)
      · have q2 : F (30, 0, 0) 1 - F (35, 0, 0) i < nI 5 := q2
        refine h100 F _ ?_
        unfold zck
        rw [if_neg (fun w => ile.mp w.2 q2)]
      · have q2 : ¬ F (30, 0, 0) 1 - F (35, 0, 0) i < nI 5 := q2
        refine zin (nI_in (N := 5) (by omega) (by decide)) ?_
        refine zin (nI_in (N := 5) (by omega) (by decide)) ?_
        rw [nI_clamp (show i < 2 ^ 31 by omega)]
        refine h100 _ _ ?_
        unfold zck
        rw [if_pos ⟨q, ile.mpr q2⟩]
        rfl
    · have q : ¬ F (31, 0, 0) i = nI 3 := q
      refine h100 F _ ?_
      unfold zck
      rw [if_neg (fun w => q w.1)]
theorem q_pl_sent {F : zM} {A : Int32} {n : Option zV} (r : Nat) : ∀ {i : Nat} {cl : Bool}, i + r = 29 → (∀ cl, zT sc 54 180 cl [zmo, some (.inl (nI row)), n, some (.inl (A + nI (zse F 29))), some (.inl (nI 30))] [] (zN c s F g) K) → zT sc 54 149 cl [zmo, some (.inl (nI row)), n, some (.inl (A + nI (zse F i))), some (.inl (nI (i + 1)))] [] (zN c s F g) K := by
  induction r with
  | zero =>
    intro i cl hi hK
    have e : i = 29 := by omega
    subst e
    refine zb ?_
    exact hK _
  | succ r ih =>
    intro i cl hi hK
    have h := fun cl => ih (i := i + 1) (cl := cl) (by omega) hK
    have e : zse F (i + 1) = zse F i + (if F (59, 0, 0) (i + 1) < 0 then 0 else 1) := rfl
    rw [e, ← nI_add (i + 1) 1] at h
    refine zb ?_
    refine zin (nI_ge (a := i + 1) (b := 30) (by omega) (by decide)) ?_
    refine zin (nI_in (N := 30) (by omega) (by decide)) ?_
    rw [nI_clamp (show i + 1 < 2 ^ 31 by omega)]
    refine zif (fun q => ?_) (fun q => ?_)
    · have q : F (59, 0, 0) (i + 1) < 0 := q
      rw [if_pos q, Nat.add_zero] at h
      refine zb ?_
      refine zb ?_
      exact h _
    · have q : ¬ F (59, 0, 0) (i + 1) < 0 := q
      rw [if_neg q, ← nI_add (zse F i) 1, ← Int32.add_assoc] at h
      refine zb ?_
      exact h _
theorem q_pl_lost {F : zM} {x : Int32} {n u v : Option zV} (hn : n = some (.inl x)) (r : Nat) : ∀ {i : Nat} {cl : Bool}, i + r = 30 → K (.inl (some (.inl x)), zN c s (zup (zlc F 30) (30, 0, 0) 1 (zlc F 30 (30, 0, 0) 1 + nI 1)) g) → zT sc 54 225 cl [zmo, u, n, v, some (.inl (nI i))] [] (zN c s (zlc F i) g) K := by
  subst hn
  induction r with
  | zero =>
    intro i cl hi hK
    have e : i = 30 := by omega
    subst e
    refine zb ?_
    refine zb ?_
    exact hK
  | succ r ih =>
    intro i cl hi hK
    have h := ih (i := i + 1) (cl := false) (by omega) hK
    rw [← zlc_up, ← nI_add] at h
    refine zb ?_
    refine zin (nI_ge (a := i) (b := 30) (by omega) (by decide)) ?_
    refine zin (nI_in (N := 30) (by omega) (by decide)) ?_
    rw [nI_clamp (show i < 2 ^ 31 by omega)]
    exact h
theorem zse_cg {f f' : zM} (h : ∀ j, f' (59, 0, 0) j = f (59, 0, 0) j) : ∀ n, zse f' n = zse f n
  | 0 => rfl
  | n + 1 => by unfold zse; rw [zse_cg h n, h]
theorem q_play {N : Nat} (hN : N ≤ 500) (hn : f (30, 0, 0) 1 = nI N) (hA : zPN f M z W Q) (k0 : N = 500 → K (.inl (some (.inl (nI 0))), zN c s (zup f (30, 0, 0) 0 (nI 1)) g)) (k1 : N < 500 → ∀ f' n, zPlay f N M z W Q f' n → K (.inl (some (.inl (nI n))), zN c s f' g)) : zT sc 54 0 true [zmo] [] (zN c s f g) K := by
  obtain ⟨a57, aR, aT, a47, aQ⟩ := hA
  have hrow : N % 2 < 2 := Nat.mod_lt _ (by decide)
  by_cases h5 : N = 500
  · refine zb ?_
    refine zip (show f (30, 0, 0) 1 = nI 500 by rw [hn, h5]) ?_
    refine zb ?_
    exact k0 h5
  · have k1 := k1 (by omega)
    refine zb ?_
    refine zin (show ¬ f (30, 0, 0) 1 = nI 500 by rw [hn]; exact fun w => h5 ((nI_eq (by omega) (by decide)).mp w)) ?_
    refine zb ?_
    refine zb ?_
    refine zb ?_
    show zT sc 54 37 false [zmo, some (.inl (f (30, 0, 0) 1 - f (30, 0, 0) 1 / nI 2 * nI 2)), some (.inl (nI 0))] [] (zN c s (zup f (30, 0, 0) 0 (nI 0)) g) K
    rw [hn, nI_rem (by omega) (by decide)]
    obtain ⟨row, hrw⟩ : ∃ row, row = N % 2 := ⟨_, rfl⟩
    rw [← hrw] at hrow ⊢
    unfold zPlay at k1
    rw [← hrw] at k1
    refine q_pl_listen (f := zup f (30, 0, 0) 0 (nI 0)) hrow (fun j hj => by rw [zup_nk (by decide)]; exact a57 j hj) 5 (i := 0) rfl (fun cl => ?_)
    have ne1 : ∀ {x : zA} {j : Nat}, x ≠ (30, 0, 0) → x ≠ (31, 0, 0) → x ≠ (35, 0, 0) → x ≠ (33, 0, 0) → x ≠ (41, 0, 0) → zLiN (zup f (30, 0, 0) 0 (nI 0)) row 5 x j = f x j := fun h0 h1 h2 h3 h4 => (zLiN_ne h1 h2 h3 h4 5).trans (zup_nk h0)
    have n1 : ∀ {j : Nat}, j ≠ 0 → zLiN (zup f (30, 0, 0) 0 (nI 0)) row 5 (30, 0, 0) j = f (30, 0, 0) j := fun h0 => (zLiN_ne (by decide) (by decide) (by decide) (by decide) 5).trans (zup_ne (fun w => h0 w.2))
    refine zb ?_
    refine q_pl_again (f := zLiN (zup f (30, 0, 0) 0 (nI 0)) row 5) (M := M) (z := z) (fun t ht => ((aR 0 (by omega)).2 t ht).cg (fun j => ne1 (by decide) (by decide) (by decide) (by decide) (by decide)) (fun j => ne1 (by decide) (by decide) (by decide) (by decide) (by decide))) 5 (i := 0) rfl (fun cl => ?_)
    have ne2 : ∀ {x : zA} {j : Nat}, x ≠ (30, 0, 0) → x ≠ (31, 0, 0) → x ≠ (35, 0, 0) → x ≠ (33, 0, 0) → x ≠ (41, 0, 0) → x ≠ (32, 0, 0) → x ≠ (37, 0, 0) → zAgN (zLiN (zup f (30, 0, 0) 0 (nI 0)) row 5) M z 5 x j = f x j := fun h0 h1 h2 h3 h4 h5 h6 => (zAgN_ne h1 h5 h3 h4 h6 5).trans (ne1 h0 h1 h2 h3 h4)
    have n2 : ∀ {j : Nat}, j ≠ 0 → zAgN (zLiN (zup f (30, 0, 0) 0 (nI 0)) row 5) M z 5 (30, 0, 0) j = f (30, 0, 0) j := fun h0 => (zAgN_ne (by decide) (by decide) (by decide) (by decide) (by decide) 5).trans (n1 h0)
    obtain ⟨f2, hf2⟩ : ∃ f2, f2 = zAgN (zLiN (zup f (30, 0, 0) 0 (nI 0)) row 5) M z 5 := ⟨_, rfl⟩
    rw [← hf2] at ne2 n2 ⊢
    have hR2 : zRdy M z f2 row := ⟨fun k a b => by rw [ne2 (by decide) (by decide) (by decide) (by decide) (by decide) (by decide) (by decide)]; exact (aR row hrow).1 k a b, fun t ht => ((aR row hrow).2 t ht).cg (fun j => ne2 (by decide) (by decide) (by decide) (by decide) (by decide) (by decide) (by decide)) (fun j => ne2 (by decide) (by decide) (by decide) (by decide) (by decide) (by decide) (by decide))⟩
    refine zb ?_
    refine q_bursts hrow hR2 (fun f3 hB => ?_)
    have hRd : zRdy M z (zdq f2 ((List.range' 0 5).foldl (zdm f2) (none, 0))) row := ⟨fun k a b => by rw [zdq_ne (by decide) (by decide)]; exact hR2.1 k a b, fun t ht => (hR2.2 t ht).cg (fun j => zdq_ne (by decide) (by decide)) (fun j => zdq_ne (by decide) (by decide))⟩
    have hCI : zCI (zsnM f3) f3 := zCI_of (w := (List.range' 0 5).foldl (zdm f2) (none, 0)) hRd hB zup_eq (zdm_lt _ _ (fun t ht => by
        rw [List.mem_range'_1] at ht; omega) (fun t w => by cases w)) (fun t ht => (aT t ht).cg (fun j => (zdq_ne (by decide) (by decide)).trans (ne2 (by decide) (by decide) (by decide) (by decide) (by decide) (by decide) (by decide)))) (fun t ht => by rw [zdq_ne (by decide) (by decide), ne2 (by decide) (by decide) (by decide) (by decide) (by decide) (by decide) (by decide)]; exact a47 t ht)
    have ne3 : ∀ {x : zA} {j : Nat}, x ≠ (30, 0, 0) → x ≠ (59, 0, 0) → x ≠ (60, 0, 0) → x ≠ (41, 0, 0) → x ≠ (42, 0, 0) → x ≠ (43, 0, 0) → x ≠ (61, 0, 0) → x ≠ (62, 0, 0) → f3 x j = f2 x j := fun h0 h1 h2 h3 h4 h5 h6 h7 => (zBuN_ne h1 h2 h3 h4 h5 h6 h7 29 f3 hB).trans (zdq_ne h0 h1)
    have n3 : ∀ {j : Nat}, j ≠ 35 → f3 (30, 0, 0) j = f2 (30, 0, 0) j := fun h0 => (zBuN_ne (by decide) (by decide) (by decide) (by decide) (by decide) (by decide) (by decide) 29 f3 hB).trans ((zup_nk (by decide)).trans (zup_ne (fun w => h0 w.2)))
    refine q_centre0 hrow hCI (fun n f4 hC => ?_)
    have ne4 : ∀ {j : Nat}, f4 (30, 0, 0) j = f3 (30, 0, 0) j := fun {j} => (zCN_ne (by simp) 30 n f4 hC).trans (zc0N_ne (by decide) (by decide) 5)
    have n59 : ∀ j, zc2N f4 5 (59, 0, 0) j = f3 (59, 0, 0) j := fun j => (zc2N_ne (by decide) 5).trans ((zCN_ne (by simp) 30 n f4 hC).trans (zc0N_ne (by decide) (by decide) 5))
    have n30 : ∀ {j : Nat}, zc2N f4 5 (30, 0, 0) j = f3 (30, 0, 0) j := fun {j} => (zc2N_ne (by decide) 5).trans ne4
    have h0 : zse (zc2N f4 5) 0 = 0 := rfl
    have hs := q_pl_sent (sc := sc) (K := K) (c := c) (s := s) (g := g) (row := row) (F := zc2N f4 5) (A := f3 (30, 0, 0) 35) (n := some (.inl (nI n))) 29 (i := 0) (cl := cl && false && false) rfl (fun cl => ?_)
    · rw [h0, nI_0, Int32.add_zero, ← n30] at hs
      exact hs
    · rw [zse_cg n59]
      have hin : ¬ (nI 30 * nI row < 0 ∨ 60 ≤ (nI 30 * nI row).toNatClampNeg) := by rw [nI_mul]; exact nI_in (N := 60) (by omega) (by decide)
      have ec : (nI 30 * nI row).toNatClampNeg = 30 * row := by rw [nI_mul, nI_clamp (by omega)]
      have e2 : zc2N f4 5 (30, 0, 0) 2 = f (30, 0, 0) 2 := n30.trans ((n3 (by decide)).trans (n2 (by decide)))
      have h210 : ∀ h, h = (if f4 (56, 0, 0) (30 * row) < 0 then nI 0 else nI 1) → zT sc 54 210 false [zmo, some (.inl (nI row)), some (.inl (nI n)), some (.inl (f3 (30, 0, 0) 35 + nI (zse f3 29))), some (.inl (nI 30))] [.inl h, .inr (.inl (30, 0, 0))] (zN c s (zup (zc2N f4 5) (30, 0, 0) 2 (zc2N f4 5 (30, 0, 0) 2 + (f3 (30, 0, 0) 35 + nI (zse f3 29)) - nI n)) g) K := fun h hh => by
        rw [e2]
        refine zb ?_
        refine q_setLevels ?_
        obtain ⟨f5, hf5⟩ : ∃ f5, f5 = zslN (zup (zc2N f4 5) (30, 0, 0) 2 (f (30, 0, 0) 2 + (f3 (30, 0, 0) 35 + nI (zse f3 29)) - nI n)) h 5 := ⟨_, rfl⟩
        rw [← hf5]
        have ne5 : ∀ {x : zA} {j : Nat}, x = (38, 0, 0) ∨ x = (39, 0, 0) → f5 x j = f x j := fun {x j} hx => by
          rw [hf5]
          rcases hx with rfl | rfl
          · rw [zslN_ne (by decide) (by decide), zup_nk (by decide), zc2N_ne (by decide), zCN_n2 (by simp) 30 n f4 hC, zc0N_ne (by decide) (by decide), ne3 (by decide) (by decide) (by decide) (by decide) (by decide) (by decide) (by decide) (by decide), ne2 (by decide) (by decide) (by decide) (by decide) (by decide) (by decide) (by decide)]
          · rw [zslN_ne (by decide) (by decide), zup_nk (by decide), zc2N_ne (by decide), zCN_n2 (by simp) 30 n f4 hC, zc0N_ne (by decide) (by decide), ne3 (by decide) (by decide) (by decide) (by decide) (by decide) (by decide) (by decide) (by decide), ne2 (by decide) (by decide) (by decide) (by decide) (by decide) (by decide) (by decide)]
        have n5 : f5 (30, 0, 0) 1 = nI N := by
          rw [hf5, zslN_ne (by decide) (by decide), zup_ne (by decide), n30, n3 (by decide), n2 (by decide), hn]
        refine q_share (W := W) (Q := Q) (fun t ht => by rw [ne5 (Or.inl rfl), ne5 (Or.inr rfl)]; exact aQ t ht) (fun f6 G hF hP => ?_)
        refine q_givePlaces hrow (fun t ht => ⟨(hP t ht).1, (hP t ht).2.2.1⟩) (fun f7 hG => ?_)
        have n7 : zlc f7 30 (30, 0, 0) 1 = nI N := (zlc_ne (by decide)).trans ((hG.1 _ _ (by decide) (by decide)).trans ((hF _ _ (by decide) (by decide)).trans n5))
        have key := k1 _ n ⟨f2, f3, f4, f5, f6, f7, G, hf2, hB, hC, by rw [hf5, hh], hF, hP, hG, rfl⟩
        rw [← nI_add, ← n7] at key
        have hl := q_pl_lost (sc := sc) (K := K) (c := c) (s := s) (g := g) (F := f7) (x := nI n) (u := some (.inl (nI row))) (v := some (.inl (f3 (30, 0, 0) 35 + nI (zse f3 29)))) (cl := false) rfl 30 (i := 0) rfl key
        rw [zlc_0] at hl
        exact hl
      refine zb ?_
      refine zin hin ?_
      refine zif (fun q => ?_) (fun q => ?_)
      · have q : zup (zc2N f4 5) (30, 0, 0) 2 (zc2N f4 5 (30, 0, 0) 2 + (f3 (30, 0, 0) 35 + nI (zse f3 29)) - nI n) (56, 0, 0) (nI 30 * nI row).toNatClampNeg < 0 := q
        rw [zup_nk (by decide), ec, zc2N_ne (by decide)] at q
        refine zb ?_
        exact h210 _ (by rw [if_pos q]; rfl)
      · have q : ¬ zup (zc2N f4 5) (30, 0, 0) 2 (zc2N f4 5 (30, 0, 0) 2 + (f3 (30, 0, 0) 35 + nI (zse f3 29)) - nI n) (56, 0, 0) (nI 30 * nI row).toNatClampNeg < 0 := q
        rw [zup_nk (by decide), ec, zc2N_ne (by decide)] at q
        exact h210 _ (by rw [if_neg q]; rfl)
end MO23
