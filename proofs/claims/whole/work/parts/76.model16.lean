/-! The reference: the centre's loop over the slots -/
section MO16
variable {sc : zC} {c s : Nat} {f : zM} {g : zW} {K : zR → Prop} {row : Nat} {sn : Nat → Option Nat}
theorem q_c0_193 {F H : zM} {t k n : Nat} {x : Int32} (hr : row < 2) (ht : t < 5) (hk : k < 30) (hI : zCI sn F) (hs : sn k = some t) (hH : H = zup (zup (zup (zup F (56, 0, 0) (30 * row + k) (nI t)) (57, 0, 0) (30 * row + k) (if k = 0 then zK (-1) else F (60, 0, 0) k)) (46, 0, 0) t (F (30, 0, 0) 1)) (52, 0, 0) (5 * row + t) (nI 1)) (hx : x = (if F (52, 0, 0) (5 * (1 - row) + t) = 0 then nI 0 else F (53, 0, 0) (5 * (1 - row) + t)))
    (k0 : k = 0 → ∀ cl u v, zT sc 49 237 cl [zmo, some (.inl (nI row)), some (.inl (nI n)), some (.inl (nI k)), u, v] [] (zN c s (zup (zup (zup (zC2 F row k t) (44, 0, 0) t (nI 1)) (45, 0, 0) t (nI 0)) (54, 0, 0) (5 * row + t) (nI 1)) g) K)
    (k1 : k ≠ 0 → ∀ f' cl u v, zRd (zC2 F row k t) t k f' → zT sc 49 237 cl [zmo, some (.inl (nI row)), some (.inl (nI n)), some (.inl (nI k)), u, v] [] (zN c s f' g) K) : zT sc 49 193 false [zmo, some (.inl (nI row)), some (.inl (nI n)), some (.inl (nI k)), some (.inl (nI 1)), some (.inl (nI t))] [.inl x, .inl (F (33, 0, 0) t), .inl (nI (5 * row + t)), .inr (.inl (53, 0, 0))] (zN c s H g) K := by
  have e0 : zup H (53, 0, 0) (5 * row + t) (F (33, 0, 0) t - x) = zC2 F row k t := by rw [hH, hx]; rfl
  have hin : ¬ (nI 5 * nI row + nI t < 0 ∨ 10 ≤ (nI 5 * nI row + nI t).toNatClampNeg) := by
    rw [zr5_e]; exact nI_in (N := 10) (by omega) (by decide)
  refine zb ?_
  refine zin (nI_in (N := 10) (by omega) (by decide)) ?_
  rw [nI_clamp (show 5 * row + t < 2 ^ 31 by omega)]
  show zx False sc (zT sc) 49 _ _ false _ _ (zN c s (zup H (53, 0, 0) (5 * row + t) (F (33, 0, 0) t - x)) g) _
  rw [e0]
  refine zif (fun q => ?_) (fun q => ?_)
  · have q : nI k = 0 := q
    have q := (nI_eq (a := k) (b := 0) (by omega) (by decide)).mp (q.trans nI_0.symm)
    refine zin (nI_in (N := 5) ht (by decide)) ?_
    refine zin (nI_in (N := 5) ht (by decide)) ?_
    refine zin hin ?_
    have h := k0 q false (some (.inl (nI 1))) (some (.inl (nI t)))
    rw [show 5 * row + t = (nI 5 * nI row + nI t).toNatClampNeg by rw [zr5_e, nI_clamp (by omega)]] at h
    rw [nI_clamp (show t < 2 ^ 31 by omega)]
    exact h
  · have q : ¬ nI k = 0 := q
    have q : k ≠ 0 := fun w => q (by rw [w]; exact nI_0)
    obtain ⟨i1, i2, i3, i4⟩ := hI
    obtain ⟨e, e1, e61, he⟩ := i3 t ht
    obtain ⟨⟨b, hb, hl⟩, o, hc, ho⟩ := i4 k (by omega) hk t hs
    have ne : ∀ {y : zA} {j : Nat}, y ≠ (56, 0, 0) → y ≠ (57, 0, 0) → y ≠ (46, 0, 0) → y ≠ (52, 0, 0) → y ≠ (53, 0, 0) → zC2 F row k t y j = F y j := fun a b c d e => zC2_ne a b c d e
    refine zb ?_
    have ho' : ∀ i, o = some i → 366 * t + 6 ≤ i ∧ i < 366 * t + 366 ∧ ∃ n, n ≤ 6 ∧ zC2 F row k t (40, 0, 0) (i / 6) = nI n := fun i hi => by
      rw [ne (by decide) (by decide) (by decide) (by decide) (by decide)]; exact ho i hi
    have he' : zC2 F row k t (47, 0, 0) t = nI e := (ne (by decide) (by decide) (by decide) (by decide) (by decide)).trans he
    have hl' : zC2 F row k t (62, 0, 0) k = nI b := (ne (by decide) (by decide) (by decide) (by decide) (by decide)).trans hl
    have hc' : zC2 F row k t (60, 0, 0) k = zopt o := (ne (by decide) (by decide) (by decide) (by decide) (by decide)).trans hc
    refine q_read (f := zC2 F row k t) ht hk hb hl' ((i2 t ht).cg (fun j => ne (by decide) (by decide) (by decide) (by decide) (by decide))) he' e1 e61 hc' ho' (fun f3 m h1 h2 h3 h4 => ?_)
    exact k1 q _ _ _ _ ⟨e, b, o, f3, m, he', e61, hl', hb, hc', ho', h1, h2, h3, h4, rfl⟩
theorem q_c0_111 {F H : zM} {t k n : Nat} {cl : Bool} {x : Int32} (hr : row < 2) (ht : t < 5) (hk : k < 30) (hI : zCI sn F) (hs : sn k = some t) (hH : H = zup F (56, 0, 0) (30 * row + k) (nI t)) (hx : x = (if k = 0 then zK (-1) else F (60, 0, 0) k))
    (k0 : k = 0 → ∀ cl u v, zT sc 49 237 cl [zmo, some (.inl (nI row)), some (.inl (nI (n + 1))), some (.inl (nI k)), u, v] [] (zN c s (zup (zup (zup (zC2 F row k t) (44, 0, 0) t (nI 1)) (45, 0, 0) t (nI 0)) (54, 0, 0) (5 * row + t) (nI 1)) g) K)
    (k1 : k ≠ 0 → ∀ f' cl u v, zRd (zC2 F row k t) t k f' → zT sc 49 237 cl [zmo, some (.inl (nI row)), some (.inl (nI (n + 1))), some (.inl (nI k)), u, v] [] (zN c s f' g) K) : zT sc 49 111 cl [zmo, some (.inl (nI row)), some (.inl (nI n)), some (.inl (nI k)), some (.inl (nI 1)), some (.inl (nI t))] [.inl x, .inl (nI (30 * row + k)), .inr (.inl (57, 0, 0))] (zN c s H g) K := by
  have hin : ¬ (nI 5 * nI row + nI t < 0 ∨ 10 ≤ (nI 5 * nI row + nI t).toNatClampNeg) := by
    rw [zr5_e]; exact nI_in (N := 10) (by omega) (by decide)
  have ec : (nI 5 * nI row + nI t).toNatClampNeg = 5 * row + t := by rw [zr5_e, nI_clamp (by omega)]
  have e1r : nI 5 * (nI 1 - nI row) + nI t = nI (5 * (1 - row) + t) := by rw [nI_sub (by omega), zr5_e]
  have hin' : ¬ (nI 5 * (nI 1 - nI row) + nI t < 0 ∨ 10 ≤ (nI 5 * (nI 1 - nI row) + nI t).toNatClampNeg) := by
    rw [e1r]; exact nI_in (N := 10) (by omega) (by decide)
  have ec' : (nI 5 * (nI 1 - nI row) + nI t).toNatClampNeg = 5 * (1 - row) + t := by rw [e1r, nI_clamp (by omega)]
  refine zb ?_
  refine zin (nI_in (N := 60) (by omega) (by decide)) ?_
  rw [nI_clamp (show 30 * row + k < 2 ^ 31 by omega)]
  refine zin (nI_in (N := 5) ht (by decide)) ?_
  rw [nI_clamp (show t < 2 ^ 31 by omega)]
  show zx False sc (zT sc) 49 _ _ false _ _ (zN c s (zup (zup H (57, 0, 0) (30 * row + k) x) (46, 0, 0) t (zup H (57, 0, 0) (30 * row + k) x (30, 0, 0) 1)) g) _
  rw [zup_nk (x := (30, 0, 0)) (by decide), show H (30, 0, 0) 1 = F (30, 0, 0) 1 by rw [hH]; exact zup_nk (by decide)]
  refine zin hin ?_
  obtain ⟨H3, hH3⟩ : ∃ H3, H3 = zup (zup (zup H (57, 0, 0) (30 * row + k) x) (46, 0, 0) t (F (30, 0, 0) 1)) (52, 0, 0) (5 * row + t) (nI 1) := ⟨_, rfl⟩
  have eH3 : zup (zup (zup H (57, 0, 0) (30 * row + k) x) (46, 0, 0) t (F (30, 0, 0) 1)) (52, 0, 0) (nI 5 * nI row + nI t).toNatClampNeg (nI 1) = H3 := by rw [ec]; exact hH3.symm
  show zx False sc (zT sc) 49 _ _ false _ _ (zN c s (zup (zup (zup H (57, 0, 0) (30 * row + k) x) (46, 0, 0) t (F (30, 0, 0) 1)) (52, 0, 0) (nI 5 * nI row + nI t).toNatClampNeg (nI 1)) g) _
  rw [eH3]
  have g33 : H3 (33, 0, 0) t = F (33, 0, 0) t := by rw [hH3, zup_nk (by decide), zup_nk (by decide), zup_nk (by decide), hH, zup_nk (by decide)]
  have g52 : H3 (52, 0, 0) (5 * (1 - row) + t) = F (52, 0, 0) (5 * (1 - row) + t) := by rw [hH3, zup_ne (by rintro ⟨-, w⟩; omega), zup_nk (by decide), zup_nk (by decide), hH, zup_nk (by decide)]
  have g53 : H3 (53, 0, 0) (5 * (1 - row) + t) = F (53, 0, 0) (5 * (1 - row) + t) := by rw [hH3, zup_nk (by decide), zup_nk (by decide), zup_nk (by decide), hH, zup_nk (by decide)]
  have key : ∀ y, y = (if F (52, 0, 0) (5 * (1 - row) + t) = 0 then nI 0 else F (53, 0, 0) (5 * (1 - row) + t)) → zT sc 49 193 false [zmo, some (.inl (nI row)), some (.inl (nI (n + 1))), some (.inl (nI k)), some (.inl (nI 1)), some (.inl (nI t))] [.inl y, .inl (F (33, 0, 0) t), .inl (nI (5 * row + t)), .inr (.inl (53, 0, 0))] (zN c s H3 g) K := fun y hy =>
    q_c0_193 hr ht hk hI hs (by rw [hH3, hH, hx]) hy k0 k1
  refine zin (nI_in (N := 5) ht (by decide)) ?_
  rw [nI_clamp (show t < 2 ^ 31 by omega)]
  refine zin hin' ?_
  refine zif (fun q => ?_) (fun q => ?_)
  · have q : H3 (52, 0, 0) (nI 5 * (nI 1 - nI row) + nI t).toNatClampNeg = 0 := q
    rw [ec', g52] at q
    have h := key (nI 0) (by rw [if_pos q])
    refine zb ?_
    show zT sc 49 193 false [zmo, some (.inl (nI row)), some (.inl (nI n + nI 1)), some (.inl (nI k)), some (.inl (nI 1)), some (.inl (nI t))] [.inl (nI 0), .inl (H3 (33, 0, 0) t), .inl (nI 5 * nI row + nI t), .inr (.inl (53, 0, 0))] (zN c s H3 g) K
    rw [nI_add, zr5_e, g33]
    exact h
  · have q : ¬ H3 (52, 0, 0) (nI 5 * (nI 1 - nI row) + nI t).toNatClampNeg = 0 := q
    rw [ec', g52] at q
    have h := key (F (53, 0, 0) (5 * (1 - row) + t)) (by rw [if_neg q])
    refine zin hin' ?_
    show zT sc 49 193 false [zmo, some (.inl (nI row)), some (.inl (nI n + nI 1)), some (.inl (nI k)), some (.inl (nI 1)), some (.inl (nI t))] [.inl (H3 (53, 0, 0) (nI 5 * (nI 1 - nI row) + nI t).toNatClampNeg), .inl (H3 (33, 0, 0) t), .inl (nI 5 * nI row + nI t), .inr (.inl (53, 0, 0))] (zN c s H3 g) K
    rw [nI_add, zr5_e, g33, ec', g53]
    exact h
theorem q_c0_loop {f0 : zM} (hr : row < 2) (r : Nat) : ∀ {F : zM} {k n : Nat} {cl : Bool} {lv : zL}, k + r = 30 → zCN sn f0 row k n F → zCI sn F → (lv = [] ∨ ∃ u v, lv = [u, v]) → (∀ n f', zCN sn f0 row 30 n f' → K (.inl (some (.inl (nI n))), zN c s (zc2N f' 5) g)) → zT sc 49 39 cl (zmo :: some (.inl (nI row)) :: some (.inl (nI n)) :: some (.inl (nI k)) :: lv) [] (zN c s F g) K := by
  induction r with
  | zero =>
    intro F k n cl lv hk hC hI hlv hK
    have e : k = 30 := by omega
    subst e
    have h := hK n F hC
    rcases hlv with rfl | ⟨u, v, rfl⟩
    · refine zb ?_
      refine zb ?_
      exact q_c0_in (Or.inl rfl) rfl 5 (i := 0) rfl h
    · refine zb ?_
      refine zb ?_
      exact q_c0_in (Or.inr ⟨u, v, rfl⟩) rfl 5 (i := 0) rfl h
  | succ r ih =>
    intro F k n cl lv hk hC hI hlv hK
    have h237 : ∀ f' cl u v n', zC1 sn F row k f' → n' = n + (bif zheM F sn k then 1 else 0) → zT sc 49 237 cl [zmo, some (.inl (nI row)), some (.inl (nI n')), some (.inl (nI k)), u, v] [] (zN c s f' g) K := fun f' cl u v n' h1 h2 => by
      have h := ih (F := f') (k := k + 1) (n := n') (cl := cl) (by omega) ⟨F, n, hC, h2, h1⟩ (hI.st h1) (Or.inr ⟨u, v, rfl⟩) hK
      rw [← nI_add k 1] at h
      refine zb ?_
      exact h
    have hin : ¬ (nI 30 * nI row + nI k < 0 ∨ 60 ≤ (nI 30 * nI row + nI k).toNatClampNeg) := by
      rw [zrw_e]; exact nI_in (N := 60) (by omega) (by decide)
    have ec : (nI 30 * nI row + nI k).toNatClampNeg = 30 * row + k := by rw [zrw_e, nI_clamp (by omega)]
    obtain ⟨f1, f2⟩ := hI.1 k (by omega)
    have hyes : zheM F sn k = true → ∀ cl, zT sc 49 81 cl [zmo, some (.inl (nI row)), some (.inl (nI n)), some (.inl (nI k)), some (.inl (nI 1)), some (.inl (F (59, 0, 0) k))] [.inl (F (59, 0, 0) k), .inl (nI 30 * nI row + nI k), .inr (.inl (56, 0, 0))] (zN c s F g) K := fun hh cl => by
      obtain ⟨t, hs⟩ : ∃ t, sn k = some t := by
        cases hq : sn k with
        | none => unfold zheM at hh; rw [hq] at hh; cases hh
        | some t => exact ⟨t, rfl⟩
      have ht := f2 t hs
      have e59 : F (59, 0, 0) k = nI t := by rw [f1, hs]; rfl
      rw [e59, zrw_e]
      refine zb ?_
      refine zin (nI_in (N := 60) (by omega) (by decide)) ?_
      rw [nI_clamp (show 30 * row + k < 2 ^ 31 by omega)]
      have key : ∀ x, x = (if k = 0 then zK (-1) else F (60, 0, 0) k) → zT sc 49 111 false [zmo, some (.inl (nI row)), some (.inl (nI n)), some (.inl (nI k)), some (.inl (nI 1)), some (.inl (nI t))] [.inl x, .inl (nI (30 * row + k)), .inr (.inl (57, 0, 0))] (zN c s (zup F (56, 0, 0) (30 * row + k) (nI t)) g) K := fun x hx =>
        q_c0_111 hr ht (by omega) hI hs rfl hx (fun k0 cl u v => h237 _ cl u v _ (Or.inr ⟨hh, t, hs, Or.inl ⟨k0, rfl⟩⟩) (by rw [hh]; rfl)) (fun k0 f' cl u v hR => h237 _ cl u v _ (Or.inr ⟨hh, t, hs, Or.inr ⟨k0, hR⟩⟩) (by rw [hh]; rfl))
      refine zif (fun q => ?_) (fun q => ?_)
      · have q : nI k ≤ 0 := q
        have q : k = 0 := Classical.byContradiction fun w => nI_nle (by omega) (by omega) q
        refine zb ?_
        show zT sc 49 111 false _ [.inl (zK (-1)), .inl (nI 30 * nI row + nI k), .inr (.inl (57, 0, 0))] _ _
        rw [zrw_e]
        exact key _ (by rw [if_pos q])
      · have q : ¬ nI k ≤ 0 := q
        have q : k ≠ 0 := fun w => q (by rw [w, nI_0]; decide)
        refine zin (nI_in (N := 30) (by omega) (by decide)) ?_
        rw [nI_clamp (show k < 2 ^ 31 by omega)]
        show zT sc 49 111 false _ [.inl (zup F (56, 0, 0) (30 * row + k) (nI t) (60, 0, 0) k), .inl (nI 30 * nI row + nI k), .inr (.inl (57, 0, 0))] _ _
        rw [zrw_e, zup_nk (by decide)]
        exact key _ (by rw [if_neg q])
    have hno : zheM F sn k = false → ∀ cl x, zT sc 49 80 cl [zmo, some (.inl (nI row)), some (.inl (nI n)), some (.inl (nI k)), some (.inl (nI 0)), x] [.inl (nI 30 * nI row + nI k), .inr (.inl (56, 0, 0))] (zN c s F g) K := fun hh cl x => by
      refine zb ?_
      refine zb ?_
      refine zin hin ?_
      refine zb ?_
      refine zb ?_
      refine zin hin ?_
      have h := h237 (zup (zup F (56, 0, 0) (30 * row + k) (zK (-1))) (57, 0, 0) (30 * row + k) (zK (-1))) false (some (.inl (nI 0))) x n (Or.inl ⟨hh, rfl⟩) (by rw [hh]; rfl)
      rw [← ec] at h
      exact h
    rcases hlv with rfl | ⟨u, v, rfl⟩
    all_goals
      refine zb ?_
      refine zin (nI_ge (a := k) (b := 30) (by omega) (by decide)) ?_
      refine q_isHeard hI.1 (by omega) (fun hh => ?_) (fun hh => ?_)
      · refine zin (nI_in (N := 30) (by omega) (by decide)) ?_
        rw [nI_clamp (show k < 2 ^ 31 by omega)]
        exact hyes hh _
      · refine zin (nI_in (N := 30) (by omega) (by decide)) ?_
        rw [nI_clamp (show k < 2 ^ 31 by omega)]
        exact hno hh _ _
theorem q_centre0 (hr : row < 2) (hI : zCI sn f) (hK : ∀ n f', zCN sn (zc0N f row 5) row 30 n f' → K (.inl (some (.inl (nI n))), zN c s (zc2N f' 5) g)) : zT sc 49 0 true [zmo, some (.inl (nI row))] [] (zN c s f g) K := by
  refine zb ?_
  refine q_c0_clear (f := f) hr 5 (i := 0) rfl (fun cl => ?_)
  refine zb ?_
  have ne : ∀ {x : zA} {j : Nat}, x ≠ (52, 0, 0) → x ≠ (54, 0, 0) → zc0N f row 5 x j = f x j := fun a b => zc0N_ne a b 5
  refine q_c0_loop (sn := sn) hr 30 (k := 0) (n := 0) rfl ⟨rfl, rfl⟩ ⟨fun k hk => ?_, fun t ht => (hI.2.1 t ht).cg (fun j => ne (by decide) (by decide)), fun t ht => ?_, fun k k1 k2 t ht => ?_⟩ (Or.inl rfl) hK
  · rw [ne (by decide) (by decide)]; exact hI.1 k hk
  · rw [ne (by decide) (by decide)]; exact hI.2.2.1 t ht
  · rw [ne (by decide) (by decide), ne (by decide) (by decide)]
    obtain ⟨a, o, b, c⟩ := hI.2.2.2 k k1 k2 t ht
    exact ⟨a, o, b, fun i hi => by rw [ne (by decide) (by decide)]; exact c i hi⟩
end MO16
