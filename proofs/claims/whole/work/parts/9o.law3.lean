/-! The law: the calls that answer -/
section LW2
variable {L : Nat} {xs : Nat → Int32} {c s i : Nat} {f : zM} {g : zW} {K : zR → Prop} {cl : Bool} {tl : zL}
theorem J_terminal (hL : L ≤ 2048) (hi : i + 4 ≤ L) (hc : 258 ≤ c) (hI : zIv f) (htl : zt2 tl) (hnx : zNx L xs c s i K) : zT (some (L, xs)) 124 476 cl (zLL i tl) [] (zN c s f g) K := by
  obtain ⟨N, l, α, M, Z, W, Q, hI⟩ := hI
  have e1 := zrd (L := L) (i := i) hL (k := 1) (by omega)
  have e2 := zrd (L := L) (i := i) hL (k := 2) (by omega)
  rcases htl with rfl | ⟨a, rfl⟩ | ⟨a, b, rfl⟩
  all_goals
    refine zb ?_
    refine zin e1 ?_
    refine zin e2 ?_
    refine h_terminal (l := l) (α := α) (md := fun t => nI (M t)) hc (fun t ht => (hI.1 t ht).1.2.2.2.2.2) (fun t w ht hw ex ey => ?_) (fun hno => ?_)
    · refine zin e1 ?_
      refine zin e2 ?_
      refine q_terminal (M := M) (z := Z) (fun t ht => (hI.1 t ht).1.2.2.1) (fun t' w' v ht' hw' ex' ey' hv => ?_) (fun hno => absurd ⟨by rw [ex]; exact zter_of ht, by rw [ey, nI_toInt (by omega)]; omega⟩ hno)
      have et : t' = t := (nI_eq (by omega) (by omega)).mp (ex'.symm.trans ex)
      have ew : w' = w := (nI_eq (by omega) (by omega)).mp (ey'.symm.trans ey)
      subst et ew
      have ea := zter_eq hI ht hw hv
      refine q_thrown ?_
      refine zb ?_
      refine zip (show lg_cmp (zterA f l α (fun t => nI (M t)) t' w').toInt64 v.toInt64 = 0 from (by rw [ea]; exact lg_self _)) ?_
      refine zb ?_
      exact hnx _ _ _ _ _ _ ⟨_, _, _, _, _, _, _, hI.thr⟩ (by omega) (by omega) (by omega) (by first | exact Or.inr (Or.inl ⟨_, rfl⟩) | exact Or.inr (Or.inr ⟨_, _, rfl⟩))
    · refine zin e1 ?_
      refine zin e2 ?_
      refine q_terminal (M := M) (z := Z) (fun t ht => (hI.1 t ht).1.2.2.1) (fun t' w' v ht' hw' ex' ey' hv => absurd ⟨by rw [ex']; exact zter_of ht', by rw [ey', nI_toInt (by omega)]; omega⟩ hno) (fun _ => ?_)
      refine q_thrown ?_
      refine zb ?_
      refine zb ?_
      exact hnx _ _ _ _ _ _ ⟨_, _, _, _, _, _, _, hI.thr⟩ (by omega) (by omega) (by omega) (by first | exact Or.inr (Or.inl ⟨_, rfl⟩) | exact Or.inr (Or.inr ⟨_, _, rfl⟩))
theorem J_centre (hL : L ≤ 2048) (hi : i + 4 ≤ L) (hc : 258 ≤ c) (hI : zIv f) (htl : zt2 tl) (hnx : zNx L xs c s i K) : zT (some (L, xs)) 124 544 cl (zLL i tl) [] (zN c s f g) K := by
  obtain ⟨N, l, α, M, Z, W, Q, hI⟩ := hI
  have e1 := zrd (L := L) (i := i) hL (k := 1) (by omega)
  have e2 := zrd (L := L) (i := i) hL (k := 2) (by omega)
  rcases htl with rfl | ⟨a, rfl⟩ | ⟨a, b, rfl⟩
  all_goals
    refine zb ?_
    refine zin e1 ?_
    refine zin e2 ?_
    refine h_centre hc (fun t w ht hw ex ey => ?_) (fun hno => ?_)
    · refine zin e1 ?_
      refine zin e2 ?_
      refine q_centre (fun t' w' ht' hw' ex' ey' => ?_) (fun hno => absurd ⟨by rw [ex]; exact zter_of ht, by rw [ey, nI_toInt (by omega)]; omega⟩ hno)
      have et : t' = t := (nI_eq (by omega) (by omega)).mp (ex'.symm.trans ex)
      have ew : w' = w := (nI_eq (by omega) (by omega)).mp (ey'.symm.trans ey)
      subst et ew
      have ea := zcen_eq hI ht hw
      refine q_thrown ?_
      refine zb ?_
      refine zip (show lg_cmp (zcen f t' w').toInt64 (zcenM f t' w').toInt64 = 0 from (by rw [ea]; exact lg_self _)) ?_
      refine zb ?_
      exact hnx _ _ _ _ _ _ ⟨_, _, _, _, _, _, _, hI.thr⟩ (by omega) (by omega) (by omega) (by first | exact Or.inr (Or.inl ⟨_, rfl⟩) | exact Or.inr (Or.inr ⟨_, _, rfl⟩))
    · refine zin e1 ?_
      refine zin e2 ?_
      refine q_centre (fun t' w' ht' hw' ex' ey' => absurd ⟨by rw [ex']; exact zter_of ht', by rw [ey', nI_toInt (by omega)]; omega⟩ hno) (fun _ => ?_)
      refine q_thrown ?_
      refine zb ?_
      refine zb ?_
      exact hnx _ _ _ _ _ _ ⟨_, _, _, _, _, _, _, hI.thr⟩ (by omega) (by omega) (by omega) (by first | exact Or.inr (Or.inl ⟨_, rfl⟩) | exact Or.inr (Or.inr ⟨_, _, rfl⟩))
theorem zah_of {a : Nat} (h : a < 2) : 0 ≤ nI a ∧ nI a ≤ 1 := by
  have : a = 0 ∨ a = 1 := by omega
  rcases this with rfl | rfl <;> decide
theorem J_plan (hL : L ≤ 2048) (hi : i + 4 ≤ L) (hc : 258 ≤ c) (hI : zIv f) (htl : zt2 tl) (hnx : zNx L xs c s i K) : zT (some (L, xs)) 124 612 cl (zLL i tl) [] (zN c s f g) K := by
  obtain ⟨N, l, α, M, Z, W, Q, hI⟩ := hI
  have e1 := zrd (L := L) (i := i) hL (k := 1) (by omega)
  have e2 := zrd (L := L) (i := i) hL (k := 2) (by omega)
  have e3 := zrd (L := L) (i := i) hL (k := 3) (by omega)
  rcases htl with rfl | ⟨a, rfl⟩ | ⟨a, b, rfl⟩
  all_goals
    refine zb ?_
    refine zin e1 ?_
    refine zin e2 ?_
    refine zin e3 ?_
    refine h_plan (n := N) hc hI.2.1.2.2.2.2.1 (fun sl ca ah h1 h2 h3 ex ey ez => ?_) (fun hno => ?_)
    · refine zin e1 ?_
      refine zin e2 ?_
      refine zin e3 ?_
      refine q_plan (N := N) hI.2.1.2.2.2.2.2.2.1 hI.2.1.2.2.2.2.2.1 (fun sl' ca' ah' h1' h2' h3' ex' ey' ez' => ?_) (fun hno => absurd ⟨by rw [ex, ey]; exact zslo_of h1 h2, by rw [ez]; exact zah_of h3⟩ hno)
      have es : sl' = sl := (nI_eq (by omega) (by omega)).mp (ex'.symm.trans ex)
      have ec : ca' = ca := (nI_eq (by omega) (by omega)).mp (ey'.symm.trans ey)
      have eh : ah' = ah := (nI_eq (by omega) (by omega)).mp (ez'.symm.trans ez)
      subst es ec eh
      have ea := hI.2.1.1 ((N + ah') % 2) (sl' * 3 + ca') (Nat.mod_lt _ (by decide)) (by omega)
      rw [show 30 * ((N + ah') % 2) + (sl' * 3 + ca') = 30 * ((N + ah') % 2) + 3 * sl' + ca' by omega] at ea
      refine q_thrown ?_
      refine zb ?_
      refine zip (show lg_cmp (f (17, (N + ah') % 2, 0) (sl' * 3 + ca')).toInt64 (f (55, 0, 0) (30 * ((N + ah') % 2) + 3 * sl' + ca')).toInt64 = 0 from (by rw [ea]; exact lg_self _)) ?_
      refine zb ?_
      exact hnx _ _ _ _ _ _ ⟨_, _, _, _, _, _, _, hI.thr⟩ (by omega) (by omega) (by omega) (by first | exact Or.inr (Or.inl ⟨_, rfl⟩) | exact Or.inr (Or.inr ⟨_, _, rfl⟩))
    · refine zin e1 ?_
      refine zin e2 ?_
      refine zin e3 ?_
      refine q_plan (N := N) hI.2.1.2.2.2.2.2.2.1 hI.2.1.2.2.2.2.2.1 (fun sl' ca' ah' h1' h2' h3' ex' ey' ez' => absurd ⟨by rw [ex', ey']; exact zslo_of h1' h2', by rw [ez']; exact zah_of h3'⟩ hno) (fun _ => ?_)
      refine q_thrown ?_
      refine zb ?_
      refine zb ?_
      exact hnx _ _ _ _ _ _ ⟨_, _, _, _, _, _, _, hI.thr⟩ (by omega) (by omega) (by omega) (by first | exact Or.inr (Or.inl ⟨_, rfl⟩) | exact Or.inr (Or.inr ⟨_, _, rfl⟩))
theorem J_places (hL : L ≤ 2048) (hi : i + 4 ≤ L) (hc : 258 ≤ c) (hI : zIv f) (htl : zt2 tl) (hnx : zNx L xs c s i K) : zT (some (L, xs)) 124 692 cl (zLL i tl) [] (zN c s f g) K := by
  obtain ⟨N, l, α, M, Z, W, Q, hI⟩ := hI
  have e1 := zrd (L := L) (i := i) hL (k := 1) (by omega)
  have e2 := zrd (L := L) (i := i) hL (k := 2) (by omega)
  rcases htl with rfl | ⟨a, rfl⟩ | ⟨a, b, rfl⟩
  all_goals
    refine zb ?_
    refine zin e1 ?_
    refine zin e2 ?_
    refine h_places (n := N) hc hI.2.1.2.2.2.2.1 (fun t ah ht h3 ex ey => ?_) (fun hno => ?_)
    · refine zin e1 ?_
      refine zin e2 ?_
      refine q_places (N := N) hI.2.1.2.2.2.2.2.2.1 hI.2.1.2.2.2.2.2.1 (fun t' ah' ht' h3' ex' ey' => ?_) (fun hno => absurd ⟨by rw [ex]; exact zter_of ht, by rw [ey]; exact zah_of h3⟩ hno)
      have et : t' = t := (nI_eq (by omega) (by omega)).mp (ex'.symm.trans ex)
      have eh : ah' = ah := (nI_eq (by omega) (by omega)).mp (ey'.symm.trans ey)
      subst et eh
      have hm : (N + ah') % 2 < 2 := Nat.mod_lt _ (by decide)
      have ea := zpc_mc (R := f (17, (N + ah') % 2, 0)) (S := f (55, 0, 0)) (t := t') (b := 30 * ((N + ah') % 2)) (by rw [hI.2.1.1 _ 0 hm (by omega), Nat.add_zero, (hI.2.1.2.1 _ hm).1]; exact fun w => zK1 (by omega) w.symm) (fun j hj => hI.2.1.1 _ j hm hj) 29 (by omega)
      refine q_thrown ?_
      refine zb ?_
      refine zip (show lg_cmp (nI (zpc (f (17, (N + ah') % 2, 0)) t' 30)).toInt64 (nI (zmc (f (55, 0, 0)) (nI t') (30 * ((N + ah') % 2) + 1) 29)).toInt64 = 0 from (by rw [ea]; exact lg_self _)) ?_
      refine zb ?_
      exact hnx _ _ _ _ _ _ ⟨_, _, _, _, _, _, _, hI.thr⟩ (by omega) (by omega) (by omega) (by first | exact Or.inr (Or.inl ⟨_, rfl⟩) | exact Or.inr (Or.inr ⟨_, _, rfl⟩))
    · refine zin e1 ?_
      refine zin e2 ?_
      refine q_places (N := N) hI.2.1.2.2.2.2.2.2.1 hI.2.1.2.2.2.2.2.1 (fun t' ah' ht' h3' ex' ey' => absurd ⟨by rw [ex']; exact zter_of ht', by rw [ey']; exact zah_of h3'⟩ hno) (fun _ => ?_)
      refine q_thrown ?_
      refine zb ?_
      refine zb ?_
      exact hnx _ _ _ _ _ _ ⟨_, _, _, _, _, _, _, hI.thr⟩ (by omega) (by omega) (by omega) (by first | exact Or.inr (Or.inl ⟨_, rfl⟩) | exact Or.inr (Or.inr ⟨_, _, rfl⟩))
theorem J_heard (hL : L ≤ 2048) (hi : i + 4 ≤ L) (hc : 258 ≤ c) (hI : zIv f) (htl : zt2 tl) (hnx : zNx L xs c s i K) : zT (some (L, xs)) 124 760 cl (zLL i tl) [] (zN c s f g) K := by
  obtain ⟨N, l, α, M, Z, W, Q, hI⟩ := hI
  have e1 := zrd (L := L) (i := i) hL (k := 1) (by omega)
  have e2 := zrd (L := L) (i := i) hL (k := 2) (by omega)
  rcases htl with rfl | ⟨a, rfl⟩ | ⟨a, b, rfl⟩
  all_goals
    refine zb ?_
    refine zin e1 ?_
    refine zin e2 ?_
    refine h_heard hc (fun sl ca h1 h2 ex ey => ?_) (fun hno => ?_)
    · refine zin e1 ?_
      refine zin e2 ?_
      refine q_heard (N := N) hI.2.1.2.2.2.2.2.2.1 hI.2.1.2.2.2.2.2.1 (fun sl' ca' h1' h2' ex' ey' => ?_) (fun hno => absurd (by rw [ex, ey]; exact zslo_of h1 h2) hno)
      have es : sl' = sl := (nI_eq (by omega) (by omega)).mp (ex'.symm.trans ex)
      have ec : ca' = ca := (nI_eq (by omega) (by omega)).mp (ey'.symm.trans ey)
      subst es ec
      have ea := hI.2.1.2.2.2.1 (sl' * 3 + ca') (by omega)
      rw [show 30 * ((N + 1) % 2) + (sl' * 3 + ca') = 30 * ((N + 1) % 2) + 3 * sl' + ca' by omega] at ea
      refine q_thrown ?_
      refine zb ?_
      refine zip (show lg_cmp (f (21, 0, 0) (sl' * 3 + ca')).toInt64 (f (56, 0, 0) (30 * ((N + 1) % 2) + 3 * sl' + ca')).toInt64 = 0 from (by rw [ea]; exact lg_self _)) ?_
      refine zb ?_
      exact hnx _ _ _ _ _ _ ⟨_, _, _, _, _, _, _, hI.thr⟩ (by omega) (by omega) (by omega) (by first | exact Or.inr (Or.inl ⟨_, rfl⟩) | exact Or.inr (Or.inr ⟨_, _, rfl⟩))
    · refine zin e1 ?_
      refine zin e2 ?_
      refine q_heard (N := N) hI.2.1.2.2.2.2.2.2.1 hI.2.1.2.2.2.2.2.1 (fun sl' ca' h1' h2' ex' ey' => absurd (by rw [ex', ey']; exact zslo_of h1' h2') hno) (fun _ => ?_)
      refine q_thrown ?_
      refine zb ?_
      refine zb ?_
      exact hnx _ _ _ _ _ _ ⟨_, _, _, _, _, _, _, hI.thr⟩ (by omega) (by omega) (by omega) (by first | exact Or.inr (Or.inl ⟨_, rfl⟩) | exact Or.inr (Or.inr ⟨_, _, rfl⟩))
theorem J_send (hL : L ≤ 2048) (hi : i + 4 ≤ L) (hc : 258 ≤ c) (hI : zIv f) (htl : zt2 tl) (hnx : zNx L xs c s i K) : zT (some (L, xs)) 124 303 cl (zLL i tl) [] (zN c s f g) K := by
  obtain ⟨N, l, α, M, Z, W, Q, hI⟩ := hI
  have e1 := zrd (L := L) (i := i) hL (k := 1) (by omega)
  have e2 := zrd (L := L) (i := i) hL (k := 2) (by omega)
  have hx : ∀ t, t < 5 → ∀ j, 6 * (M t + 1) + j ∉ l t := fun t ht j w => by
    have := ((hI.1 t ht).1.2.2.2.1.mem w).2.2.1
    omega
  have hlen : ∀ t, t < 5 → (l t).length = zmc (f (41, 0, 0)) (nI 1) (366 * t) 366 + zmc (f (41, 0, 0)) (nI 2) (366 * t) 366 := fun t ht => (hI.1 t ht).1.2.2.2.1.len
  rcases htl with rfl | ⟨a, rfl⟩ | ⟨a, b, rfl⟩
  all_goals
    refine zb ?_
    refine zin e1 ?_
    refine zin e2 ?_
    refine h_send (l := l) (α := α) (M := M) hc (fun t ht => (hI.1 t ht).1.2.2.2.2.2) (fun t ht => (hI.1 t ht).1.2.2.1.2.1) hx (fun t n f' α' ht n1 n6 ex ey hr hm hF hB hA => ?_) (fun t n ht n1 n6 ex ey hr => ?_) (fun hno => ?_)
    · refine zin e1 ?_
      refine zin e2 ?_
      have e41 : f' (41, 0, 0) = f (41, 0, 0) := funext fun j => hF _ _ (by rintro ⟨-, w⟩; simp at w)
      refine q_send (M := M) (z := Z) (fun t ht => zSz.cg ((hI.1 t ht).1.2.2.1) (fun j => hF _ _ (by rintro ⟨-, w⟩; simp at w)) (fun j => hF _ _ (by rintro ⟨-, w⟩; simp at w))) (fun t' n' ht' n1' n6' ex' ey' hr' hm' => ?_) (fun t' n' ht' n1' n6' ex' ey' hr' => ?_) (fun hno => absurd ⟨by rw [ex]; exact zter_of ht, by rw [ey]; exact nI_le n1 (by omega), by rw [ey]; exact nI_le n6 (by decide)⟩ hno)
      · have et : t' = t := (nI_eq (by omega) (by omega)).mp (ex'.symm.trans ex)
        have en : n' = n := (nI_eq (by omega) (by omega)).mp (ey'.symm.trans ey)
        subst et en
        obtain ⟨l2, α2, M2, Z2, key⟩ := u_send hI ht n1 n6 hm hF hB hA
        refine q_thrown ?_
        refine zip (show zgv (zup (zup (zup f' (30, 0, 0) 0 (nI 0)) (36, 0, 0) t' (nI (M t' + 1))) (40, 0, 0) (61 * t' + (M t' + 1)) (nI n')) (366 * t' + 6 * (M t' + 1)) n' (nI 1) (30, 0, 0) 0 = nI 0 by rw [zgv_ne (by decide), zup_nk (by decide), zup_nk (by decide), zup_eq]) ?_
        refine zb ?_
        refine zip (show lg_cmp (nI (M t' + 1)).toInt64 (nI (M t' + 1)).toInt64 = 0 from lg_self _) ?_
        refine zb ?_
        exact hnx _ _ _ _ _ _ ⟨_, _, _, _, _, _, _, key⟩ (by omega) (by omega) (by omega) (by first | exact Or.inr (Or.inl ⟨_, rfl⟩) | exact Or.inr (Or.inr ⟨_, _, rfl⟩))
      · have et : t' = t := (nI_eq (by omega) (by omega)).mp (ex'.symm.trans ex)
        have en : n' = n := (nI_eq (by omega) (by omega)).mp (ey'.symm.trans ey)
        subst et en
        rw [e41, ← hlen t' ht] at hr'
        exact absurd ⟨hr, hm⟩ hr'
    · refine zin e1 ?_
      refine zin e2 ?_
      refine q_send (M := M) (z := Z) (fun t ht => (hI.1 t ht).1.2.2.1) (fun t' n' ht' n1' n6' ex' ey' hr' hm' => ?_) (fun t' n' ht' n1' n6' ex' ey' hr' => ?_) (fun hno => absurd ⟨by rw [ex]; exact zter_of ht, by rw [ey]; exact nI_le n1 (by omega), by rw [ey]; exact nI_le n6 (by decide)⟩ hno)
      · have et : t' = t := (nI_eq (by omega) (by omega)).mp (ex'.symm.trans ex)
        have en : n' = n := (nI_eq (by omega) (by omega)).mp (ey'.symm.trans ey)
        subst et en
        rw [← hlen t' ht] at hr'
        exact absurd ⟨hr', hm'⟩ hr
      · refine q_thrown ?_
        refine zb ?_
        refine zb ?_
        exact hnx _ _ _ _ _ _ ⟨_, _, _, _, _, _, _, hI.thr⟩ (by omega) (by omega) (by omega) (by first | exact Or.inr (Or.inl ⟨_, rfl⟩) | exact Or.inr (Or.inr ⟨_, _, rfl⟩))
    · refine zin e1 ?_
      refine zin e2 ?_
      refine q_send (M := M) (z := Z) (fun t ht => (hI.1 t ht).1.2.2.1) (fun t' n' ht' n1' n6' ex' ey' hr' hm' => absurd ⟨by rw [ex']; exact zter_of ht', by rw [ey']; exact nI_le n1' (by omega), by rw [ey']; exact nI_le n6' (by decide)⟩ hno) (fun t' n' ht' n1' n6' ex' ey' hr' => absurd ⟨by rw [ex']; exact zter_of ht', by rw [ey']; exact nI_le n1' (by omega), by rw [ey']; exact nI_le n6' (by decide)⟩ hno) (fun _ => ?_)
      refine q_thrown ?_
      refine zb ?_
      refine zb ?_
      exact hnx _ _ _ _ _ _ ⟨_, _, _, _, _, _, _, hI.thr⟩ (by omega) (by omega) (by omega) (by first | exact Or.inr (Or.inl ⟨_, rfl⟩) | exact Or.inr (Or.inr ⟨_, _, rfl⟩))
theorem zPlay_thr {F s9 : zM} {N n : Nat} {M : Nat → Nat} {Z : Nat → Nat → Nat} {W Q : Nat → Nat} (h : zPlay F N M Z W Q s9 n) : s9 (30, 0, 0) 0 = nI 0 := by
  obtain ⟨f2, f3, f4, f5, f6, f7, G, rfl, hB, hC, rfl, hF, -, hG, rfl⟩ := h
  rw [zup_ne (by decide), zlc_ne (by decide), hG.1 _ _ (by decide) (by decide), hF _ _ (by decide) (by decide), zslN_ne (by decide) (by decide), zup_ne (by decide), zc2N_ne (by decide), zCN_ne (by simp) 30 n f4 hC, zc0N_ne (by decide) (by decide), zBuN_ne (by decide) (by decide) (by decide) (by decide) (by decide) (by decide) (by decide) 29 f3 hB]
  unfold zdq
  rw [zup_nk (by decide), zup_ne (by decide), zAgN_ne (by decide) (by decide) (by decide) (by decide) (by decide), zLiN_ne (by decide) (by decide) (by decide) (by decide), zup_eq]
theorem J_play (hc : 258 ≤ c) (hI : zIv f) (htl : zt2 tl) (hnx : zNx L xs c s i K) : zT (some (L, xs)) 124 419 cl (zLL i tl) [] (zN c s f g) K := by
  obtain ⟨N, l, α, M, Z, W, Q, hI⟩ := hI
  have hPNf : ∀ F : zM, (∀ x j, 30 ≤ x.1 → F x j = f x j) → zPN F M Z W Q := fun F hM => by
    have hk : ∀ κ j, 30 ≤ κ → F (κ, 0, 0) j = f (κ, 0, 0) j := fun κ j h => hM _ _ h
    refine ⟨fun j hj w => ?_, fun row hr => ⟨fun k k1 k2 => ?_, fun t ht => zSz.cg (hI.1 t ht).1.2.2.1 (fun j => hk 36 _ (by omega)) (fun j => hk 40 _ (by omega))⟩, fun t ht d hd => ?_, fun t ht => ?_, fun t ht => ?_⟩
    · rw [hk 57 _ (by omega)] at w ⊢
      have e : j = 30 * (j / 30) + j % 30 := by omega
      rcases hI.2.2.1 (j / 30) (j % 30) (by omega) (Nat.mod_lt _ (by decide)) with q | ⟨-, q⟩ | ⟨t, i', ht, hi', -, q, -⟩
      · rw [← e] at q; rw [q] at w; exact absurd (by decide) w
      · rw [← e] at q; exact ⟨0, by omega, q⟩
      · rw [← e] at q; exact ⟨366 * t + i', by omega, q⟩
    · rw [hk 55 _ (by omega)]; exact (hI.2.1.2.1 row hr).2.1 k k2
    · obtain ⟨n, n6, e1, -⟩ := (hI.1 t ht).2.1.1.2.2.2.2 d hd
      exact ⟨n, n6, by rw [hk 51 _ (by omega)]; exact e1⟩
    · rw [hk 47 _ (by omega)]; exact (hI.1 t ht).2.1.2.2.2.2.1
    · rw [hk 38 _ (by omega), hk 39 _ (by omega)]; exact hI.2.2.2.1 t ht
  have hPN : zPN f M Z W Q := hPNf f (fun _ _ _ => rfl)
  rcases htl with rfl | ⟨a, rfl⟩ | ⟨a, b, rfl⟩
  all_goals
    refine zb ?_
    refine h_play hc hI (fun h5 => ?_) (fun h5 F h hM hU => ?_)
    · refine q_play (N := N) hI.2.1.2.2.2.2.2.2.1 hI.2.1.2.2.2.2.2.1 hPN (fun _ => ?_) (fun w => by omega)
      refine q_thrown ?_
      refine zb ?_
      refine zb ?_
      exact hnx _ _ _ _ _ _ ⟨_, _, _, _, _, _, _, hI.thr⟩ (by omega) (by omega) (by omega) (by first | exact Or.inr (Or.inl ⟨_, rfl⟩) | exact Or.inr (Or.inr ⟨_, _, rfl⟩))
    · have hPN' : zPN F M Z W Q := hPNf F hM
      refine q_play (N := N) (f := F) hI.2.1.2.2.2.2.2.2.1 (by rw [hM _ _ (by decide)]; exact hI.2.1.2.2.2.2.2.1) hPN' (fun w => by omega) (fun _ s9 n h9 => ?_)
      obtain ⟨en, l2, α2, hI2⟩ := hU s9 n h9
      have key : zINV s9 s9 (N + 1) l2 α2 M Z W Q := hI2.cg (zPlay_c h9) (fun _ _ _ _ => rfl)
      refine q_thrown ?_
      refine zip (show s9 (30, 0, 0) 0 = nI 0 from zPlay_thr h9) ?_
      refine zb ?_
      refine zip (show lg_cmp (nI h).toInt64 (nI n).toInt64 = 0 from (by rw [en]; exact lg_self _)) ?_
      refine zb ?_
      exact hnx _ _ _ _ _ _ ⟨_, _, _, _, _, _, _, key⟩ (by omega) (by omega) (by omega) (by first | exact Or.inr (Or.inl ⟨_, rfl⟩) | exact Or.inr (Or.inr ⟨_, _, rfl⟩))
theorem J_played (hI : zIv f) (htl : zt2 tl) (hnx : zNx L xs c s i K) : zT (some (L, xs)) 124 463 cl (zLL i tl) [] (zN c s f g) K := by
  obtain ⟨N, l, α, M, Z, W, Q, hI⟩ := hI
  rcases htl with rfl | ⟨a, rfl⟩ | ⟨a, b, rfl⟩
  all_goals
    refine zb ?_
    refine p_played ?_
    refine q_played ?_
    refine zip (show f (0, 0, 0) 8 = f (30, 0, 0) 1 from hI.2.1.2.2.2.2.1.trans hI.2.1.2.2.2.2.2.1.symm) ?_
    exact hnx _ _ _ _ _ _ ⟨_, _, _, _, _, _, _, hI.thr⟩ (by omega) (by omega) (by omega) (by first | exact Or.inl rfl | exact Or.inr (Or.inl ⟨_, rfl⟩) | exact Or.inr (Or.inr ⟨_, _, rfl⟩))
theorem J_missed (hI : zIv f) (htl : zt2 tl) (hnx : zNx L xs c s i K) : zT (some (L, xs)) 124 828 cl (zLL i tl) [] (zN c s f g) K := by
  obtain ⟨N, l, α, M, Z, W, Q, hI⟩ := hI
  rcases htl with rfl | ⟨a, rfl⟩ | ⟨a, b, rfl⟩
  all_goals
    refine zb ?_
    refine p_missed ?_
    refine q_missed ?_
    refine zip (show f (0, 0, 0) 9 = f (30, 0, 0) 2 from hI.2.1.2.2.2.2.2.2.2) ?_
    exact hnx _ _ _ _ _ _ ⟨_, _, _, _, _, _, _, hI.thr⟩ (by omega) (by omega) (by omega) (by first | exact Or.inl rfl | exact Or.inr (Or.inl ⟨_, rfl⟩) | exact Or.inr (Or.inr ⟨_, _, rfl⟩))
end LW2
