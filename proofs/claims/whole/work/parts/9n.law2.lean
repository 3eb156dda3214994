/-! The law: one call of each kind, by both -/
def zIv (f : zM) : Prop := ∃ N l α M Z W Q, zINV f f N l α M Z W Q
def zt2 (tl : zL) : Prop := tl = [] ∨ (∃ a, tl = [a]) ∨ ∃ a b, tl = [a, b]
abbrev zLL (i : Nat) (tl : zL) : zL := some (.inr (.inl (98, 0, 0))) :: zsu :: zmo :: zout :: some (.inl (nI i)) :: tl
theorem zIv.thr {f : zM} {v : Int32} (h : zIv f) : zIv (zup f (30, 0, 0) 0 v) := by
  obtain ⟨N, l, α, M, Z, W, Q, h⟩ := h
  exact ⟨N, l, α, M, Z, W, Q, h.thr⟩
theorem zpc_mc {R S : Nat → Int32} {t b : Nat} (h0 : ¬ R 0 = nI t) (h : ∀ j, j < 30 → R j = S (b + j)) : ∀ n, n ≤ 29 → zpc R t (n + 1) = zmc S (nI t) (b + 1) n
  | 0, _ => by
    show zpc R t 0 + _ = 0
    rw [if_neg h0]; rfl
  | n + 1, hn => by
    have ih := zpc_mc h0 h n (by omega)
    show zpc R t (n + 1) + (if R (n + 1) = nI t then 1 else 0) = zmc S (nI t) (b + 1) n + (if S (b + 1 + n) = nI t then 1 else 0)
    rw [ih, h (n + 1) (by omega), show b + (n + 1) = b + 1 + n by omega]
theorem zter_eq {f : zM} {N : Nat} {l : Nat → List Nat} {α : Nat → zAt} {M : Nat → Nat} {Z : Nat → Nat → Nat} {W Q : Nat → Nat} (hI : zINV f f N l α M Z W Q) {t w : Nat} (ht : t < 5) (hw : w ≤ 6) {v : Int32} (hv : zterV f M Z t w v) : zterA f l α (fun t => nI (M t)) t w = v := by
  obtain ⟨⟨a1, a2, a3, a4, a5, a6, a7⟩, ao, c, d, -, -⟩ := (hI.1 t ht).1
  match w, hw, hv with
  | 0, _, hv => rw [show v = f (31, 0, 0) t from hv]; exact a4
  | 1, _, hv =>
    have hv : v = if f (31, 0, 0) t = nI 1 then f (32, 0, 0) t else zK (-1) := hv
    show (if f (3, t, 0) 4 = nI 1 then f (3, t, 0) 5 else zK (-1)) = v
    rw [hv, a4]
    by_cases q : f (31, 0, 0) t = nI 1
    · rw [if_pos q, if_pos q]; exact a5 q
    · rw [if_neg q, if_neg q]
  | 2, _, hv => rw [show v = f (33, 0, 0) t from hv]; exact ao
  | 3, _, hv =>
    have hv : v = nI (zmc (f (41, 0, 0)) (nI 1) (366 * t) 366) := hv
    show nI ((l t).length - zcu (α t) (l t)) = v
    rw [hv, d.fresh]
  | 4, _, hv =>
    have hv : v = nI (zmc (f (41, 0, 0)) (nI 2) (366 * t) 366) := hv
    show nI (zcu (α t) (l t)) = v
    rw [hv, d.cu]
  | 5, _, hv =>
    obtain ⟨b, hb, hv⟩ := (hv : ∃ b, zBs f t (M t) (Z t) b ∧ v = nI b)
    show zbs0 (α t) (l t) (nI (M t)) = v
    rw [hv]
    exact d.base hb (fun d a b => (c.2.2 d a b).2.2) c.2.1
  | 6, _, hv => rw [show v = f (37, 0, 0) t from hv]; exact a7
  | n + 7, h, _ => omega
theorem zcen_eq {f : zM} {N : Nat} {l : Nat → List Nat} {α : Nat → zAt} {M : Nat → Nat} {Z : Nat → Nat → Nat} {W Q : Nat → Nat} (hI : zINV f f N l α M Z W Q) {t w : Nat} (ht : t < 5) (hw : w ≤ 4) : zcen f t w = zcenM f t w := by
  obtain ⟨a, -, c, -⟩ := (hI.1 t ht).2.1
  match w, hw with
  | 0, _ =>
    show (if f (7, t, 0) 0 = 0 then nI 0 else nI 1) = if f (44, 0, 0) t = 0 then nI 0 else nI 1
    rw [c]
  | 1, _ => exact a.1
  | 2, _ => exact a.2.1
  | 3, _ => exact a.2.2.1
  | 4, _ => exact a.2.2.2.1
  | n + 5, h => omega
section LW
variable {L : Nat} {xs : Nat → Int32} {c s i : Nat} {f : zM} {g : zW} {K : zR → Prop} {cl : Bool} {tl : zL}
theorem zrd (hL : L ≤ 2048) {k : Nat} (hi : i + k < L) : ¬ (nI i + nI k < 0 ∨ L ≤ (nI i + nI k).toNatClampNeg) := by
  rw [nI_add]; exact nI_in (N := L) hi (by omega)
theorem zr5 {y : Int32} (h : 0 ≤ y ∧ y ≤ 5) : ∃ a, a ≤ 5 ∧ y = nI a := by
  obtain ⟨h1, h2⟩ := h
  rw [Int32.le_iff_toInt_le] at h1 h2
  have e0 : (0 : Int32).toInt = 0 := rfl
  have e5 : (5 : Int32).toInt = 5 := rfl
  refine ⟨y.toInt.toNat, by omega, ?_⟩
  rw [← Int32.toInt_inj, nI_toInt (by omega)]
  omega
theorem zr4 {y : Int32} (h : 1 ≤ y ∧ y ≤ 4) : ∃ a, 1 ≤ a ∧ a ≤ 4 ∧ y = nI a := by
  obtain ⟨h1, h2⟩ := h
  rw [Int32.le_iff_toInt_le] at h1 h2
  have e0 : (1 : Int32).toInt = 1 := rfl
  have e5 : (4 : Int32).toInt = 4 := rfl
  refine ⟨y.toInt.toNat, by omega, by omega, ?_⟩
  rw [← Int32.toInt_inj, nI_toInt (by omega)]
  omega
/-- what comes behind a call -/
def zNx (L : Nat) (xs : Nat → Int32) (c s i : Nat) (K : zR → Prop) : Prop := ∀ c' s' f' g' cl tl, zIv f' → c ≤ c' → c' ≤ c + 1 → s' ≤ s + 6 → zt2 tl → zT (some (L, xs)) 124 841 cl (zLL i tl) [] (zN c' s' f' g') K
theorem J_rates (hL : L ≤ 2048) (hi : i + 4 ≤ L) (hc : 258 ≤ c) (hI : zIv f) (htl : zt2 tl) (hnx : zNx L xs c s i K) : zT (some (L, xs)) 124 104 cl (zLL i tl) [] (zN c s f g) K := by
  obtain ⟨N, l, α, M, Z, W, Q, hI⟩ := hI
  have e1 := zrd (L := L) (i := i) hL (k := 1) (by omega)
  have e2 := zrd (L := L) (i := i) hL (k := 2) (by omega)
  have e3 := zrd (L := L) (i := i) hL (k := 3) (by omega)
  rcases htl with rfl | ⟨a, rfl⟩ | ⟨a, b, rfl⟩
  all_goals
    refine zb ?_
    refine zin e1 ?_
    refine zin e2 ?_
    refine zin e3 ?_
    refine h_rates hc (fun t ht ex hy hz => ?_) (fun hno => ?_)
    · refine zin e1 ?_
      refine zin e2 ?_
      refine zin e3 ?_
      refine q_rates (fun t' ht' ex' hy' hz' => ?_) (fun hno => absurd ⟨by rw [ex]; exact zter_of ht, hy, hz⟩ hno)
      have et : t' = t := (nI_eq (by omega) (by omega)).mp (ex'.symm.trans ex)
      subst et
      obtain ⟨ay, hay, eay⟩ := zr5 hy
      obtain ⟨az, haz1, haz, eaz⟩ := zr4 hz
      have key := u_rates hI ht hay haz1 haz
      rw [← eay, ← eaz] at key
      refine q_thrown ?_
      refine zip (show zup (zup (zup (zup (zup f (3, t', 0) 0 _) (3, t', 0) 1 _) (30, 0, 0) 0 (nI 0)) (38, 0, 0) t' _) (39, 0, 0) t' _ (30, 0, 0) 0 = nI 0 by rw [zup_nk (by decide), zup_nk (by decide), zup_eq]) ?_
      refine zb ?_
      exact hnx _ _ _ _ _ _ ⟨_, _, _, _, _, _, _, key⟩ (by omega) (by omega) (by omega) (by first | exact Or.inr (Or.inl ⟨_, rfl⟩) | exact Or.inr (Or.inr ⟨_, _, rfl⟩))
    · refine zin e1 ?_
      refine zin e2 ?_
      refine zin e3 ?_
      refine q_rates (fun t' ht' ex' hy' hz' => absurd ⟨by rw [ex']; exact zter_of ht', hy', hz'⟩ hno) (fun _ => ?_)
      refine q_thrown ?_
      refine zb ?_
      exact hnx _ _ _ _ _ _ ⟨_, _, _, _, _, _, _, hI.thr⟩ (by omega) (by omega) (by omega) (by first | exact Or.inr (Or.inl ⟨_, rfl⟩) | exact Or.inr (Or.inr ⟨_, _, rfl⟩))
theorem J_drift (hL : L ≤ 2048) (hi : i + 4 ≤ L) (hc : 258 ≤ c) (hI : zIv f) (htl : zt2 tl) (hnx : zNx L xs c s i K) : zT (some (L, xs)) 124 255 cl (zLL i tl) [] (zN c s f g) K := by
  obtain ⟨N, l, α, M, Z, W, Q, hI⟩ := hI
  have e1 := zrd (L := L) (i := i) hL (k := 1) (by omega)
  have e2 := zrd (L := L) (i := i) hL (k := 2) (by omega)
  rcases htl with rfl | ⟨a, rfl⟩ | ⟨a, b, rfl⟩
  all_goals
    refine zb ?_
    refine zin e1 ?_
    refine zin e2 ?_
    refine h_drift hc (fun t ht ex hy => ?_) (fun hno => ?_)
    · refine zin e1 ?_
      refine zin e2 ?_
      refine q_drift (fun t' ht' ex' hy' => ?_) (fun hno => absurd ⟨by rw [ex]; exact zter_of ht, hy⟩ hno)
      have et : t' = t := (nI_eq (by omega) (by omega)).mp (ex'.symm.trans ex)
      subst et
      have key := u_drift (y := xs (nI i + nI 2).toNatClampNeg) hI ht
      refine q_thrown ?_
      refine zip (show zup (zup (zup f (3, t', 0) 3 _) (30, 0, 0) 0 (nI 0)) (34, 0, 0) t' _ (30, 0, 0) 0 = nI 0 by rw [zup_nk (by decide), zup_eq]) ?_
      refine zb ?_
      exact hnx _ _ _ _ _ _ ⟨_, _, _, _, _, _, _, key⟩ (by omega) (by omega) (by omega) (by first | exact Or.inr (Or.inl ⟨_, rfl⟩) | exact Or.inr (Or.inr ⟨_, _, rfl⟩))
    · refine zin e1 ?_
      refine zin e2 ?_
      refine q_drift (fun t' ht' ex' hy' => absurd ⟨by rw [ex']; exact zter_of ht', hy'⟩ hno) (fun _ => ?_)
      refine q_thrown ?_
      refine zb ?_
      exact hnx _ _ _ _ _ _ ⟨_, _, _, _, _, _, _, hI.thr⟩ (by omega) (by omega) (by omega) (by first | exact Or.inr (Or.inl ⟨_, rfl⟩) | exact Or.inr (Or.inr ⟨_, _, rfl⟩))
theorem J_lose (hL : L ≤ 2048) (hi : i + 4 ≤ L) (hc : 258 ≤ c) (hI : zIv f) (htl : zt2 tl) (hnx : zNx L xs c s i K) : zT (some (L, xs)) 124 371 cl (zLL i tl) [] (zN c s f g) K := by
  obtain ⟨N, l, α, M, Z, W, Q, hI⟩ := hI
  have e1 := zrd (L := L) (i := i) hL (k := 1) (by omega)
  have e2 := zrd (L := L) (i := i) hL (k := 2) (by omega)
  rcases htl with rfl | ⟨a, rfl⟩ | ⟨a, b, rfl⟩
  all_goals
    refine zb ?_
    refine zin e1 ?_
    refine zin e2 ?_
    refine h_lose hc (fun sl ca h1 h2 ex ey => ?_) (fun hno => ?_)
    · refine zin e1 ?_
      refine zin e2 ?_
      refine q_lose (fun sl' ca' h1' h2' ex' ey' => ?_) (fun hno => absurd (by rw [ex, ey]; exact zslo_of h1 h2) hno)
      have es : sl' = sl := (nI_eq (by omega) (by omega)).mp (ex'.symm.trans ex)
      have ec : ca' = ca := (nI_eq (by omega) (by omega)).mp (ey'.symm.trans ey)
      subst es ec
      have key := u_lose (q := sl' * 3 + ca') hI (by omega)
      refine q_thrown ?_
      refine zip (show zup (zup (zup f (20, 0, 0) (sl' * 3 + ca') 1) (30, 0, 0) 0 (nI 0)) (58, 0, 0) (3 * sl' + ca') (nI 1) (30, 0, 0) 0 = nI 0 by rw [zup_nk (by decide), zup_eq]) ?_
      refine zb ?_
      rw [show 3 * sl' + ca' = sl' * 3 + ca' by omega]
      exact hnx _ _ _ _ _ _ ⟨_, _, _, _, _, _, _, key⟩ (by omega) (by omega) (by omega) (by first | exact Or.inr (Or.inl ⟨_, rfl⟩) | exact Or.inr (Or.inr ⟨_, _, rfl⟩))
    · refine zin e1 ?_
      refine zin e2 ?_
      refine q_lose (fun sl' ca' h1' h2' ex' ey' => absurd (by rw [ex', ey']; exact zslo_of h1' h2') hno) (fun _ => ?_)
      refine q_thrown ?_
      refine zb ?_
      exact hnx _ _ _ _ _ _ ⟨_, _, _, _, _, _, _, hI.thr⟩ (by omega) (by omega) (by omega) (by first | exact Or.inr (Or.inl ⟨_, rfl⟩) | exact Or.inr (Or.inr ⟨_, _, rfl⟩))
end LW
