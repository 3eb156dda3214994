/-! The reference: the centre's part of a superframe -/
def zRd (f : zM) (t k : Nat) (f' : zM) : Prop := ∃ e b o f3 m, f (47, 0, 0) t = nI e ∧ e ≤ 61 ∧ f (62, 0, 0) k = nI b ∧ b ≤ 61 ∧ f (60, 0, 0) k = zopt o ∧ (∀ i, o = some i → 366 * t + 6 ≤ i ∧ i < 366 * t + 366 ∧ ∃ n, n ≤ 6 ∧ f (40, 0, 0) (i / 6) = nI n) ∧
  ((∃ i d, o = some i ∧ i / 6 = 61 * t + d ∧ max e b ≤ d ∧ f3 = zup (zup (zpmN (zup f (45, 0, 0) t (f (61, 0, 0) k)) t e (max e b - e)) (50, 0, 0) i (nI 1)) (51, 0, 0) (61 * t + d) (f (40, 0, 0) (61 * t + d))) ∨ ((∀ i d, o = some i → i / 6 = 61 * t + d → d < max e b) ∧ f3 = zpmN (zup f (45, 0, 0) t (f (61, 0, 0) k)) t e (max e b - e))) ∧
  max e b + m ≤ 61 ∧ (∀ j, j < m → zwh f3 t (max e b + j) = true) ∧ zwh f3 t (max e b + m) = false ∧ f' = zpmN f3 t (max e b) m
def zC2 (f : zM) (row k t : Nat) : zM := zup (zup (zup (zup (zup f (56, 0, 0) (30 * row + k) (nI t)) (57, 0, 0) (30 * row + k) (if k = 0 then zK (-1) else f (60, 0, 0) k)) (46, 0, 0) t (f (30, 0, 0) 1)) (52, 0, 0) (5 * row + t) (nI 1)) (53, 0, 0) (5 * row + t) (f (33, 0, 0) t - (if f (52, 0, 0) (5 * (1 - row) + t) = 0 then nI 0 else f (53, 0, 0) (5 * (1 - row) + t)))
def zC1 (sn : Nat → Option Nat) (f : zM) (row k : Nat) (f' : zM) : Prop :=
  (zheM f sn k = false ∧ f' = zup (zup f (56, 0, 0) (30 * row + k) (zK (-1))) (57, 0, 0) (30 * row + k) (zK (-1))) ∨
  (zheM f sn k = true ∧ ∃ t, sn k = some t ∧ ((k = 0 ∧ f' = zup (zup (zup (zC2 f row k t) (44, 0, 0) t (nI 1)) (45, 0, 0) t (nI 0)) (54, 0, 0) (5 * row + t) (nI 1)) ∨ (k ≠ 0 ∧ zRd (zC2 f row k t) t k f')))
def zCN (sn : Nat → Option Nat) (f0 : zM) (row : Nat) : Nat → Nat → zM → Prop
  | 0, n, f' => n = 0 ∧ f' = f0
  | k + 1, n', f' => ∃ f1 n, zCN sn f0 row k n f1 ∧ n' = n + (bif zheM f1 sn k then 1 else 0) ∧ zC1 sn f1 row k f'
/-- what the centre's loop needs -/
def zCI (sn : Nat → Option Nat) (f : zM) : Prop := zFm f sn ∧ (∀ t, t < 5 → zTo f t) ∧ (∀ t, t < 5 → ∃ e, 1 ≤ e ∧ e ≤ 61 ∧ f (47, 0, 0) t = nI e) ∧ (∀ k, 1 ≤ k → k < 30 → ∀ t, sn k = some t → (∃ b, b ≤ 61 ∧ f (62, 0, 0) k = nI b) ∧ ∃ o, f (60, 0, 0) k = zopt o ∧ ∀ i, o = some i → 366 * t + 6 ≤ i ∧ i < 366 * t + 366 ∧ ∃ n, n ≤ 6 ∧ f (40, 0, 0) (i / 6) = nI n)
theorem zC2_ne {f : zM} {row k t j : Nat} {x : zA} (h1 : x ≠ (56, 0, 0)) (h2 : x ≠ (57, 0, 0)) (h3 : x ≠ (46, 0, 0)) (h4 : x ≠ (52, 0, 0)) (h5 : x ≠ (53, 0, 0)) : zC2 f row k t x j = f x j := by
  unfold zC2
  rw [zup_nk h5, zup_nk h4, zup_nk h3, zup_nk h2, zup_nk h1]
theorem zRd_ne {f f' : zM} {t k j : Nat} {x : zA} (h : zRd f t k f') (h1 : x ≠ (45, 0, 0)) (h2 : x ≠ (47, 0, 0)) (h3 : x ≠ (48, 0, 0)) (h4 : x ≠ (49, 0, 0)) (h5 : x ≠ (50, 0, 0)) (h6 : x ≠ (51, 0, 0)) : f' x j = f x j := by
  obtain ⟨e, b, o, f3, m, -, -, -, -, -, -, hd, -, -, -, rfl⟩ := h
  rw [zpmN_ne h2 h3 h4]
  rcases hd with ⟨i, d, -, -, -, rfl⟩ | ⟨-, rfl⟩
  · rw [zup_nk h6, zup_nk h5, zpmN_ne h2 h3 h4, zup_nk h1]
  · rw [zpmN_ne h2 h3 h4, zup_nk h1]
theorem zpm_t {f : zM} {t e j : Nat} {x : zA} (h : j ≠ t) : zpm f t e x j = f x j := by
  unfold zpm
  rw [zup_ne (fun w => h w.2)]
  cases zwh f t e
  · rfl
  · show zup (zup _ _ _ _) _ _ _ x j = _
    rw [zup_ne (fun w => h w.2), zup_ne (fun w => h w.2)]
theorem zpmN_t {t j : Nat} {x : zA} (h : j ≠ t) : ∀ (n : Nat) {f : zM} {e : Nat}, zpmN f t e n x j = f x j
  | 0, _, _ => rfl
  | n + 1, _, _ => (zpmN_t h n).trans (zpm_t h)
theorem zRd_47 {f f' : zM} {t k t' : Nat} (h : zRd f t k f') (h' : ∃ e, 1 ≤ e ∧ e ≤ 61 ∧ f (47, 0, 0) t' = nI e) : ∃ e, 1 ≤ e ∧ e ≤ 61 ∧ f' (47, 0, 0) t' = nI e := by
  obtain ⟨e, b, o, f3, m, h47, h61, h62, hb61, h60, ho, hd, hm, -, -, rfl⟩ := h
  have g : ∀ {x : Nat}, f3 (47, 0, 0) x = zpmN (zup f (45, 0, 0) t (f (61, 0, 0) k)) t e (max e b - e) (47, 0, 0) x := fun {x} => by
    rcases hd with ⟨i, d, -, -, -, rfl⟩ | ⟨-, rfl⟩
    · rw [zup_nk (by decide), zup_nk (by decide)]
    · rfl
  by_cases q : t' = t
  · subst q
    obtain ⟨e', e1, e2, e3⟩ := h'
    rw [h47] at e3
    have e3 := (nI_eq (by omega) (by omega)).mp e3
    subst e3
    refine ⟨max e b + m, by omega, hm, ?_⟩
    rw [zpmN_47 _ (show f3 (47, 0, 0) t' = nI (max e b) from ?_)]
    rw [g, zpmN_47 _ ((zup_nk (by decide)).trans h47)]
    congr 1; omega
  · obtain ⟨e', e1, e2, e3⟩ := h'
    exact ⟨e', e1, e2, by rw [zpmN_t q, g, zpmN_t q, zup_nk (by decide)]; exact e3⟩
theorem zRd_51 {f f' : zM} {t k : Nat} (h : zRd f t k f') {t' : Nat} (h' : zTo f t') : zTo f' t' := by
  obtain ⟨e, b, o, f3, m, h47, h61, h62, hb61, h60, ho, hd, hm, -, -, rfl⟩ := h
  intro x hx
  rw [zpmN_ne (by decide) (by decide) (by decide)]
  rcases hd with ⟨i, d, rfl, hi, -, rfl⟩ | ⟨-, rfl⟩
  · by_cases q : 61 * t' + x = 61 * t + d
    · obtain ⟨-, -, n, n6, hn⟩ := ho i rfl
      exact ⟨n, n6, by rw [q, zup_eq, ← hi]; exact hn⟩
    · obtain ⟨n, n6, hn⟩ := h' x hx
      exact ⟨n, n6, by rw [zup_ne (fun w => q w.2), zup_nk (by decide), zpmN_ne (by decide) (by decide) (by decide), zup_nk (by decide)]; exact hn⟩
  · obtain ⟨n, n6, hn⟩ := h' x hx
    exact ⟨n, n6, by rw [zpmN_ne (by decide) (by decide) (by decide), zup_nk (by decide)]; exact hn⟩
theorem zC1_ne {sn : Nat → Option Nat} {f f' : zM} {row k j : Nat} {x : zA} (h : zC1 sn f row k f') (hx : x = (59, 0, 0) ∨ x = (60, 0, 0) ∨ x = (61, 0, 0) ∨ x = (62, 0, 0) ∨ x = (40, 0, 0) ∨ x = (33, 0, 0) ∨ x = (58, 0, 0) ∨ x = (30, 0, 0)) : f' x j = f x j := by
  rcases h with ⟨-, rfl⟩ | ⟨-, t, -, ⟨-, rfl⟩ | ⟨-, h⟩⟩
  · rcases hx with rfl | rfl | rfl | rfl | rfl | rfl | rfl | rfl <;> rw [zup_nk (by decide), zup_nk (by decide)]
  · rcases hx with rfl | rfl | rfl | rfl | rfl | rfl | rfl | rfl <;> rw [zup_nk (by decide), zup_nk (by decide), zup_nk (by decide), zC2_ne (by decide) (by decide) (by decide) (by decide) (by decide)]
  · rcases hx with rfl | rfl | rfl | rfl | rfl | rfl | rfl | rfl <;> rw [zRd_ne h (by decide) (by decide) (by decide) (by decide) (by decide) (by decide), zC2_ne (by decide) (by decide) (by decide) (by decide) (by decide)]
theorem zCI.st {sn : Nat → Option Nat} {f f' : zM} {row k : Nat} (hI : zCI sn f) (h : zC1 sn f row k f') : zCI sn f' := by
  obtain ⟨i1, i2, i3, i4⟩ := id hI
  have h59 : ∀ {j}, f' (59, 0, 0) j = f (59, 0, 0) j := zC1_ne h (by simp)
  have h60 : ∀ {j}, f' (60, 0, 0) j = f (60, 0, 0) j := zC1_ne h (by simp)
  have h62 : ∀ {j}, f' (62, 0, 0) j = f (62, 0, 0) j := zC1_ne h (by simp)
  have h40 : ∀ {j}, f' (40, 0, 0) j = f (40, 0, 0) j := zC1_ne h (by simp)
  refine ⟨fun k hk => ?_, ?_, ?_, fun k k1 k2 t ht => ?_⟩
  · rw [h59]; exact i1 k hk
  · rcases h with ⟨-, rfl⟩ | ⟨-, t, hs, ⟨-, rfl⟩ | ⟨k0, h⟩⟩
    · exact fun t ht => (i2 t ht).cg (fun j => (zup_nk (by decide)).trans (zup_nk (by decide)))
    · exact fun t' ht => (i2 t' ht).cg (fun j => (zup_nk (by decide)).trans ((zup_nk (by decide)).trans ((zup_nk (by decide)).trans (zC2_ne (by decide) (by decide) (by decide) (by decide) (by decide)))))
    · intro t' ht
      exact zRd_51 h ((i2 t' ht).cg (fun j => zC2_ne (by decide) (by decide) (by decide) (by decide) (by decide)))
  · rcases h with ⟨-, rfl⟩ | ⟨-, t, hs, ⟨-, rfl⟩ | ⟨k0, h⟩⟩
    · exact fun t ht => by rw [zup_nk (by decide), zup_nk (by decide)]; exact i3 t ht
    · exact fun t' ht => by rw [zup_nk (by decide), zup_nk (by decide), zup_nk (by decide), zC2_ne (by decide) (by decide) (by decide) (by decide) (by decide)]; exact i3 t' ht
    · exact fun t' ht => zRd_47 h (by rw [zC2_ne (by decide) (by decide) (by decide) (by decide) (by decide)]; exact i3 t' ht)
  · rw [h62, h60]
    obtain ⟨a, o, b, c⟩ := i4 k k1 k2 t ht
    exact ⟨a, o, b, fun i hi => by rw [h40]; exact c i hi⟩
/-- the rows of the reports are cleared -/
def zc0N (f : zM) (row : Nat) : Nat → zM
  | 0 => f
  | i + 1 => zup (zup (zc0N f row i) (52, 0, 0) (5 * row + i) (nI 0)) (54, 0, 0) (5 * row + i) (nI 0)
theorem zc0N_ne {f : zM} {row j : Nat} {x : zA} (h1 : x ≠ (52, 0, 0)) (h2 : x ≠ (54, 0, 0)) : ∀ n, zc0N f row n x j = f x j
  | 0 => rfl
  | n + 1 => (zup_nk h2).trans ((zup_nk h1).trans (zc0N_ne h1 h2 n))
/-- who is silent is forgotten -/
def zc2N (f : zM) : Nat → zM
  | 0 => f
  | t + 1 => zup (zc2N f t) (44, 0, 0) t (if zc2N f t (44, 0, 0) t = 0 then nI 0 else if nI 6 < f (30, 0, 0) 1 - f (46, 0, 0) t then nI 0 else nI 1)
theorem zc2N_ne {f : zM} {j : Nat} {x : zA} (h1 : x ≠ (44, 0, 0)) : ∀ n, zc2N f n x j = f x j
  | 0 => rfl
  | n + 1 => (zup_nk h1).trans (zc2N_ne h1 n)
section MO15
variable {sc : zC} {c s : Nat} {f : zM} {g : zW} {K : zR → Prop} {row : Nat} {sn : Nat → Option Nat}
theorem q_c0_clear {n : Option zV} (hr : row < 2) (r : Nat) : ∀ {i : Nat} {cl : Bool}, i + r = 5 → (∀ cl, zT sc 49 37 cl [zmo, some (.inl (nI row)), n, some (.inl (nI 5))] [] (zN c s (zc0N f row 5) g) K) → zT sc 49 4 cl [zmo, some (.inl (nI row)), n, some (.inl (nI i))] [] (zN c s (zc0N f row i) g) K := by
  induction r with
  | zero =>
    intro i cl hi hK
    have e : i = 5 := by omega
    subst e
    refine zb ?_
    exact hK _
  | succ r ih =>
    intro i cl hi hK
    have hin : ¬ (nI 5 * nI row + nI i < 0 ∨ 10 ≤ (nI 5 * nI row + nI i).toNatClampNeg) := by
      rw [zr5_e]; exact nI_in (N := 10) (by omega) (by decide)
    have h := ih (i := i + 1) (cl := false) (by omega) hK
    rw [← nI_add] at h
    have e : zc0N f row (i + 1) = zup (zup (zc0N f row i) (52, 0, 0) (nI 5 * nI row + nI i).toNatClampNeg (nI 0)) (54, 0, 0) (nI 5 * nI row + nI i).toNatClampNeg (nI 0) := by
      rw [zr5_e, nI_clamp (by omega)]; rfl
    rw [e] at h
    refine zb ?_
    refine zin (nI_ge (a := i) (b := 5) (by omega) (by decide)) ?_
    refine zin hin ?_
    refine zin hin ?_
    exact h
theorem q_c0_in {n w : Option zV} {x : Int32} {lv : zL} (hlv : lv = [] ∨ ∃ u v, lv = [u, v]) (hx : n = some (.inl x)) (r : Nat) : ∀ {i : Nat} {cl : Bool}, i + r = 5 → K (.inl (some (.inl x)), zN c s (zc2N f 5) g) → zT sc 49 245 cl (zmo :: w :: n :: some (.inl (nI i)) :: lv) [] (zN c s (zc2N f i) g) K := by
  subst hx
  induction r with
  | zero =>
    intro i cl hi hK
    have e : i = 5 := by omega
    subst e
    rcases hlv with rfl | ⟨u, v, rfl⟩
    all_goals
      refine zb ?_
      refine zb ?_
      exact hK
  | succ r ih =>
    intro i cl hi hK
    have h := ih (i := i + 1) (cl := false) (by omega) hK
    rw [← nI_add] at h
    have e : zc2N f (i + 1) = zup (zc2N f i) (44, 0, 0) i (if zc2N f i (44, 0, 0) i = 0 then nI 0 else if nI 6 < f (30, 0, 0) 1 - f (46, 0, 0) i then nI 0 else nI 1) := rfl
    rw [e] at h
    have e1 : zc2N f i (30, 0, 0) 1 = f (30, 0, 0) 1 := zc2N_ne (by decide) i
    have e2 : zc2N f i (46, 0, 0) i = f (46, 0, 0) i := zc2N_ne (by decide) i
    rcases hlv with rfl | ⟨u, v, rfl⟩
    all_goals
      refine zb ?_
      refine zin (nI_ge (a := i) (b := 5) (by omega) (by decide)) ?_
      refine zin (nI_in (N := 5) (by omega) (by decide)) ?_
      rw [nI_clamp (show i < 2 ^ 31 by omega)]
      refine zif (fun q => ?_) (fun q => ?_)
      · have q : zc2N f i (44, 0, 0) i = 0 := q
        rw [if_pos q] at h
        refine zb ?_
        refine zb ?_
        refine zin (nI_in (N := 5) (by omega) (by decide)) ?_
        rw [nI_clamp (show i < 2 ^ 31 by omega)]
        exact h
      · have q : ¬ zc2N f i (44, 0, 0) i = 0 := q
        rw [if_neg q] at h
        refine zin (nI_in (N := 5) (by omega) (by decide)) ?_
        rw [nI_clamp (show i < 2 ^ 31 by omega)]
        refine zif (fun q2 => ?_) (fun q2 => ?_)
        · have q2 : nI 6 < zc2N f i (30, 0, 0) 1 - zc2N f i (46, 0, 0) i := q2
          rw [e1, e2] at q2
          rw [if_pos q2] at h
          refine zb ?_
          refine zb ?_
          refine zin (nI_in (N := 5) (by omega) (by decide)) ?_
          rw [nI_clamp (show i < 2 ^ 31 by omega)]
          exact h
        · have q2 : ¬ nI 6 < zc2N f i (30, 0, 0) 1 - zc2N f i (46, 0, 0) i := q2
          rw [e1, e2] at q2
          rw [if_neg q2] at h
          refine zb ?_
          refine zin (nI_in (N := 5) (by omega) (by decide)) ?_
          rw [nI_clamp (show i < 2 ^ 31 by omega)]
          exact h
end MO15
