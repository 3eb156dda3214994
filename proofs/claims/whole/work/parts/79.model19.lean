/-! The reference: giving places -/
theorem nI_rem {a b : Nat} (ha : a < 2 ^ 31) (hb : b < 2 ^ 31) : nI a - nI a / nI b * nI b = nI (a % b) := by
  rw [nI_div ha hb, nI_mul, nI_sub (Nat.div_mul_le_self a b)]
  congr 1
  have := Nat.div_add_mod a b
  rw [Nat.mul_comm] at this
  omega
def zcaJ (R : Nat → Int32) (t k j : Nat) : Prop := R j = nI t ∧ (j / 3 = k / 3 ∨ (j / 3 + 1 = k / 3 ∧ j % 3 ≠ k % 3))
def zcaP (R : Nat → Int32) (t k n : Nat) : Prop := ∀ j, 1 ≤ j → j ≤ n → ¬ zcaJ R t k j
theorem zcaP_st {R : Nat → Int32} {t k n : Nat} : zcaP R t k (n + 1) ↔ zcaP R t k n ∧ ¬ zcaJ R t k (n + 1) := by
  constructor
  · exact fun h => ⟨fun j a b => h j a (by omega), h (n + 1) (by omega) (by omega)⟩
  · rintro ⟨h1, h2⟩ j a b
    by_cases q : j = n + 1
    · rw [q]; exact h2
    · exact h1 j a (by omega)
noncomputable def zcaB (R : Nat → Int32) (D : Nat → Nat) (t k : Nat) : Bool := @decide (0 < D t ∧ zcaP R t k (k - 1)) (Classical.propDecidable _)
def zgbc (D : Nat → Nat) (b : Option Nat) (t : Nat) : Bool := match b with
  | none => true
  | some b => decide (D b ≤ D t)
noncomputable def zgb1 (R : Nat → Int32) (D : Nat → Nat) (k : Nat) (b : Option Nat) (t : Nat) : Option Nat := bif zcaB R D t k && zgbc D b t then some t else b
noncomputable def zgbN (R : Nat → Int32) (D : Nat → Nat) (k : Nat) : Nat → Option Nat → Option Nat
  | 0, b => b
  | r + 1, b => zgbN R D k r (zgb1 R D k b r)
noncomputable def zgM (w : zRD) (k : Nat) : zRD := match zgbN w.1 w.2 k 5 none with
  | none => ((fun j => if j = k then zK (-1) else w.1 j), w.2)
  | some x => ((fun j => if j = k then nI x else w.1 j), zfu w.2 x (w.2 x - 1))
theorem zgb1_lt {R : Nat → Int32} {D : Nat → Nat} {k : Nat} {b : Option Nat} {t : Nat} (ht : t < 5) (hb : ∀ x, b = some x → x < 5 ∧ 0 < D x) : ∀ x, zgb1 R D k b t = some x → x < 5 ∧ 0 < D x := by
  intro x hx
  unfold zgb1 at hx
  cases hc : zcaB R D t k with
  | false => rw [hc] at hx; exact hb x hx
  | true =>
    have hd : 0 < D t := (@of_decide_eq_true _ (Classical.propDecidable _) hc).1
    rw [hc] at hx
    cases hq : zgbc D b t with
    | false => rw [hq] at hx; exact hb x hx
    | true =>
      rw [hq] at hx
      have : t = x := Option.some.inj hx
      subst this
      exact ⟨ht, hd⟩
theorem zgbN_lt {R : Nat → Int32} {D : Nat → Nat} {k : Nat} : ∀ (r : Nat), r ≤ 5 → ∀ {b : Option Nat}, (∀ x, b = some x → x < 5 ∧ 0 < D x) → ∀ x, zgbN R D k r b = some x → x < 5 ∧ 0 < D x
  | 0, _, b, hb => hb
  | r + 1, hr, b, hb => zgbN_lt r (by omega) (zgb1_lt (by omega) hb)
def zGM (f0 : zM) (row : Nat) (f : zM) (R : Nat → Int32) (D : Nat → Nat) : Prop := (∀ x k, x ≠ (55, 0, 0) → x ≠ (63, 0, 0) → f x k = f0 x k) ∧ (∀ j, j < 30 * row ∨ 30 * row + 30 ≤ j → f (55, 0, 0) j = f0 (55, 0, 0) j) ∧ (∀ j, j < 30 → f (55, 0, 0) (30 * row + j) = R j) ∧ ∀ t, t < 5 → f (63, 0, 0) t = nI (D t) ∧ D t ≤ 9
section MO19
variable {sc : zC} {c s : Nat} {f f0 : zM} {g : zW} {K : zR → Prop} {row : Nat} {R : Nat → Int32} {D : Nat → Nat}
theorem q_can_loop {t k : Nat} (hr : row < 2) (hk : k < 30) (hG : zGM f0 row f R D) (r : Nat) : ∀ {n : Nat} {x : Int32} {lv : zL}, n + 1 + r = k → ((x = nI 1 ∧ 0 < D t ∧ zcaP R t k n) ∨ (x = nI 0 ∧ ¬ (0 < D t ∧ zcaP R t k n))) → (lv = [] ∨ ∃ v, lv = [v]) → (zcaB R D t k = true → K (.inl (some (.inl (nI 1))), zN c s f g)) → (zcaB R D t k = false → K (.inl (some (.inl (nI 0))), zN c s f g)) → zT sc 52 24 true (zmo :: some (.inl (nI row)) :: some (.inl (nI t)) :: some (.inl (nI k)) :: some (.inl x) :: some (.inl (nI (k / 3))) :: some (.inl (nI (n + 1))) :: lv) [] (zN c s f g) K := by
  induction r with
  | zero =>
    intro n x lv hn hx hlv k1 k0
    have e : n + 1 = k := by omega
    rcases hx with ⟨rfl, hx⟩ | ⟨rfl, hx⟩
    · have h := k1 (@decide_eq_true _ (Classical.propDecidable _) (by rw [← e]; rw [← e] at hx; exact hx))
      rcases hlv with rfl | ⟨v, rfl⟩
      all_goals
        refine zb ?_
        refine zip (nI_le (a := k) (b := n + 1) (by omega) (by omega)) ?_
        refine zb ?_
        exact h
    · have h := k0 (@decide_eq_false _ (Classical.propDecidable _) (by rw [← e]; rw [← e] at hx; exact hx))
      rcases hlv with rfl | ⟨v, rfl⟩
      all_goals
        refine zb ?_
        refine zip (nI_le (a := k) (b := n + 1) (by omega) (by omega)) ?_
        refine zb ?_
        exact h
  | succ r ih =>
    intro n x lv hn hx hlv k1 k0
    have hin : ¬ (nI 30 * nI row + nI (n + 1) < 0 ∨ 60 ≤ (nI 30 * nI row + nI (n + 1)).toNatClampNeg) := by
      rw [zrw_e]; exact nI_in (N := 60) (by omega) (by decide)
    have ec : f (55, 0, 0) (nI 30 * nI row + nI (n + 1)).toNatClampNeg = R (n + 1) := by rw [zrw_e, nI_clamp (by omega)]; exact hG.2.2.1 (n + 1) (by omega)
    have h98 : ∀ y v, ((y = nI 1 ∧ 0 < D t ∧ zcaP R t k (n + 1)) ∨ (y = nI 0 ∧ ¬ (0 < D t ∧ zcaP R t k (n + 1)))) → zT sc 52 98 true [zmo, some (.inl (nI row)), some (.inl (nI t)), some (.inl (nI k)), some (.inl x), some (.inl (nI (k / 3))), some (.inl (nI (n + 1))), v] [.inl y] (zN c s f g) K := fun y v hy => by
      have h := ih (n := n + 1) (lv := [v]) (by omega) hy (Or.inr ⟨v, rfl⟩) k1 k0
      rw [← nI_add (n + 1) 1] at h
      refine zb ?_
      exact h
    have h97 : ∀ v, ¬ (0 < D t ∧ zcaP R t k (n + 1)) → zT sc 52 97 true [zmo, some (.inl (nI row)), some (.inl (nI t)), some (.inl (nI k)), some (.inl x), some (.inl (nI (k / 3))), some (.inl (nI (n + 1))), v] [] (zN c s f g) K := fun v w => by
      refine zb ?_
      exact h98 _ _ (Or.inr ⟨rfl, w⟩)
    have h93 : ∀ v, (0 < D t ∧ zcaP R t k (n + 1)) → zT sc 52 93 true [zmo, some (.inl (nI row)), some (.inl (nI t)), some (.inl (nI k)), some (.inl x), some (.inl (nI (k / 3))), some (.inl (nI (n + 1))), v] [] (zN c s f g) K := fun v w => by
      refine zb ?_
      exact h98 _ _ (Or.inl ⟨rfl, w⟩)
    have d3 : nI (n + 1) / nI 3 = nI ((n + 1) / 3) := nI_div (by omega) (by decide)
    have r3 : nI (n + 1) - nI (n + 1) / nI 3 * nI 3 = nI ((n + 1) % 3) := nI_rem (by omega) (by decide)
    have rk3 : nI k - nI k / nI 3 * nI 3 = nI (k % 3) := nI_rem (by omega) (by decide)
    have h51 : ∀ y {lv : zL}, ((y = nI 1 ∧ R (n + 1) = nI t) ∨ (y = nI 0 ∧ ¬ R (n + 1) = nI t)) → (lv = [] ∨ ∃ v, lv = [v]) → zT sc 52 51 true (zmo :: some (.inl (nI row)) :: some (.inl (nI t)) :: some (.inl (nI k)) :: some (.inl x) :: some (.inl (nI (k / 3))) :: some (.inl (nI (n + 1))) :: lv) [.inl y] (zN c s f g) K := fun y lv hy hl => by
      rcases hx with ⟨rfl, hx⟩ | ⟨rfl, hx⟩
      · rcases hy with ⟨rfl, hy⟩ | ⟨rfl, hy⟩
        · have hJ : zcaJ R t k (n + 1) ↔ ((n + 1) / 3 = k / 3 ∨ ((n + 1) / 3 + 1 = k / 3 ∧ (n + 1) % 3 ≠ k % 3)) := ⟨fun w => w.2, fun w => ⟨hy, w⟩⟩
          rcases hl with rfl | ⟨v, rfl⟩
          all_goals
            refine zb ?_
            refine zif (fun q => ?_) (fun q => ?_)
            · have q : nI (n + 1) / nI 3 = nI (k / 3) := q
              rw [d3] at q
              have q := (nI_eq (by omega) (by omega)).mp q
              exact h97 _ (fun w => (zcaP_st.mp w.2).2 (hJ.mpr (Or.inl q)))
            · have q : ¬ nI (n + 1) / nI 3 = nI (k / 3) := q
              rw [d3] at q
              have q : ¬ (n + 1) / 3 = k / 3 := fun w => q (by rw [w])
              refine zif (fun q2 => ?_) (fun q2 => ?_)
              · have q2 : nI (n + 1) / nI 3 = nI (k / 3) - nI 1 := q2
                rw [d3] at q2
                have q2 := (nI_subE _ _ _ (by omega) (by omega)).mp q2
                refine zif (fun q3 => ?_) (fun q3 => ?_)
                · have q3 : nI (n + 1) - nI (n + 1) / nI 3 * nI 3 = nI k - nI k / nI 3 * nI 3 := q3
                  rw [r3, rk3] at q3
                  have q3 := (nI_eq (by omega) (by omega)).mp q3
                  refine h93 _ ⟨hx.1, zcaP_st.mpr ⟨hx.2, fun w => ?_⟩⟩
                  rcases hJ.mp w with w | w
                  · exact q w
                  · exact w.2 q3
                · have q3 : ¬ nI (n + 1) - nI (n + 1) / nI 3 * nI 3 = nI k - nI k / nI 3 * nI 3 := q3
                  rw [r3, rk3] at q3
                  exact h97 _ (fun w => (zcaP_st.mp w.2).2 (hJ.mpr (Or.inr ⟨q2, fun w => q3 (by rw [w])⟩)))
              · have q2 : ¬ nI (n + 1) / nI 3 = nI (k / 3) - nI 1 := q2
                rw [d3] at q2
                refine h93 _ ⟨hx.1, zcaP_st.mpr ⟨hx.2, fun w => ?_⟩⟩
                rcases hJ.mp w with w | w
                · exact q w
                · exact q2 ((nI_subE _ _ _ (by omega) (by omega)).mpr w.1)
        · rcases hl with rfl | ⟨v, rfl⟩
          all_goals
            refine zb ?_
            exact h93 _ ⟨hx.1, zcaP_st.mpr ⟨hx.2, fun w => hy w.1⟩⟩
      · rcases hl with rfl | ⟨v, rfl⟩
        all_goals
          refine zb ?_
          exact h97 _ (fun w => hx ⟨w.1, (zcaP_st.mp w.2).1⟩)
    rcases hlv with rfl | ⟨v, rfl⟩
    all_goals
      refine zb ?_
      refine zin (nI_ge (a := n + 1) (b := k) (by omega) (by omega)) ?_
      refine zin hin ?_
      refine zif (fun q => ?_) (fun q => ?_)
      · have q : f (55, 0, 0) (nI 30 * nI row + nI (n + 1)).toNatClampNeg = nI t := q
        rw [ec] at q
        exact h51 _ (Or.inl ⟨rfl, q⟩) (by first | exact Or.inl rfl | exact Or.inr ⟨_, rfl⟩)
      · have q : ¬ f (55, 0, 0) (nI 30 * nI row + nI (n + 1)).toNatClampNeg = nI t := q
        rw [ec] at q
        refine zb ?_
        exact h51 _ (Or.inr ⟨rfl, q⟩) (by first | exact Or.inl rfl | exact Or.inr ⟨_, rfl⟩)
theorem q_can {t k : Nat} (hr : row < 2) (ht : t < 5) (h1 : 1 ≤ k) (hk : k < 30) (hG : zGM f0 row f R D) (k1 : zcaB R D t k = true → K (.inl (some (.inl (nI 1))), zN c s f g)) (k0 : zcaB R D t k = false → K (.inl (some (.inl (nI 0))), zN c s f g)) : zT sc 52 0 true [zmo, some (.inl (nI row)), some (.inl (nI t)), some (.inl (nI k))] [] (zN c s f g) K := by
  obtain ⟨g1, g2⟩ := hG.2.2.2 t ht
  have d3 : nI k / nI 3 = nI (k / 3) := nI_div (by omega) (by decide)
  have h14 : ∀ x, ((x = nI 1 ∧ 0 < D t) ∨ (x = nI 0 ∧ ¬ 0 < D t)) → zT sc 52 14 true [zmo, some (.inl (nI row)), some (.inl (nI t)), some (.inl (nI k))] [.inl x] (zN c s f g) K := fun x hx => by
    have h := q_can_loop (sc := sc) (K := K) (c := c) (s := s) (g := g) (t := t) (k := k) (x := x) (lv := []) hr hk hG (k - 1) (n := 0) (by omega) (by
      rcases hx with ⟨a, b⟩ | ⟨a, b⟩
      · exact Or.inl ⟨a, b, fun j p q => by omega⟩
      · exact Or.inr ⟨a, fun w => b w.1⟩) (Or.inl rfl) k1 k0
    rw [← d3] at h
    refine zb ?_
    exact h
  refine zb ?_
  refine zin (nI_in (N := 5) ht (by decide)) ?_
  rw [nI_clamp (show t < 2 ^ 31 by omega)]
  by_cases q : 0 < D t
  · refine zin (show ¬ f (63, 0, 0) t ≤ 0 by rw [g1]; exact nI_nle q (by omega)) ?_
    exact h14 _ (Or.inl ⟨rfl, q⟩)
  · refine zip (show f (63, 0, 0) t ≤ 0 by rw [g1, show D t = 0 by omega, nI_0]; decide) ?_
    refine zb ?_
    exact h14 _ (Or.inr ⟨rfl, q⟩)
theorem q_gp_loop {k : Nat} (hr : row < 2) (h1 : 1 ≤ k) (hk : k < 30) (hG : zGM f0 row f R D) (r : Nat) : ∀ {b : Option Nat} {cl : Bool}, r ≤ 5 → (∀ x, b = some x → x < 5) → (∀ cl, zT sc 53 72 cl [zmo, some (.inl (nI row)), some (.inl (nI k)), some (.inl (zopt (zgbN R D k r b))), some (.inl (zK (-1)))] [] (zN c s f g) K) → zT sc 53 23 cl [zmo, some (.inl (nI row)), some (.inl (nI k)), some (.inl (zopt b)), some (.inl (zdn r))] [] (zN c s f g) K := by
  induction r with
  | zero =>
    intro b cl hr' hb hK
    refine zb ?_
    exact hK _
  | succ r ih =>
    intro b cl hr' hb hK
    obtain ⟨g1, g2⟩ := hG.2.2.2 r (by omega)
    have h65 : ∀ cl b' x, b' = zgb1 R D k b r → x = zopt b' → zT sc 53 65 cl [zmo, some (.inl (nI row)), some (.inl (nI k)), some (.inl (zopt b)), some (.inl (nI r))] [.inl x] (zN c s f g) K := fun cl b' x hb' hx => by
      subst hx
      have h := ih (b := b') (cl := cl) (by omega) (fun x hx => by
        rw [hb'] at hx
        unfold zgb1 at hx
        cases hq : (zcaB R D r k && zgbc D b r) with
        | true =>
          rw [hq] at hx
          have : r = x := Option.some.inj hx
          omega
        | false => rw [hq] at hx; exact hb x hx) (by rw [hb']; exact hK)
      rw [← zdn_dec] at h
      refine zb ?_
      exact h
    rw [show zdn (r + 1) = nI r from rfl]
    refine zb ?_
    refine zin (show ¬ nI r < 0 from nI_pos (by omega)) ?_
    refine q_can hr (by omega) h1 hk hG (fun hc => ?_) (fun hc => ?_)
    · cases b with
      | none =>
        refine zb ?_
        exact h65 _ (some r) _ (by unfold zgb1; rw [hc]; rfl) rfl
      | some y =>
        have hy := hb y rfl
        obtain ⟨y1, y2⟩ := hG.2.2.2 y hy
        refine zin (show ¬ nI y < 0 from nI_pos (by omega)) ?_
        refine zin (nI_in (N := 5) (by omega) (by decide)) ?_
        refine zin (nI_in (N := 5) (by omega) (by decide)) ?_
        refine zif (fun q => ?_) (fun q => ?_)
        · have q : f (63, 0, 0) (nI r).toNatClampNeg < f (63, 0, 0) (nI y).toNatClampNeg := q
          rw [nI_clamp (by omega), nI_clamp (by omega), g1, y1, nI_ltI (by omega) (by omega)] at q
          refine zb ?_
          refine h65 _ (some y) _ ?_ rfl
          unfold zgb1
          rw [hc]
          show some y = bif decide (D y ≤ D r) then some r else some y
          rw [decide_eq_false (by omega)]; rfl
        · have q : ¬ f (63, 0, 0) (nI r).toNatClampNeg < f (63, 0, 0) (nI y).toNatClampNeg := q
          rw [nI_clamp (by omega), nI_clamp (by omega), g1, y1, nI_ltI (by omega) (by omega)] at q
          refine zb ?_
          refine h65 _ (some r) _ ?_ rfl
          unfold zgb1
          rw [hc]
          show some r = bif decide (D y ≤ D r) then some r else some y
          rw [decide_eq_true (by omega)]; rfl
    · refine zb ?_
      exact h65 _ b _ (by unfold zgb1; rw [hc]; rfl) rfl
end MO19
