/-! Noting and reading agree -/
def zTz (σ : zM) (t m : Nat) (z : Nat → Nat) : Prop := ∀ d, d ≤ 60 → σ (51, 0, 0) (61 * t + d) = nI 0 ∨ (1 ≤ d ∧ d ≤ m ∧ σ (51, 0, 0) (61 * t + d) = nI (z d))
/-- a burst, by both -/
def zCe (f σ : zM) (t q m : Nat) (z : Nat → Nat) : Prop := (f (19, q, 0) 3 = zK (-1) ∧ σ (60, 0, 0) q = zK (-1)) ∨ ∃ i, i < 366 ∧ zval m z i ∧ σ (60, 0, 0) q = nI (366 * t + i) ∧ f (19, q, 0) 3 = nI (i / 6) ∧ f (19, q, 0) 4 = nI (i % 6) ∧ f (19, q, 0) 5 = nI (z (i / 6))
theorem zopt_n {o : Option Nat} (h : zopt o = zK (-1)) (hb : ∀ i, o = some i → i < 2 ^ 31) : o = none := by
  cases o with
  | none => rfl
  | some i => exact absurd h (zK1 (hb i rfl))
theorem zopt_s {o : Option Nat} {j : Nat} (hj : j < 2 ^ 31) (h : zopt o = nI j) (hb : ∀ i, o = some i → i < 2 ^ 31) : o = some j := by
  cases o with
  | none => exact absurd h.symm (zK1 hj)
  | some i => rw [(nI_eq (hb i rfl) hj).mp h]
theorem zm_eq {p : Nat → Bool} {m m' : Nat} (h1 : ∀ j, j < m → p j = true) (h2 : p m = false) (h3 : ∀ j, j < m' → p j = true) (h4 : p m' = false) : m = m' := by
  rcases Nat.lt_trichotomy m m' with q | q | q
  · rw [h3 m q] at h2; cases h2
  · exact q
  · rw [h1 m' q] at h4; cases h4
section RN
variable {f σ f' σ' : zM} {t q m b e : Nat} {k : Int32} {z : Nat → Nat}
theorem zNR (h : zAc f σ t) (hT : zTz σ t m z) (hS : zSz σ t m z) (he : f (7, t, 0) 2 = nI e) (e1 : 1 ≤ e) (e61 : e ≤ 61) (hb : f (19, q, 0) 2 = nI b) (b61 : b ≤ 61) (hl : f (19, q, 0) 1 = σ (61, 0, 0) q) (hb' : f (19, q, 0) 2 = σ (62, 0, 0) q) (hC : zCe f σ t q m z) (ht : t < 5) (hN : zNp f t q k b e f') (hR : zRd σ t q σ') : zAc f' σ' t ∧ zTz σ' t m z := by
  obtain ⟨e', b', o, σ3, m', r1, r2, r3, r4, r5, ro, rd, rm, rw1, rw2, rfl⟩ := hR
  have ee : e' = e := by
    have := h.2.1
    rw [he, r1] at this
    exact ((nI_eq (by omega) (by omega)).mp this).symm
  subst ee
  have eb : b' = b := by
    rw [hb, r3] at hb'
    exact ((nI_eq (by omega) (by omega)).mp hb').symm
  subst eb
  obtain ⟨f3, mm, nd, nm, nw1, nw2, rfl⟩ := hN
  have a0 : zAc (znp1 f t q k) (zup σ (45, 0, 0) t (σ (61, 0, 0) q)) t := by
    obtain ⟨a1, a2, a3, a4, a5⟩ := h
    unfold znp1
    refine ⟨by rw [zup_eq, zup_eq, hl], ?_, ?_, ?_, fun d hd => ?_⟩
    · rw [zup_ne (fun w => absurd w.2 (by decide)), zup_ne (fun w => absurd w.2 (by decide)), zup_nk (by decide)]; exact a2
    · rw [zup_ne (fun w => absurd w.2 (by decide)), zup_ne (fun w => absurd w.2 (by decide)), zup_nk (by decide)]; exact a3
    · rw [zup_ne (fun w => absurd w.2 (by decide)), zup_ne (fun w => absurd w.2 (by decide)), zup_nk (by decide)]; exact a4
    · obtain ⟨n, n6, c1, c2, c3, c4⟩ := a5 d hd
      have hbb : ∀ k, zbit6 (zup σ (45, 0, 0) t (σ (61, 0, 0) q)) (366 * t + 6 * d) k = zbit6 σ (366 * t + 6 * d) k := fun k => by
        induction k with
        | zero => rfl
        | succ k ih => unfold zbit6; rw [ih, zup_nk (by decide)]
      refine ⟨n, n6, by rw [zup_nk (by decide)]; exact c1, by rw [zup_nk (fun w => by cases w), zup_nk (fun w => by cases w)]; exact c2, by rw [zup_nk (fun w => by cases w), zup_nk (fun w => by cases w), hbb]; exact c3, fun k hk => ?_⟩
      rw [zup_nk (by decide)]; exact c4 k hk
  have a1 : zAc (zpassN (znp1 f t q k) t e' (max e' b' - e')) (zpmN (zup σ (45, 0, 0) t (σ (61, 0, 0) q)) t e' (max e' b' - e')) t := a0.passN _ e1
  have nF : ∀ j, zpassN (znp1 f t q k) t e' (max e' b' - e') (19, q, 0) j = f (19, q, 0) j := fun j => by
    rw [zpassN_ne (Or.inl (fun w => by cases w))]
    unfold znp1
    rw [zup_nk (fun w => by cases w), zup_nk (fun w => by cases w)]
  have nS : ∀ {x : zA} {j : Nat}, x ≠ (47, 0, 0) → x ≠ (48, 0, 0) → x ≠ (49, 0, 0) → x ≠ (45, 0, 0) → zpmN (zup σ (45, 0, 0) t (σ (61, 0, 0) q)) t e' (max e' b' - e') x j = σ x j := fun h1 h2 h3 h4 => (zpmN_ne h1 h2 h3 _).trans (zup_nk h4)
  generalize zpassN (znp1 f t q k) t e' (max e' b' - e') = F at a1 nF nd
  generalize zpmN (zup σ (45, 0, 0) t (σ (61, 0, 0) q)) t e' (max e' b' - e') = S at a1 nS rd
  have hob : ∀ i, o = some i → i < 2 ^ 31 := fun i hi => by
    have := (ro i hi).2.1
    omega
  have key : zAc f3 σ3 t ∧ zTz σ3 t m z := by
    have hTS : zTz S t m z := fun d hd => by rw [nS (by decide) (by decide) (by decide) (by decide)]; exact hT d hd
    rcases hC with ⟨c1, c2⟩ | ⟨i, i366, v, c1, c2, c3, c4⟩
    · have ef : f3 = F := by
        rcases nd with ⟨d, w1, w2, w3, -⟩ | ⟨-, w⟩
        · rw [c1] at w1
          exact absurd w1.symm (zK1 (by omega))
        · exact w
      have es : σ3 = S := by
        rcases rd with ⟨i, d, w1, -, -, -⟩ | ⟨-, w⟩
        · rw [c2] at r5
          rw [zopt_n r5.symm hob] at w1
          cases w1
        · exact w
      rw [ef, es]
      exact ⟨a1, hTS⟩
    · rw [c1] at r5
      have eo := zopt_s (j := 366 * t + i) (by omega) r5.symm hob
      have ed : (366 * t + i) / 6 = 61 * t + i / 6 := by omega
      have v60 : i / 6 ≤ 60 := by omega
      by_cases hmx : max e' b' ≤ i / 6
      · have ef : f3 = znote F t q (i / 6) := by
          rcases nd with ⟨d, w1, w2, w3, w4⟩ | ⟨w, -⟩
          · rw [c2] at w1
            rw [(nI_eq (by omega) (by omega)).mp w1]; exact w4
          · exact absurd v60 (w (i / 6) c2 hmx)
        obtain ⟨z1, z2, z3⟩ := hS.2.2 (i / 6) v.1 v.2.1
        have es : σ3 = zup (zup S (50, 0, 0) (366 * t + 6 * (i / 6) + i % 6) (nI 1)) (51, 0, 0) (61 * t + i / 6) (nI (z (i / 6))) := by
          rcases rd with ⟨i', d', w1, w2, w3, w4⟩ | ⟨w, -⟩
          · rw [eo] at w1
            cases w1
            rw [ed] at w2
            have : d' = i / 6 := by omega
            subst this
            rw [w4, z1, show 366 * t + 6 * (i / 6) + i % 6 = 366 * t + i by omega]
          · exact absurd hmx (by have := w _ _ eo ed; omega)
        rw [ef, es]
        refine ⟨a1.note v60 z3 v.2.2 ((nF 4).trans c3) ((nF 5).trans c4) (fun n' n6' hn' => ?_), fun d hd => ?_⟩
        · rw [nS (by decide) (by decide) (by decide) (by decide)] at hn'
          rcases hT (i / 6) v60 with w | ⟨-, -, w⟩
          · rw [w] at hn'
            have := (nI_eq (by decide) (by omega)).mp hn'
            omega
          · rw [w] at hn'
            have := (nI_eq (by omega) (by omega)).mp hn'
            omega
        · by_cases qd : d = i / 6
          · subst qd
            exact Or.inr ⟨v.1, v.2.1, zup_eq⟩
          · rw [zup_ne (fun w => qd (by omega)), zup_nk (by decide)]
            exact hTS d hd
      · have ef : f3 = F := by
          rcases nd with ⟨d, w1, w2, w3, w4⟩ | ⟨-, w⟩
          · rw [c2] at w1
            rw [← (nI_eq (by omega) (by omega)).mp w1] at w2
            exact absurd w2 hmx
          · exact w
        have es : σ3 = S := by
          rcases rd with ⟨i', d', w1, w2, w3, w4⟩ | ⟨-, w⟩
          · rw [eo] at w1
            cases w1
            exact absurd (by omega) hmx
          · exact w
        rw [ef, es]
        exact ⟨a1, hTS⟩
  have h1m : 1 ≤ max e' b' := Nat.le_trans e1 (Nat.le_max_left _ _)
  have em : mm = m' := zm_eq (p := fun j => zcp f3 t (max e' b' + j)) nw1 nw2 (fun j hj => by
    show zcp f3 t (max e' b' + j) = true
    rw [key.1.whole (Nat.le_trans h1m (Nat.le_add_right _ _))]; exact rw1 j hj) (by
    show zcp f3 t (max e' b' + m') = false
    rw [key.1.whole (Nat.le_trans h1m (Nat.le_add_right _ _))]; exact rw2)
  subst em
  exact ⟨key.1.passN _ h1m, fun d hd => by rw [zpmN_ne (by decide) (by decide) (by decide)]; exact key.2 d hd⟩
end RN
