/-! The class: bursts; what was heard; telling -/
/-- loading a burst -/
def zLd (f : zM) (t q : Nat) (k : Int32) (l : List Nat) (α : zAt) (md : Int32) (f' : zM) (α' : zAt) : Prop :=
  (l.find? (fun x => decide (α x 3 = 0)) = none ∧ α' = α ∧ f' = zup (zup (zup f (19, q, 0) 3 (zK (-1))) (19, q, 0) 1 (nI (l.length - zcu α l))) (19, q, 0) 2 (zbs0 α l md)) ∨
  (∃ x f2, l.find? (fun x => decide (α x 3 = 0)) = some x ∧ zFb t (19, q, 0) f f2 ∧ f2 (19, q, 0) 0 = f (19, q, 0) 0 ∧ f2 (19, q, 0) 3 = α x 0 ∧ f2 (19, q, 0) 4 = α x 1 ∧ f2 (19, q, 0) 5 = α x 2 ∧ zBR f2 t l (zld α x k) md ∧ α' = zld α x k ∧ f' = zup (zup f2 (19, q, 0) 1 (nI (l.length - zcu α' l))) (19, q, 0) 2 (zbs0 α' l md))
/-- noting in a place -/
def zNp (f : zM) (t q : Nat) (k : Int32) (b e : Nat) (f' : zM) : Prop := ∃ f3 m, ((∃ d, f (19, q, 0) 3 = nI d ∧ max e b ≤ d ∧ d ≤ 60 ∧ f3 = znote (zpassN (znp1 f t q k) t e (max e b - e)) t q d) ∨ ((∀ d, f (19, q, 0) 3 = nI d → max e b ≤ d → ¬ d ≤ 60) ∧ f3 = zpassN (znp1 f t q k) t e (max e b - e))) ∧ max e b + m ≤ 61 ∧ (∀ j, j < m → zcp f3 t (max e b + j) = true) ∧ zcp f3 t (max e b + m) = false ∧ f' = zpassN f3 t (max e b) m
def zfgN (f : zM) (k : Int32) : Nat → zM
  | 0 => f
  | t + 1 => if nI 7 ≤ k - zfgN f k t (7, t, 0) 5 then zup (zfgN f k t) (7, t, 0) 0 (nI 0) else zfgN f k t
def zsrN (f : zM) (N : Nat) : Nat → zM
  | 0 => f
  | t + 1 => zsrp (zsrN f N t) t (N % 2) (nI N) (zsrN f N t (3, t, 0) 2)
theorem zter_no {x : Int32} (h : x = zK (-1)) : ¬ zter x := fun w => by
  rw [h] at w
  exact absurd w.1 (by decide)
section CP2
variable {sc : zC} {c s : Nat} {g : zW} {K : zR → Prop} {N : Nat}
theorem p_sendB_loop {P : Nat → Nat → zM → Prop} (hst : ∀ k u f, k < 29 → P k u f → (f (17, N % 2, 0) (k + 1) = zK (-1) ∧ P (k + 1) u (zup f (19, k + 1, 0) 0 (zK (-1)))) ∨ ∃ t, t < 5 ∧ f (17, N % 2, 0) (k + 1) = nI t ∧ (¬ f (3, t, 0) 4 = nI 3 → P (k + 1) u (zup f (19, k + 1, 0) 0 (zK (-1)))) ∧ (f (3, t, 0) 4 = nI 3 → ∃ l α md, zBR f t l α md ∧ ∀ f' α', zLd (zup f (19, k + 1, 0) 0 (nI t)) t (k + 1) (nI N) l α md f' α' → P (k + 1) (u + 1) f')) (hK : ∀ u f', P 29 u f' → K (.inl (some (.inl (nI u))), zN c s f' g)) (r : Nat) : ∀ {k u : Nat} {f : zM} {cl : Bool} {lv : zL}, k + r = 29 → P k u f → (lv = [] ∨ ∃ v, lv = [v]) → zT sc 23 18 cl (zsu :: some (.inl (nI N)) :: some (.inl (nI u)) :: zrow (N % 2) :: some (.inl (nI (k + 1))) :: lv) [] (zN c s f g) K := by
  induction r with
  | zero =>
    intro k u f cl lv hk hP hlv
    have e : k = 29 := by omega
    subst e
    have h := hK u f hP
    rcases hlv with rfl | ⟨v, rfl⟩
    all_goals
      refine zb ?_
      refine zb ?_
      exact h
  | succ r ih =>
    intro k u f cl lv hk hP hlv
    have hnx : ∀ f' u' cl v, P (k + 1) u' f' → zT sc 23 100 cl [zsu, some (.inl (nI N)), some (.inl (nI u')), zrow (N % 2), some (.inl (nI (k + 1))), v] [] (zN c s f' g) K := fun f' u' cl v h => by
      have h := ih (k := k + 1) (u := u') (f := f') (cl := cl) (by omega) h (Or.inr ⟨v, rfl⟩)
      rw [← nI_add (k + 1) 1] at h
      refine zb ?_
      exact h
    have hnx' : ∀ f' cl v, P (k + 1) (u + 1) f' → zT sc 23 100 cl [zsu, some (.inl (nI N)), some (.inl (nI u + nI 1)), zrow (N % 2), some (.inl (nI (k + 1))), v] [] (zN c s f' g) K := fun f' cl v h => by
      rw [nI_add u 1]
      exact hnx f' (u + 1) cl v h
    rcases hst k u f (by omega) hP with ⟨h1, h2⟩ | ⟨t, ht, h1, h2, h3⟩
    · rcases hlv with rfl | ⟨v, rfl⟩
      all_goals
        refine zb ?_
        refine zin (nI_ge (a := k + 1) (b := 30) (by omega) (by decide)) ?_
        refine zin (nI_in (N := 30) (by omega) (by decide)) ?_
        refine zin (nI_in (N := 30) (by omega) (by decide)) ?_
        rw [nI_clamp (show k + 1 < 2 ^ 31 by omega)]
        show zT sc 15 0 true [some (.inl (f (17, N % 2, 0) (k + 1)))] [] _ _
        refine p_isTerminal (fun w => absurd w (zter_no h1)) (fun _ => ?_)
        exact hnx _ _ _ _ h2
    · rcases hlv with rfl | ⟨v, rfl⟩
      all_goals
        refine zb ?_
        refine zin (nI_ge (a := k + 1) (b := 30) (by omega) (by decide)) ?_
        refine zin (nI_in (N := 30) (by omega) (by decide)) ?_
        refine zin (nI_in (N := 30) (by omega) (by decide)) ?_
        rw [nI_clamp (show k + 1 < 2 ^ 31 by omega)]
        show zT sc 15 0 true [some (.inl (f (17, N % 2, 0) (k + 1)))] [] _ _
        refine p_isTerminal (fun _ => ?_) (fun w => absurd (by rw [h1]; exact zter_of ht) w)
        refine zin (show ¬ (f (17, N % 2, 0) (k + 1) < 0 ∨ 5 ≤ (f (17, N % 2, 0) (k + 1)).toNatClampNeg) by rw [h1]; exact nI_in (N := 5) ht (by decide)) ?_
        have et : (f (17, N % 2, 0) (k + 1)).toNatClampNeg = t := by rw [h1, nI_clamp (by omega)]
        refine zif (fun q => ?_) (fun q => ?_)
        · have q : zup f (19, k + 1, 0) 0 (zK (-1)) (3, (f (17, N % 2, 0) (k + 1)).toNatClampNeg, 0) 4 = nI 3 := q
          rw [et, zup_nk (fun w => by cases w)] at q
          obtain ⟨l, α, md, hB, h4⟩ := h3 q
          refine zin (nI_in (N := 30) (by omega) (by decide)) ?_
          refine zin (show ¬ (f (17, N % 2, 0) (k + 1) < 0 ∨ 5 ≤ (f (17, N % 2, 0) (k + 1)).toNatClampNeg) by rw [h1]; exact nI_in (N := 5) ht (by decide)) ?_
          refine zin (nI_in (N := 30) (by omega) (by decide)) ?_
          rw [nI_clamp (show k + 1 < 2 ^ 31 by omega)]
          show zT sc 85 0 true [zbl (f (17, N % 2, 0) (k + 1)).toNatClampNeg, zbu (k + 1), some (.inl (nI N))] [] (zN c s (zup (zup f (19, k + 1, 0) 0 (zK (-1))) (19, k + 1, 0) 0 (f (17, N % 2, 0) (k + 1))) g) _
          rw [et, h1, zup_tw]
          have hB' : zBR (zup f (19, k + 1, 0) 0 (nI t)) t l α md := hB.off (show ¬ (19 = 4 ∨ 19 = 5 ∨ 19 = 6) by decide)
          refine p_load (by omega) hB' (fun w => ?_) (fun x f2 w1 w2 w3 w4 w5 w6 w7 => ?_)
          · exact hnx' _ _ _ (h4 _ α (Or.inl ⟨w, rfl, rfl⟩))
          · exact hnx' _ _ _ (h4 _ _ (Or.inr ⟨x, f2, w1, w2, w3, w4, w5, w6, w7, rfl, rfl⟩))
        · have q : ¬ zup f (19, k + 1, 0) 0 (zK (-1)) (3, (f (17, N % 2, 0) (k + 1)).toNatClampNeg, 0) 4 = nI 3 := q
          rw [et, zup_nk (fun w => by cases w)] at q
          exact hnx _ _ _ _ (h2 q)
theorem p_sendBursts {f : zM} {P : Nat → Nat → zM → Prop} (hst : ∀ k u f, k < 29 → P k u f → (f (17, N % 2, 0) (k + 1) = zK (-1) ∧ P (k + 1) u (zup f (19, k + 1, 0) 0 (zK (-1)))) ∨ ∃ t, t < 5 ∧ f (17, N % 2, 0) (k + 1) = nI t ∧ (¬ f (3, t, 0) 4 = nI 3 → P (k + 1) u (zup f (19, k + 1, 0) 0 (zK (-1)))) ∧ (f (3, t, 0) 4 = nI 3 → ∃ l α md, zBR f t l α md ∧ ∀ f' α', zLd (zup f (19, k + 1, 0) 0 (nI t)) t (k + 1) (nI N) l α md f' α' → P (k + 1) (u + 1) f')) (h0 : P 0 ((List.range' 0 5).foldl (zdo f) (none, 0)).2 (zdh f ((List.range' 0 5).foldl (zdo f) (none, 0)))) (hK : ∀ u f', P 29 u f' → K (.inl (some (.inl (nI u))), zN c s f' g)) : zT sc 23 0 true [zsu, some (.inl (nI N))] [] (zN c s f g) K := by
  refine zb ?_
  refine p_door ?_
  have e : zdh f ((List.range' 0 5).foldl (zdo f) (none, 0)) (0, 0, 0) 7 = nI ((List.range' 0 5).foldl (zdo f) (none, 0)).2 := by
    unfold zdh
    rw [zup_nk (fun w => by cases w), zup_eq]
  generalize (List.range' 0 5).foldl (zdo f) (none, 0) = w at h0 e ⊢
  generalize zdh f w = F at h0 e ⊢
  refine p_planOf ?_
  have h := p_sendB_loop (sc := sc) (c := c) (s := s) (g := g) (K := K) (cl := false) (lv := []) hst hK 29 (k := 0) rfl h0 (Or.inl rfl)
  rw [← e] at h
  exact h
theorem p_noteH_loop {P : Nat → zM → Prop} {ho : Nat → Option Nat} (hst : ∀ k f, k < 29 → P k f → f (21, 0, 0) (k + 1) = zopt (ho (k + 1)) ∧ (∀ t, ho (k + 1) = some t → t < 5) ∧ (ho (k + 1) = none → P (k + 1) f) ∧ ∀ t, ho (k + 1) = some t → ∃ b e, f (19, k + 1, 0) 2 = nI b ∧ b ≤ 61 ∧ f (7, t, 0) 2 = nI e ∧ e ≤ 61 ∧ ∀ f', zNp f t (k + 1) (nI N) b e f' → P (k + 1) f') (hK : ∀ f' cl, P 29 f' → zT sc 31 74 cl [zsu, some (.inl (nI N)), some (.inl (nI 30))] [] (zN c s f' g) K) (r : Nat) : ∀ {k : Nat} {f : zM} {cl : Bool}, k + r = 29 → P k f → zT sc 31 29 cl [zsu, some (.inl (nI N)), some (.inl (nI (k + 1)))] [] (zN c s f g) K := by
  induction r with
  | zero =>
    intro k f cl hk hP
    have e : k = 29 := by omega
    subst e
    refine zb ?_
    exact hK f _ hP
  | succ r ih =>
    intro k f cl hk hP
    obtain ⟨h1, h2, h3, h4⟩ := hst k f (by omega) hP
    have hnx : ∀ f' cl, P (k + 1) f' → zT sc 31 68 cl [zsu, some (.inl (nI N)), some (.inl (nI (k + 1)))] [] (zN c s f' g) K := fun f' cl h => by
      have h := ih (k := k + 1) (f := f') (cl := cl) (by omega) h
      rw [← nI_add (k + 1) 1] at h
      refine zb ?_
      exact h
    refine zb ?_
    refine zin (nI_ge (a := k + 1) (b := 30) (by omega) (by decide)) ?_
    refine zin (nI_in (N := 30) (by omega) (by decide)) ?_
    rw [nI_clamp (show k + 1 < 2 ^ 31 by omega)]
    show zT sc 15 0 true [some (.inl (f (21, 0, 0) (k + 1)))] [] _ _
    cases hq : ho (k + 1) with
    | none =>
      rw [hq] at h1
      refine p_isTerminal (fun w => absurd w (zter_no h1)) (fun _ => ?_)
      exact hnx f _ (h3 hq)
    | some t =>
      rw [hq] at h1
      have ht := h2 t hq
      have h1 : f (21, 0, 0) (k + 1) = nI t := h1
      obtain ⟨b, e, hb, hb61, he, he61, h5⟩ := h4 t hq
      refine p_isTerminal (fun _ => ?_) (fun w => absurd (by rw [h1]; exact zter_of ht) w)
      refine zin (nI_in (N := 30) (by omega) (by decide)) ?_
      rw [nI_clamp (show k + 1 < 2 ^ 31 by omega)]
      refine zin (show ¬ (f (21, 0, 0) (k + 1) < 0 ∨ 5 ≤ (f (21, 0, 0) (k + 1)).toNatClampNeg) by rw [h1]; exact nI_in (N := 5) ht (by decide)) ?_
      refine zin (nI_in (N := 30) (by omega) (by decide)) ?_
      rw [nI_clamp (show k + 1 < 2 ^ 31 by omega)]
      show zT sc 71 0 true [zac (f (21, 0, 0) (k + 1)).toNatClampNeg, zbu (k + 1), some (.inl (nI N))] [] (zN c s f g) _
      rw [h1, nI_clamp (show t < 2 ^ 31 by omega)]
      refine p_noteInPlace hb hb61 he he61 (fun f3 m w1 w2 w3 w4 => ?_)
      exact hnx _ _ (h5 _ ⟨f3, m, w1, w2, w3, w4, rfl⟩)
theorem p_forget_loop {f : zM} (r : Nat) : ∀ {t : Nat} {cl : Bool}, t + r = 5 → K (.inl none, zN c s (zfgN f (nI N) 5) g) → zT sc 31 76 cl [zsu, some (.inl (nI N)), some (.inl (nI t))] [] (zN c s (zfgN f (nI N) t) g) K := by
  induction r with
  | zero =>
    intro t cl ht hK
    have e : t = 5 := by omega
    subst e
    refine zb ?_
    refine zb ?_
    exact hK
  | succ r ih =>
    intro t cl ht hK
    have h := fun cl => ih (t := t + 1) (cl := cl) (by omega) hK
    have e : zfgN f (nI N) (t + 1) = if nI 7 ≤ nI N - zfgN f (nI N) t (7, t, 0) 5 then zup (zfgN f (nI N) t) (7, t, 0) 0 (nI 0) else zfgN f (nI N) t := rfl
    rw [e, ← nI_add t 1] at h
    refine zb ?_
    refine zin (nI_ge (a := t) (b := 5) (by omega) (by decide)) ?_
    refine zin (nI_in (N := 5) (by omega) (by decide)) ?_
    rw [nI_clamp (show t < 2 ^ 31 by omega)]
    refine p_forget (t := t) (fun q => ?_) (fun q => ?_)
    · rw [if_pos q] at h
      exact h _
    · rw [if_neg (fun w => ile.mp w q)] at h
      exact h _
theorem p_noteHeard {f : zM} {P : Nat → zM → Prop} {ho : Nat → Option Nat} (hd : f (21, 0, 0) 0 = zopt (ho 0)) (hd5 : ∀ t, ho 0 = some t → t < 5) (h0 : ho 0 = none → P 0 f) (h1 : ∀ t, ho 0 = some t → P 0 (zup (zup (zup f (7, t, 0) 5 (nI N)) (7, t, 0) 0 (nI 1)) (7, t, 0) 1 (nI 0))) (hst : ∀ k f, k < 29 → P k f → f (21, 0, 0) (k + 1) = zopt (ho (k + 1)) ∧ (∀ t, ho (k + 1) = some t → t < 5) ∧ (ho (k + 1) = none → P (k + 1) f) ∧ ∀ t, ho (k + 1) = some t → ∃ b e, f (19, k + 1, 0) 2 = nI b ∧ b ≤ 61 ∧ f (7, t, 0) 2 = nI e ∧ e ≤ 61 ∧ ∀ f', zNp f t (k + 1) (nI N) b e f' → P (k + 1) f') (hK : ∀ f', P 29 f' → K (.inl none, zN c s (zfgN f' (nI N) 5) g)) : zT sc 31 0 true [zsu, some (.inl (nI N))] [] (zN c s f g) K := by
  have h27 : ∀ f' cl, P 0 f' → zT sc 31 27 cl [zsu, some (.inl (nI N))] [] (zN c s f' g) K := fun f' cl h => by
    refine zb ?_
    refine p_noteH_loop hst (fun f2 cl h2 => ?_) 29 (k := 0) rfl h
    refine zb ?_
    exact p_forget_loop (f := f2) 5 (t := 0) rfl (hK f2 h2)
  refine zb ?_
  show zT sc 15 0 true [some (.inl (f (21, 0, 0) 0))] [] _ _
  cases hq : ho 0 with
  | none =>
    rw [hq] at hd
    refine p_isTerminal (fun w => absurd w (zter_no hd)) (fun _ => ?_)
    exact h27 f _ (h0 hq)
  | some t =>
    rw [hq] at hd
    have ht := hd5 t hq
    have hd : f (21, 0, 0) 0 = nI t := hd
    refine p_isTerminal (fun _ => ?_) (fun w => absurd (by rw [hd]; exact zter_of ht) w)
    refine zin (show ¬ (f (21, 0, 0) 0 < 0 ∨ 5 ≤ (f (21, 0, 0) 0).toNatClampNeg) by rw [hd]; exact nI_in (N := 5) ht (by decide)) ?_
    show zT sc 70 0 true [zac (f (21, 0, 0) 0).toNatClampNeg, some (.inl (nI N))] [] (zN c s f g) _
    rw [hd, nI_clamp (show t < 2 ^ 31 by omega)]
    refine p_noteInDoor (t := t) ?_
    exact h27 _ _ (h1 t hq)
theorem p_tell_start {f : zM} (r : Nat) : ∀ {t : Nat} {cl : Bool}, t + r = 5 → (∀ cl, zT sc 32 32 cl [zsu, some (.inl (nI N)), some (.inl (nI 5))] [] (zN c s (zsrN f N 5) g) K) → zT sc 32 2 cl [zsu, some (.inl (nI N)), some (.inl (nI t))] [] (zN c s (zsrN f N t) g) K := by
  induction r with
  | zero =>
    intro t cl ht hK
    have e : t = 5 := by omega
    subst e
    refine zb ?_
    exact hK _
  | succ r ih =>
    intro t cl ht hK
    have h := fun cl => ih (t := t + 1) (cl := cl) (by omega) hK
    have e : zsrN f N (t + 1) = zsrp (zsrN f N t) t (N % 2) (nI N) (zsrN f N t (3, t, 0) 2) := rfl
    rw [e, ← nI_add t 1] at h
    refine zb ?_
    refine zin (nI_ge (a := t) (b := 5) (by omega) (by decide)) ?_
    refine zin (nI_in (N := 5) (by omega) (by decide)) ?_
    refine zin (nI_in (N := 5) (by omega) (by decide)) ?_
    rw [nI_clamp (show t < 2 ^ 31 by omega)]
    refine p_startReport ?_
    exact h _
theorem p_tell_loop {P : Nat → zM → Prop} {ho : Nat → Option Nat} (hst : ∀ k f, k < 29 → P k f → f (21, 0, 0) (k + 1) = zopt (ho (k + 1)) ∧ (∀ t, ho (k + 1) = some t → t < 5) ∧ (ho (k + 1) = none → P (k + 1) f) ∧ ∀ t, ho (k + 1) = some t → ∃ rl, zRR f t (N % 2) rl ∧ rl.length < 10 ∧ (f (19, k + 1, 0) 3 = zK (-1) → P (k + 1) f) ∧ (¬ f (19, k + 1, 0) 3 = zK (-1) → zRR (zadc f t (N % 2) (k + 1) rl.length) t (N % 2) (rl ++ [(f (19, k + 1, 0) 3, f (19, k + 1, 0) 4)]) → P (k + 1) (zadc f t (N % 2) (k + 1) rl.length))) (hK : ∀ f' cl, P 29 f' → zT sc 32 113 cl [zsu, some (.inl (nI N)), some (.inl (nI 30))] [] (zN c s f' g) K) (r : Nat) : ∀ {k : Nat} {f : zM} {cl : Bool}, k + r = 29 → P k f → zT sc 32 65 cl [zsu, some (.inl (nI N)), some (.inl (nI (k + 1)))] [] (zN c s f g) K := by
  induction r with
  | zero =>
    intro k f cl hk hP
    have e : k = 29 := by omega
    subst e
    refine zb ?_
    exact hK f _ hP
  | succ r ih =>
    intro k f cl hk hP
    obtain ⟨h1, h2, h3, h4⟩ := hst k f (by omega) hP
    have hnx : ∀ f' cl, P (k + 1) f' → zT sc 32 107 cl [zsu, some (.inl (nI N)), some (.inl (nI (k + 1)))] [] (zN c s f' g) K := fun f' cl h => by
      have h := ih (k := k + 1) (f := f') (cl := cl) (by omega) h
      rw [← nI_add (k + 1) 1] at h
      refine zb ?_
      exact h
    refine zb ?_
    refine zin (nI_ge (a := k + 1) (b := 30) (by omega) (by decide)) ?_
    refine zin (nI_in (N := 30) (by omega) (by decide)) ?_
    rw [nI_clamp (show k + 1 < 2 ^ 31 by omega)]
    show zT sc 15 0 true [some (.inl (f (21, 0, 0) (k + 1)))] [] _ _
    cases hq : ho (k + 1) with
    | none =>
      rw [hq] at h1
      refine p_isTerminal (fun w => absurd w (zter_no h1)) (fun _ => ?_)
      exact hnx f _ (h3 hq)
    | some t =>
      rw [hq] at h1
      have ht := h2 t hq
      have h1 : f (21, 0, 0) (k + 1) = nI t := h1
      obtain ⟨rl, hR, hl, h5, h6⟩ := h4 t hq
      refine p_isTerminal (fun _ => ?_) (fun w => absurd (by rw [h1]; exact zter_of ht) w)
      refine zin (nI_in (N := 30) (by omega) (by decide)) ?_
      rw [nI_clamp (show k + 1 < 2 ^ 31 by omega)]
      refine zin (show ¬ (f (21, 0, 0) (k + 1) < 0 ∨ 5 ≤ (f (21, 0, 0) (k + 1)).toNatClampNeg) by rw [h1]; exact nI_in (N := 5) ht (by decide)) ?_
      show zT sc 68 0 true [zac (f (21, 0, 0) (k + 1)).toNatClampNeg, some (.inl (nI N))] [] (zN c s f g) _
      rw [h1, nI_clamp (show t < 2 ^ 31 by omega)]
      refine p_reportOf rfl (p := N % 2) (Nat.mod_lt _ (by decide)) (nI_par N) ?_
      refine zin (nI_in (N := 30) (by omega) (by decide)) ?_
      rw [nI_clamp (show k + 1 < 2 ^ 31 by omega)]
      refine p_addCellOf hR hl (fun w => ?_) (fun w1 w2 => ?_)
      · exact hnx f _ (h5 w)
      · exact hnx _ _ (h6 w1 w2)
theorem p_tell {f : zM} {P : Nat → zM → Prop} {ho : Nat → Option Nat} (hd : zsrN f N 5 (21, 0, 0) 0 = zopt (ho 0)) (hd5 : ∀ t, ho 0 = some t → t < 5) (h0 : ho 0 = none → P 0 (zsrN f N 5)) (h1 : ∀ t, ho 0 = some t → P 0 (zup (zsrN f N 5) (10, t, N % 2) 0 (nI 1))) (hst : ∀ k f, k < 29 → P k f → f (21, 0, 0) (k + 1) = zopt (ho (k + 1)) ∧ (∀ t, ho (k + 1) = some t → t < 5) ∧ (ho (k + 1) = none → P (k + 1) f) ∧ ∀ t, ho (k + 1) = some t → ∃ rl, zRR f t (N % 2) rl ∧ rl.length < 10 ∧ (f (19, k + 1, 0) 3 = zK (-1) → P (k + 1) f) ∧ (¬ f (19, k + 1, 0) 3 = zK (-1) → zRR (zadc f t (N % 2) (k + 1) rl.length) t (N % 2) (rl ++ [(f (19, k + 1, 0) 3, f (19, k + 1, 0) 4)]) → P (k + 1) (zadc f t (N % 2) (k + 1) rl.length)))
    (hK : ∀ f', P 29 f' → ∃ D0 G0 Q W S0, zPR f' D0 G0 S0 ∧ zPQ f' Q ∧ zPW f' W ∧ ∀ f'' D G S, zGf (N % 2) f' f'' → f'' (17, N % 2, 0) = (zplan f' W Q D0 G0 (N % 2)).1 → zPR f'' D G S → K (.inl none, zN c s f'' g)) : zT sc 32 0 true [zsu, some (.inl (nI N))] [] (zN c s f g) K := by
  refine zb ?_
  refine p_tell_start (f := f) 5 (t := 0) rfl (fun cl => ?_)
  generalize zsrN f N 5 = F at hd h0 h1 ⊢
  have h63 : ∀ f' cl, P 0 f' → zT sc 32 63 cl [zsu, some (.inl (nI N)), some (.inl (nI 5))] [] (zN c s f' g) K := fun f' cl h => by
    refine zb ?_
    refine p_tell_loop hst (fun f2 cl h2 => ?_) 29 (k := 0) rfl h
    obtain ⟨D0, G0, Q, W, S0, a1, a2, a3, a4⟩ := hK f2 h2
    refine zb ?_
    show zT sc 19 0 true [zsu, some (.inl (nI N + nI 2))] [] (zN c s f2 g) _
    rw [nI_add]
    refine p_planOf ?_
    rw [show (N + 2) % 2 = N % 2 by omega]
    refine p_plan (p := N % 2) a1 a2 a3 (fun f'' D G S b1 b2 b3 => ?_)
    exact a4 f'' D G S b1 b2 b3
  refine zb ?_
  show zT sc 15 0 true [some (.inl (F (21, 0, 0) 0))] [] _ _
  cases hq : ho 0 with
  | none =>
    rw [hq] at hd
    refine p_isTerminal (fun w => absurd w (zter_no hd)) (fun _ => ?_)
    exact h63 F _ (h0 hq)
  | some t =>
    rw [hq] at hd
    have ht := hd5 t hq
    have hd : F (21, 0, 0) 0 = nI t := hd
    refine p_isTerminal (fun _ => ?_) (fun w => absurd (by rw [hd]; exact zter_of ht) w)
    refine zin (show ¬ (F (21, 0, 0) 0 < 0 ∨ 5 ≤ (F (21, 0, 0) 0).toNatClampNeg) by rw [hd]; exact nI_in (N := 5) ht (by decide)) ?_
    show zT sc 68 0 true [zac (F (21, 0, 0) 0).toNatClampNeg, some (.inl (nI N))] [] (zN c s F g) _
    rw [hd, nI_clamp (show t < 2 ^ 31 by omega)]
    refine p_reportOf rfl (p := N % 2) (Nat.mod_lt _ (by decide)) (nI_par N) ?_
    exact h63 _ _ (h1 t hq)
end CP2
