/-! The reference: sharing, its loops -/
theorem zPm.up {f : zM} {D G : Nat → Nat} (h : zPm f D G) {t : Nat} (h9 : D t < 9) : zPm (zup f (63, 0, 0) t (nI (D t + 1))) (zfu D t (D t + 1)) G := fun x hx => by
  obtain ⟨a, b, c, d⟩ := h x hx
  unfold zfu
  by_cases q : x = t
  · subst q
    rw [if_pos rfl, zup_eq, zup_nk (by decide)]
    exact ⟨rfl, b, by omega, by omega⟩
  · rw [if_neg q, zup_ne (fun w => q w.2), zup_nk (by decide)]
    exact ⟨a, b, c, d⟩
theorem zPm.up2 {f : zM} {D G : Nat → Nat} (h : zPm f D G) {t : Nat} (h9 : D t < 9) : zPm (zup (zup f (63, 0, 0) t (nI (D t + 1))) (64, 0, 0) t (nI (G t + 1))) (zfu D t (D t + 1)) (zfu G t (G t + 1)) := fun x hx => by
  obtain ⟨a, b, c, d⟩ := h x hx
  unfold zfu
  by_cases q : x = t
  · subst q
    rw [if_pos rfl, if_pos rfl, zup_eq, zup_nk (by decide), zup_eq]
    exact ⟨rfl, rfl, by omega, by omega⟩
  · rw [if_neg q, if_neg q, zup_nk (by decide), zup_ne (fun w => q w.2), zup_ne (fun w => q w.2), zup_nk (by decide)]
    exact ⟨a, b, c, d⟩
theorem zsu5_up {D : Nat → Nat} {t : Nat} (ht : t < 5) : zsu5 (zfu D t (D t + 1)) = zsu5 D + 1 := by
  unfold zsu5 zfu
  have : t = 0 ∨ t = 1 ∨ t = 2 ∨ t = 3 ∨ t = 4 := by omega
  rcases this with rfl | rfl | rfl | rfl | rfl <;> simp <;> omega
theorem zsu5_lt {f : zM} {D G : Nat → Nat} (h : zPm f D G) : zsu5 D ≤ 45 := by
  unfold zsu5
  have h0 := (h 0 (by omega)).2.2.1
  have h1 := (h 1 (by omega)).2.2.1
  have h2 := (h 2 (by omega)).2.2.1
  have h3 := (h 3 (by omega)).2.2.1
  have h4 := (h 4 (by omega)).2.2.1
  omega
theorem zbm_fs {f f' : zM} (h : zFs f f') {D G W : Nat → Nat} : ∀ (r : Nat) (b : Option Nat), zbm f' D G W r b = zbm f D G W r b
  | 0, _ => rfl
  | r + 1, b => by
    unfold zbm
    rw [zbm_fs h r]
    unfold zb1 zwm
    rw [h _ _ (by decide) (by decide), h _ _ (by decide) (by decide)]
theorem zabM_fs {f f' : zM} (h : zFs f f') {W : Nat → Nat} : ∀ (n : Nat) (w : (Nat → Nat) × (Nat → Nat)), zabM f' W n w = zabM f W n w
  | 0, _ => rfl
  | n + 1, w => by
    unfold zabM
    rw [zbm_fs h]
    split
    · split
      · rfl
      · exact zabM_fs h n _
    · rfl
theorem zQm.fs {f f' : zM} {W Q : Nat → Nat} (hQ : zQm f W Q) (h : zFs f f') : zQm f' W Q := fun t ht => by
  rw [h _ _ (by decide) (by decide), h _ _ (by decide) (by decide)]
  exact hQ t ht
def zt3 (lv : zL) : Prop := lv = [] ∨ (∃ a b, lv = [a, b]) ∨ ∃ a b c, lv = [a, b, c]
section MO18
variable {sc : zC} {c s : Nat} {g : zW} {K : zR → Prop} {W Q : Nat → Nat}
theorem q_share_need (n : Nat) : ∀ {f : zM} {D G : Nat → Nat} {cl : Bool} {lv : zL}, 29 ≤ zsu5 D + n → zPm f D G → zQm f W Q → zt3 lv → (∀ f' cl v lv, zFs f f' → zPm f' (zabM f W n (D, G)).1 (zabM f W n (D, G)).2 → zt3 lv → zT sc 51 215 cl (zmo :: v :: lv) [] (zN c s f' g) K) → zT sc 51 61 cl (zmo :: some (.inl (nI 1)) :: lv) [] (zN c s f g) K := by
  induction n with
  | zero =>
    intro f D G cl lv hn hP hW hlv hK
    have h := fun cl => hK f cl (some (.inl (nI 1))) lv zFs.rf hP hlv
    have hs := zsu5_lt hP
    rcases hlv with rfl | ⟨a, b, rfl⟩ | ⟨a, b, d, rfl⟩
    all_goals
      refine zb ?_
      refine q_sum (fun t ht => (hP t ht).1) ?_
      refine zip (nI_le (a := 29) (b := zsu5 D) (by omega) (by omega)) ?_
      exact h _
  | succ n ih =>
    intro f D G cl lv hn hP hW hlv hK
    have hs := zsu5_lt hP
    by_cases h29 : zsu5 D < 29
    · have e : zabM f W (n + 1) (D, G) = match zbm f D G W 5 none with
        | none => (D, G)
        | some t => zabM f W n (zfu D t (D t + 1), zfu G t (G t + 1)) := by
        show (if zsu5 D < 29 then _ else _) = _
        rw [if_pos h29]
        rfl
      rw [e] at hK
      have h178 : ∀ m cl {lv : zL}, (lv = [] ∨ ∃ v, lv = [v]) → zT sc 51 178 cl (zmo :: m :: some (.inl (zopt (zbm f D G W 5 none))) :: some (.inl (zK (-1))) :: lv) [] (zN c s f g) K := fun m cl lv hl => by
        cases hb : zbm f D G W 5 none with
        | none =>
          rw [hb] at hK
          have h215 : ∀ cl lv, zt3 lv → zT sc 51 215 cl (zmo :: some (.inl (nI 0)) :: lv) [] (zN c s f g) K := fun cl lv h => hK f cl _ lv zFs.rf hP h
          rcases hl with rfl | ⟨v, rfl⟩
          all_goals
            refine zb ?_
            refine zb ?_
            refine zb ?_
            refine zb ?_
            refine zb ?_
            exact h215 _ _ (by first | exact Or.inr (Or.inl ⟨_, _, rfl⟩) | exact Or.inr (Or.inr ⟨_, _, _, rfl⟩))
        | some t =>
          rw [hb] at hK
          have ht : t < 5 := zbm_lt 5 (by omega) (fun x w => by cases w) t hb
          have hw := zbm_w 5 (fun x w => by cases w) t hb
          have h9 : D t < 9 := by
            unfold zwm at hw
            simp only [Bool.and_eq_true, decide_eq_true_eq] at hw
            exact hw.2.2
          obtain ⟨p1, p2, p3, p4⟩ := hP t ht
          have hF : zFs f (zup (zup f (63, 0, 0) t (nI (D t + 1))) (64, 0, 0) t (nI (G t + 1))) := fun x k a b => (zup_nk b).trans (zup_nk a)
          have h61 : ∀ lv, zt3 lv → zT sc 51 61 false (zmo :: some (.inl (nI 1)) :: lv) [] (zN c s (zup (zup f (63, 0, 0) t (nI (D t + 1))) (64, 0, 0) t (nI (G t + 1))) g) K := fun lv h => by
            refine ih (by rw [zsu5_up ht]; omega) (hP.up2 h9) (hW.fs hF) h (fun f' cl v lv a b d => ?_)
            rw [zabM_fs hF] at b
            exact hK f' cl v lv (hF.tr a) b d
          rw [← nI_add, ← nI_add, ← p1] at h61
          have e64 : nI (G t) = zup f (63, 0, 0) t (f (63, 0, 0) t + nI 1) (64, 0, 0) t := by rw [zup_nk (by decide), p2]
          rw [e64] at h61
          rw [show zopt (some t) = nI t from rfl]
          rcases hl with rfl | ⟨v, rfl⟩
          all_goals
            refine zb ?_
            refine zin (show ¬ nI t < 0 from nI_pos (by omega)) ?_
            refine zb ?_
            refine zin (nI_in (N := 5) ht (by decide)) ?_
            refine zin (nI_in (N := 5) ht (by decide)) ?_
            refine zin (nI_in (N := 5) ht (by decide)) ?_
            refine zin (nI_in (N := 5) ht (by decide)) ?_
            rw [nI_clamp (show t < 2 ^ 31 by omega)]
            refine zb ?_
            exact h61 _ (by first | exact Or.inr (Or.inl ⟨_, _, rfl⟩) | exact Or.inr (Or.inr ⟨_, _, _, rfl⟩))
      have h78 : ∀ m cl {lv : zL}, (lv = [] ∨ ∃ v, lv = [v]) → zT sc 51 78 cl (zmo :: m :: some (.inl (zK (-1))) :: some (.inl (nI 4)) :: lv) [] (zN c s f g) K := fun m cl lv hl =>
        q_share_best (b := none) hP hW 5 (by omega) (fun x w => by cases w) hl (fun {lv} hl => h178 m cl hl)
      rcases hlv with rfl | ⟨a, b, rfl⟩ | ⟨a, b, d, rfl⟩
      all_goals
        refine zb ?_
        refine q_sum (fun t ht => (hP t ht).1) ?_
        refine zin (nI_ge (a := zsu5 D) (b := 29) h29 (by decide)) ?_
        exact h78 _ _ (by first | exact Or.inl rfl | exact Or.inr ⟨_, rfl⟩)
    · have e : zabM f W (n + 1) (D, G) = (D, G) := by
        show (if zsu5 D < 29 then _ else _) = _
        rw [if_neg h29]
      rw [e] at hK
      have h := fun cl => hK f cl (some (.inl (nI 1))) lv zFs.rf hP hlv
      rcases hlv with rfl | ⟨a, b, rfl⟩ | ⟨a, b, d, rfl⟩
      all_goals
        refine zb ?_
        refine q_sum (fun t ht => (hP t ht).1) ?_
        refine zip (nI_le (a := 29) (b := zsu5 D) (by omega) (by omega)) ?_
        exact h _
def zrmF (f : zM) (D : Nat → Nat) : Nat → Nat → Nat
  | 0 => D
  | i + 1 => zrm1 f (zrmF f D i) i
theorem zrm1_fs {f f' : zM} (h : zFs f f') {D : Nat → Nat} {t : Nat} : zrm1 f' D t = zrm1 f D t := by
  unfold zrm1; rw [h _ _ (by decide) (by decide)]
theorem zrmF_fs {f f' : zM} (h : zFs f f') {D : Nat → Nat} : ∀ n, zrmF f' D n = zrmF f D n
  | 0 => rfl
  | n + 1 => by unfold zrmF; rw [zrmF_fs h n, zrm1_fs h]
theorem zrmN_fs {f f' : zM} (h : zFs f f') : ∀ (n : Nat) (D : Nat → Nat), zrmN f' n D = zrmN f n D
  | 0, _ => rfl
  | n + 1, D => by
    have e : zrmR f' D = zrmR f D := zrmF_fs h 5
    unfold zrmN
    rw [e, zrmN_fs h n]
theorem q_share_round {f0 : zM} {D0 G : Nat → Nat} {m b : Option zV} (r : Nat) : ∀ {f : zM} {i : Nat} {cl : Bool} {lv : zL}, i + r = 5 → zFs f0 f → zPm f (zrmF f0 D0 i) G → (lv = [] ∨ ∃ v, lv = [v]) → (∀ f' cl {lv : zL}, zFs f0 f' → zPm f' (zrmR f0 D0) G → (lv = [] ∨ ∃ v, lv = [v]) → zT sc 51 300 cl (zmo :: m :: b :: some (.inl (nI 5)) :: lv) [] (zN c s f' g) K) → zT sc 51 237 cl (zmo :: m :: b :: some (.inl (nI i)) :: lv) [] (zN c s f g) K := by
  induction r with
  | zero =>
    intro f i cl lv hi hF hP hlv hK
    have e : i = 5 := by omega
    subst e
    have h := hK f cl hF hP hlv
    rcases hlv with rfl | ⟨v, rfl⟩
    all_goals
      refine zb ?_
      exact h
  | succ r ih =>
    intro f i cl lv hi hF hP hlv hK
    obtain ⟨p1, p2, p3, p4⟩ := hP i (by omega)
    have hs := zsu5_lt hP
    have e44 : f (44, 0, 0) i = f0 (44, 0, 0) i := hF _ _ (by decide) (by decide)
    have e1 : zrmF f0 D0 (i + 1) = zrm1 f0 (zrmF f0 D0 i) i := rfl
    have hstay : zrm1 f0 (zrmF f0 D0 i) i = zrmF f0 D0 i → ∀ cl {lv : zL}, (lv = [] ∨ ∃ v, lv = [v]) → zT sc 51 287 cl (zmo :: m :: b :: some (.inl (nI i)) :: lv) [.inl (nI i), .inr (.inl (63, 0, 0))] (zN c s f g) K := fun w cl lv hl => by
      have h := ih (f := f) (i := i + 1) (cl := false) (lv := lv) (by omega) hF (by rw [e1, w]; exact hP) hl hK
      rw [← nI_add, ← zup_self (f := f) (a := (63, 0, 0)) (k := i)] at h
      rcases hl with rfl | ⟨v, rfl⟩
      all_goals
        refine zb ?_
        refine zin (nI_in (N := 5) (by omega) (by decide)) ?_
        refine zb ?_
        refine zin (nI_in (N := 5) (by omega) (by decide)) ?_
        rw [nI_clamp (show i < 2 ^ 31 by omega)]
        exact h
    rcases hlv with rfl | ⟨v, rfl⟩
    all_goals
      refine zb ?_
      refine zin (nI_ge (a := i) (b := 5) (by omega) (by decide)) ?_
      refine zin (nI_in (N := 5) (by omega) (by decide)) ?_
      rw [nI_clamp (show i < 2 ^ 31 by omega)]
      refine zif (fun q => ?_) (fun q => ?_)
      · have q : f (44, 0, 0) i = 0 := q
        rw [e44] at q
        exact hstay (if_neg (fun w => w.1 q)) _ (by first | exact Or.inl rfl | exact Or.inr ⟨_, rfl⟩)
      · have q : ¬ f (44, 0, 0) i = 0 := q
        rw [e44] at q
        refine zin (nI_in (N := 5) (by omega) (by decide)) ?_
        rw [nI_clamp (show i < 2 ^ 31 by omega)]
        refine zif (fun q2 => ?_) (fun q2 => ?_)
        · have q2 : nI 9 ≤ f (63, 0, 0) i := q2
          rw [p1, nI_leI (by decide) (by omega)] at q2
          exact hstay (if_neg (fun w => by omega)) _ (by first | exact Or.inl rfl | exact Or.inr ⟨_, rfl⟩)
        · have q2 : ¬ nI 9 ≤ f (63, 0, 0) i := q2
          rw [p1, nI_leI (by decide) (by omega)] at q2
          refine q_sum (fun t ht => (hP t ht).1) ?_
          refine zif (fun q3 => ?_) (fun q3 => ?_)
          · have q3 : nI 29 ≤ nI (zsu5 (zrmF f0 D0 i)) := q3
            rw [nI_leI (by decide) (by omega)] at q3
            exact hstay (if_neg (fun w => by omega)) _ (by first | exact Or.inl rfl | exact Or.inr ⟨_, rfl⟩)
          · have q3 : ¬ nI 29 ≤ nI (zsu5 (zrmF f0 D0 i)) := q3
            rw [nI_leI (by decide) (by omega)] at q3
            refine zin (nI_in (N := 5) (by omega) (by decide)) ?_
            refine zb ?_
            refine zin (nI_in (N := 5) (by omega) (by decide)) ?_
            rw [nI_clamp (show i < 2 ^ 31 by omega)]
            have e2 : zrm1 f0 (zrmF f0 D0 i) i = zfu (zrmF f0 D0 i) i (zrmF f0 D0 i i + 1) := if_pos ⟨q, by omega, by omega⟩
            first
            | have h := ih (f := zup f (63, 0, 0) i (nI (zrmF f0 D0 i i + 1))) (i := i + 1) (cl := false) (lv := []) (by omega) (hF.tr (fun x k a _ => zup_nk a)) (by rw [e1, e2]; exact hP.up (by omega)) (Or.inl rfl) hK
              rw [← nI_add, ← nI_add, ← p1] at h
              exact h
            | have h := ih (f := zup f (63, 0, 0) i (nI (zrmF f0 D0 i i + 1))) (i := i + 1) (cl := false) (lv := [v]) (by omega) (hF.tr (fun x k a _ => zup_nk a)) (by rw [e1, e2]; exact hP.up (by omega)) (Or.inr ⟨v, rfl⟩) hK
              rw [← nI_add, ← nI_add, ← p1] at h
              exact h
theorem q_share_rounds {G : Nat → Nat} (n : Nat) : ∀ {f : zM} {D : Nat → Nat} {cl : Bool} {lv : zL}, 29 ≤ zsu5 D + n → zPm f D G → zt3 lv → (∀ f', zFs f f' → zPm f' (zrmN f n D) G → K (.inl none, zN c s f' g)) → zT sc 51 217 cl (zmo :: some (.inl (nI 1)) :: lv) [] (zN c s f g) K := by
  induction n with
  | zero =>
    intro f D cl lv hn hP hlv hK
    have h := hK f zFs.rf hP
    have hs := zsu5_lt hP
    rcases hlv with rfl | ⟨a, b, rfl⟩ | ⟨a, b, d, rfl⟩
    all_goals
      refine zb ?_
      refine q_sum (fun t ht => (hP t ht).1) ?_
      refine zip (nI_le (a := 29) (b := zsu5 D) (by omega) (by omega)) ?_
      refine zb ?_
      exact h
  | succ n ih =>
    intro f D cl lv hn hP hlv hK
    have hs := zsu5_lt hP
    by_cases h29 : zsu5 D < 29
    · have e : zrmN f (n + 1) D = if zsu5 D < zsu5 (zrmR f D) then zrmN f n (zrmR f D) else zrmR f D := by
        show (if zsu5 D < 29 then _ else _) = _
        rw [if_pos h29]
      rw [e] at hK
      have h300 : ∀ m f' cl {lv : zL}, zFs f f' → zPm f' (zrmR f D) G → (lv = [] ∨ ∃ v, lv = [v]) → zT sc 51 300 cl (zmo :: m :: some (.inl (nI (zsu5 D))) :: some (.inl (nI 5)) :: lv) [] (zN c s f' g) K := fun m f' cl lv hF hP' hl => by
        have hs' := zsu5_lt hP'
        by_cases hmore : zsu5 D < zsu5 (zrmR f D)
        · rw [if_pos hmore] at hK
          have h217 : ∀ cl lv, zt3 lv → zT sc 51 217 cl (zmo :: some (.inl (nI 1)) :: lv) [] (zN c s f' g) K := fun cl lv h =>
            ih (by omega) hP' h (fun f'' a b => hK f'' (hF.tr a) (by rw [← zrmN_fs hF]; exact b))
          rcases hl with rfl | ⟨v, rfl⟩
          all_goals
            refine zb ?_
            refine q_sum (fun t ht => (hP' t ht).1) ?_
            refine zin (nI_ge (a := zsu5 D) (b := zsu5 (zrmR f D)) hmore (by omega)) ?_
            refine zb ?_
            exact h217 _ _ (by first | exact Or.inr (Or.inl ⟨_, _, rfl⟩) | exact Or.inr (Or.inr ⟨_, _, _, rfl⟩))
        · rw [if_neg hmore] at hK
          have h := hK f' hF hP'
          rcases hl with rfl | ⟨v, rfl⟩
          all_goals
            refine zb ?_
            refine q_sum (fun t ht => (hP' t ht).1) ?_
            refine zip (nI_le (a := zsu5 (zrmR f D)) (b := zsu5 D) (by omega) (by omega)) ?_
            refine zb ?_
            refine zb ?_
            refine zb ?_
            refine zb ?_
            exact h
      rcases hlv with rfl | ⟨a, b, rfl⟩ | ⟨a, b, d, rfl⟩
      all_goals
        refine zb ?_
        refine q_sum (fun t ht => (hP t ht).1) ?_
        refine zin (nI_ge (a := zsu5 D) (b := 29) h29 (by decide)) ?_
        refine q_sum (fun t ht => (hP t ht).1) ?_
        exact q_share_round (f0 := f) (D0 := D) (G := G) 5 (i := 0) rfl zFs.rf hP (by first | exact Or.inl rfl | exact Or.inr ⟨_, rfl⟩) (fun f' cl {lv} a b h => h300 _ f' cl a b h)
    · have e : zrmN f (n + 1) D = D := by
        show (if zsu5 D < 29 then _ else _) = _
        rw [if_neg h29]
      rw [e] at hK
      have h := hK f zFs.rf hP
      rcases hlv with rfl | ⟨a, b, rfl⟩ | ⟨a, b, d, rfl⟩
      all_goals
        refine zb ?_
        refine q_sum (fun t ht => (hP t ht).1) ?_
        refine zip (nI_le (a := 29) (b := zsu5 D) (by omega) (by omega)) ?_
        refine zb ?_
        exact h
theorem zdM_le {f : zM} {W Q : Nat → Nat} (hQ : zQm f W Q) {t : Nat} (ht : t < 5) : zdM f Q t ≤ 5 := by
  unfold zdM
  have := (hQ t ht).2.1
  split
  · omega
  · split <;> omega
theorem q_share {f : zM} (hQ : zQm f W Q) (hK : ∀ f' G, zFs f f' → zPm f' (zrmN f 29 (zabM f W 29 (zdM f Q, fun _ => 0)).1) G → K (.inl none, zN c s f' g)) : zT sc 51 0 true [zmo] [] (zN c s f g) K := by
  refine zb ?_
  refine q_share_init hQ 5 (i := 0) rfl zFs.rf (fun t w => by omega) (fun f1 cl h1 h2 => ?_)
  refine zb ?_
  have hP1 : zPm f1 (zdM f Q) (fun _ => 0) := fun t ht => ⟨(h2 t ht).1, (h2 t ht).2, by have := zdM_le hQ ht; omega, Nat.zero_le _⟩
  refine q_share_need 29 (by omega) hP1 (hQ.fs h1) (Or.inl rfl) (fun f2 cl v lv a b d => ?_)
  rw [zabM_fs h1] at b
  have key : ∀ cl lv, zt3 lv → zT sc 51 217 cl (zmo :: some (.inl (nI 1)) :: lv) [] (zN c s f2 g) K := fun cl lv h =>
    q_share_rounds 29 (by omega) b h (fun f' a' b' => hK f' _ (h1.tr (a.tr a')) (by rw [← zrmN_fs (h1.tr a)]; exact b'))
  rcases d with rfl | ⟨x, y, rfl⟩ | ⟨x, y, z, rfl⟩
  all_goals
    refine zb ?_
    exact key _ _ (by first | exact Or.inl rfl | exact Or.inr (Or.inl ⟨_, _, rfl⟩) | exact Or.inr (Or.inr ⟨_, _, _, rfl⟩))
end MO18
