/-! The planner: by need, in rounds, guarantees -/
theorem zwan_pf {f f' : zM} (h : zPf f f') (D : Nat → Nat) (t : Nat) : zwan f' D t = zwan f D t := by
  unfold zwan
  rw [zIn.pf h, h (7, t, 0) 1 (by show ¬ ((7 : Nat) = 13 ∨ (7 : Nat) = 14 ∨ (7 : Nat) = 15); decide)]
theorem znb_pf {f f' : zM} (h : zPf f f') (D G W : Nat → Nat) : znb f' D G W = znb f D G W := by
  funext b t
  unfold znb
  rw [zwan_pf h]
theorem znb_some {f : zM} {D G W : Nat → Nat} : ∀ (l : List Nat) (b : Option Nat) {x : Nat}, l.foldl (znb f D G W) b = some x → b = some x ∨ (x ∈ l ∧ zwan f D x = true)
  | [], b, x, h => Or.inl h
  | t :: l, b, x, h => by
    rcases znb_some l _ h with q | q
    · have key : ∀ (y : Bool), (bif zwan f D t && y then some t else b) = some x → b = some x ∨ (t = x ∧ zwan f D t = true) := fun y w => by
        cases hw : zwan f D t
        · rw [hw] at w
          exact Or.inl w
        · rw [hw] at w
          cases y
          · exact Or.inl w
          · exact Or.inr ⟨Option.some.inj w, rfl⟩
      rcases key _ q with w | ⟨rfl, w⟩
      · exact Or.inl w
      · exact Or.inr ⟨List.mem_cons_self, w⟩
    · exact Or.inr ⟨List.mem_cons_of_mem _ q.1, q.2⟩
abbrev zDGS : Type := (Nat → Nat) × (Nat → Nat) × Nat
/-- adding by need -/
def zabn (f : zM) (W : Nat → Nat) : Nat → zDGS → zDGS
  | 0, w => w
  | n + 1, w => if w.2.2 < 29 then (match (List.range' 0 5).foldl (znb f w.1 w.2.1 W) none with
    | none => w
    | some t => zabn f W n (zfu w.1 t (w.1 t + 1), zfu w.2.1 t (w.2.1 t + 1), w.2.2 + 1)) else w
theorem zabn_pf {f f' : zM} (h : zPf f f') (W : Nat → Nat) : ∀ n w, zabn f' W n w = zabn f W n w
  | 0, w => rfl
  | n + 1, w => by
    unfold zabn
    rw [znb_pf h]
    split
    · split
      · rfl
      · exact zabn_pf h W n _
    · rfl
section PL2
variable {sc : zC} {c s : Nat} {g : zW} {K : zR → Prop} {W : Nat → Nat}
theorem p_abn_loop (n : Nat) : ∀ {f : zM} {D G : Nat → Nat} {S i : Nat} {cl : Bool}, i + n = 29 → zPR f D G S → zPW f W → (∀ t, t < 5 → G t ≤ i) → (∀ f', zPf f f' → zPR f' (zabn f W n (D, G, S)).1 (zabn f W n (D, G, S)).2.1 (zabn f W n (D, G, S)).2.2 → K (.inl none, zN c s f' g)) → ∀ {lv : zL}, (lv = [] ∨ ∃ v, lv = [v]) → zT sc 96 2 cl (zpl0 :: zte0 :: zac0 :: some (.inl (nI i)) :: lv) [] (zN c s f g) K := by
  induction n with
  | zero =>
    intro f D G S i cl hi hP hW hG hK lv hlv
    refine zb ?_
    refine zip (nI_le (a := 29) (b := i) (by omega) (by omega)) ?_
    refine zb ?_
    exact hK f zPf.rf hP
  | succ n ih =>
    intro f D G S i cl hi hP hW hG hK lv hlv
    have eS := hP.2.1
    have hS := hP.2.2
    by_cases q : S < 29
    · cases hb : (List.range' 0 5).foldl (znb f D G W) none with
      | none =>
        have e : zabn f W (n + 1) (D, G, S) = (D, G, S) := by
          unfold zabn
          rw [if_pos q]
          simp only [hb]
        rw [e] at hK
        refine zb ?_
        rcases hlv with rfl | ⟨v, rfl⟩
        all_goals refine zin (nI_ge (a := i) (b := 29) (by omega) (by decide)) ?_
        all_goals refine zin (show ¬ nI 29 ≤ f (13, 0, 0) 2 by rw [eS]; exact nI_ge (a := S) (b := 29) q (by decide)) ?_
        all_goals refine p_next hP hW ?_
        all_goals rw [hb]
        all_goals refine p_isTerminal (x := zopt none) (fun w => absurd w (by unfold zter zopt; decide +kernel)) (fun w => ?_)
        all_goals exact hK f zPf.rf hP
      | some t =>
        have ht := znb_some _ _ hb
        rcases ht with w | ⟨w1, w2⟩
        · cases w
        have ht : t < 5 := by
          have := (List.mem_range'_1.mp w1).2
          omega
        obtain ⟨e1, e2, e3, e4⟩ := hP.1 t ht
        have hD9 : D t < 9 := by
          unfold zwan at w2
          simp only [Bool.and_eq_true, decide_eq_true_eq] at w2
          exact w2.2.1
        have hGt := hG t ht
        have e : zabn f W (n + 1) (D, G, S) = zabn f W n (zfu D t (D t + 1), zfu G t (G t + 1), S + 1) := by
          conv => lhs; unfold zabn
          rw [if_pos q]
          simp only [hb]
        rw [e] at hK
        have hP1 : zPR (zup f (15, 0, 0) t (f (15, 0, 0) t + nI 1)) D (zfu G t (G t + 1)) S := by
          refine ⟨fun x hx => ?_, by rw [zup_ne (fun w => by cases w.1)]; exact eS, hS⟩
          obtain ⟨x1, x2, x3, x4⟩ := hP.1 x hx
          refine ⟨by rw [zup_ne (fun w => by cases w.1)]; exact x1, ?_, x3, ?_⟩
          · rw [zup_at, e2, nI_add]
            unfold zfu
            by_cases q : x = t
            · rw [if_pos ⟨rfl, q⟩, if_pos q]
            · rw [if_neg (fun w => q w.2), if_neg q]
              exact x2
          · unfold zfu
            split <;> omega
        have hgo : ∀ b, zT sc 96 34 b [zpl0, zte0, zac0, some (.inl (nI i)), some (.inl (nI t))] [] (zN c s f g) K := fun b => by
          refine zb ?_
          refine zin (nI_in (N := 5) ht (by decide)) ?_
          refine zin (nI_in (N := 5) ht (by decide)) ?_
          rw [nI_clamp (show t < 2 ^ 31 by omega)]
          refine p_addOne (f := zup f (15, 0, 0) t (f (15, 0, 0) t + nI 1)) hP1 ht (by omega) (by omega) (fun f1 k1 k2 => ?_)
          show zT sc 96 2 _ [zpl0, zte0, zac0, some (.inl (nI i + nI 1)), some (.inl (nI t))] [] (zN c s f1 g) K
          rw [nI_add]
          have hf : zPf f f1 := (zPf.up (Or.inr (Or.inr rfl))).tr k1
          refine ih (by omega) k2 (hW.pf hf) (fun x hx => ?_) (fun f' k3 k4 => ?_) (lv := [some (.inl (nI t))]) (Or.inr ⟨_, rfl⟩)
          · have := hG x hx
            unfold zfu
            split <;> omega
          · rw [zabn_pf hf] at k4
            exact hK f' (hf.tr k3) k4
        refine zb ?_
        rcases hlv with rfl | ⟨v, rfl⟩
        all_goals refine zin (nI_ge (a := i) (b := 29) (by omega) (by decide)) ?_
        all_goals refine zin (show ¬ nI 29 ≤ f (13, 0, 0) 2 by rw [eS]; exact nI_ge (a := S) (b := 29) q (by decide)) ?_
        all_goals refine p_next hP hW ?_
        all_goals rw [hb]
        all_goals refine p_isTerminal (x := zopt (some t)) (fun w => ?_) (fun w => absurd (zter_of ht) w)
        all_goals exact hgo _
    · have e : zabn f W (n + 1) (D, G, S) = (D, G, S) := by
        unfold zabn
        rw [if_neg q]
      rw [e] at hK
      refine zb ?_
      refine zin (nI_ge (a := i) (b := 29) (by omega) (by decide)) ?_
      refine zip (show nI 29 ≤ f (13, 0, 0) 2 by rw [eS]; exact nI_le (by omega) (by omega)) ?_
      refine zb ?_
      exact hK f zPf.rf hP
theorem p_abn {f : zM} {D G : Nat → Nat} {S : Nat} (hP : zPR f D G S) (hW : zPW f W) (hG : ∀ t, t < 5 → G t = 0) (hK : ∀ f', zPf f f' → zPR f' (zabn f W 29 (D, G, S)).1 (zabn f W 29 (D, G, S)).2.1 (zabn f W 29 (D, G, S)).2.2 → K (.inl none, zN c s f' g)) : zT sc 96 0 true [zpl0, zte0, zac0] [] (zN c s f g) K := by
  refine zb ?_
  exact p_abn_loop 29 (i := 0) rfl hP hW (fun t ht => by rw [hG t ht]; exact Nat.le_refl _) hK (lv := []) (Or.inl rfl)
/-- one terminal's turn in a round -/
def zair (f : zM) (w : (Nat → Nat) × Nat) (t : Nat) : (Nat → Nat) × Nat := if w.2 < 29 ∧ zIn f t = true ∧ w.1 t < 9 then (zfu w.1 t (w.1 t + 1), w.2 + 1) else w
theorem zair_pf {f f' : zM} (h : zPf f f') : zair f' = zair f := by
  funext w t
  unfold zair
  rw [zIn.pf h]
def zround (f : zM) (w : (Nat → Nat) × Nat) : (Nat → Nat) × Nat := (List.range' 0 5).foldl (zair f) w
def zrounds (f : zM) : Nat → (Nat → Nat) × Nat → (Nat → Nat) × Nat
  | 0, w => w
  | n + 1, w => zrounds f n (zround f w)
theorem p_round {r : Nat} {G : Nat → Nat} (n : Nat) : ∀ {f : zM} {D : Nat → Nat} {S i : Nat} {cl : Bool}, i + n = 5 → zPR f D G S → (∀ f' b, zPf f f' → zPR f' ((List.range' i n).foldl (zair f) (D, S)).1 G ((List.range' i n).foldl (zair f) (D, S)).2 → zT sc 99 44 b [zpl0, zac0, some (.inl (nI r)), some (.inl (nI 5))] [] (zN c s f' g) K) → zT sc 99 10 cl [zpl0, zac0, some (.inl (nI r)), some (.inl (nI i))] [] (zN c s f g) K := by
  induction n with
  | zero =>
    intro f D S i cl hi hP hK
    refine zb ?_
    refine zip (nI_le (a := 5) (b := i) (by omega) (by omega)) ?_
    have e : i = 5 := by omega
    subst e
    exact hK f _ zPf.rf hP
  | succ n ih =>
    intro f D S i cl hi hP hK
    have hi5 : i < 5 := by omega
    have eS := hP.2.1
    have hS := hP.2.2
    rw [List.range'_succ, List.foldl_cons] at hK
    have hno : ∀ b, zair f (D, S) i = (D, S) → zT sc 99 38 b [zpl0, zac0, some (.inl (nI r)), some (.inl (nI i))] [] (zN c s f g) K := fun b w => by
      rw [w] at hK
      refine zb ?_
      show zT sc 99 10 b [zpl0, zac0, some (.inl (nI r)), some (.inl (nI i + nI 1))] [] (zN c s f g) K
      rw [nI_add]
      exact ih (by omega) hP hK
    refine zb ?_
    refine zin (nI_ge (a := i) (b := 5) (by omega) (by decide)) ?_
    by_cases q : S < 29
    · refine zin (show ¬ nI 29 ≤ f (13, 0, 0) 2 by rw [eS]; exact nI_ge (a := S) (b := 29) q (by decide)) ?_
      refine p_may hP hi5 (fun q1 q2 => ?_) (fun q1 => ?_)
      · have e : zair f (D, S) i = (zfu D i (D i + 1), S + 1) := by
          unfold zair
          rw [if_pos ⟨q, q1, q2⟩]
        rw [e] at hK
        refine p_addOne hP hi5 (by omega) (by omega) (fun f1 k1 k2 => ?_)
        refine zb ?_
        show zT sc 99 10 _ [zpl0, zac0, some (.inl (nI r)), some (.inl (nI i + nI 1))] [] (zN c s f1 g) K
        rw [nI_add]
        refine ih (by omega) k2 (fun f' b k3 k4 => ?_)
        rw [zair_pf k1] at k4
        exact hK f' b (k1.tr k3) k4
      · refine hno _ ?_
        unfold zair
        rw [if_neg (fun w => q1 w.2)]
    · refine zip (show nI 29 ≤ f (13, 0, 0) 2 by rw [eS]; exact nI_le (by omega) (by omega)) ?_
      refine hno _ ?_
      unfold zair
      rw [if_neg (fun w => q w.1)]
end PL2
