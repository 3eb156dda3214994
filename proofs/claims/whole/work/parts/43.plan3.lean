/-! The planner: all rounds, guarantees, where a place can be used -/
theorem zrounds_pf {f f' : zM} (h : zPf f f') : ∀ n w, zrounds f' n w = zrounds f n w
  | 0, w => rfl
  | n + 1, w => by
    unfold zrounds zround
    rw [zair_pf h]
    exact zrounds_pf h n _
section PL3
variable {sc : zC} {c s : Nat} {g : zW} {K : zR → Prop}
theorem p_air_loop {G : Nat → Nat} (n : Nat) : ∀ {f : zM} {D : Nat → Nat} {S r : Nat} {cl : Bool}, r + n = 9 → zPR f D G S → (∀ f', zPf f f' → zPR f' (zrounds f n (D, S)).1 G (zrounds f n (D, S)).2 → K (.inl none, zN c s f' g)) → ∀ {lv : zL}, (lv = [] ∨ ∃ v, lv = [v]) → zT sc 99 2 cl (zpl0 :: zac0 :: some (.inl (nI r)) :: lv) [] (zN c s f g) K := by
  induction n with
  | zero =>
    intro f D S r cl hr hP hK lv hlv
    refine zb ?_
    refine zip (nI_le (a := 9) (b := r) (by omega) (by omega)) ?_
    refine zb ?_
    exact hK f zPf.rf hP
  | succ n ih =>
    intro f D S r cl hr hP hK lv hlv
    have hgo : ∀ b, zT sc 99 10 b [zpl0, zac0, some (.inl (nI r)), some (.inl (nI 0))] [] (zN c s f g) K := fun b => by
      refine p_round (G := G) 5 (i := 0) rfl hP (fun f1 b1 k1 k2 => ?_)
      refine zb ?_
      show zT sc 99 2 b1 [zpl0, zac0, some (.inl (nI r + nI 1)), some (.inl (nI 5))] [] (zN c s f1 g) K
      rw [nI_add]
      refine ih (by omega) k2 (fun f' k3 k4 => ?_) (lv := [some (.inl (nI 5))]) (Or.inr ⟨_, rfl⟩)
      rw [zrounds_pf k1] at k4
      exact hK f' (k1.tr k3) k4
    refine zb ?_
    rcases hlv with rfl | ⟨v, rfl⟩
    all_goals refine zin (nI_ge (a := r) (b := 9) (by omega) (by decide)) ?_
    all_goals exact hgo _
theorem p_air {f : zM} {D G : Nat → Nat} {S : Nat} (hP : zPR f D G S) (hK : ∀ f', zPf f f' → zPR f' (zrounds f 9 (D, S)).1 G (zrounds f 9 (D, S)).2 → K (.inl none, zN c s f' g)) : zT sc 99 0 true [zpl0, zac0] [] (zN c s f g) K := by
  refine zb ?_
  exact p_air_loop 9 (r := 0) rfl hP hK (lv := []) (Or.inl rfl)
/-- the guarantees -/
def zPQ (f : zM) (Q : Nat → Nat) : Prop := ∀ t, t < 5 → f (3, t, 0) 0 = nI (Q t) ∧ Q t < 100
theorem zPQ.pf {f f' : zM} {Q : Nat → Nat} (h : zPf f f') (hQ : zPQ f Q) : zPQ f' Q := fun t ht => by
  rw [h _ _ (by show ¬ ((3 : Nat) = 13 ∨ (3 : Nat) = 14 ∨ (3 : Nat) = 15); decide)]
  exact hQ t ht
def zd0 (f : zM) (Q : Nat → Nat) (t : Nat) : Nat := if zIn f t = true then (if Q t < 1 then 1 else Q t) else 0
def zsg (f : zM) (Q : Nat → Nat) (w : zDGS) (t : Nat) : zDGS := (zfu w.1 t (zd0 f Q t), zfu w.2.1 t 0, w.2.2 + zd0 f Q t)
theorem zsg_pf {f f' : zM} (h : zPf f f') (Q : Nat → Nat) : zsg f' Q = zsg f Q := by
  funext w t
  unfold zsg zd0
  rw [zIn.pf h]
theorem p_sg_loop {Q : Nat → Nat} (n : Nat) : ∀ {f : zM} {D G : Nat → Nat} {S i : Nat} {cl : Bool}, i + n = 5 → zPR f D G S → zPQ f Q → S ≤ 100 * i → (∀ f', zPf f f' → zPR f' ((List.range' i n).foldl (zsg f Q) (D, G, S)).1 ((List.range' i n).foldl (zsg f Q) (D, G, S)).2.1 ((List.range' i n).foldl (zsg f Q) (D, G, S)).2.2 → K (.inl none, zN c s f' g)) → zT sc 95 7 cl [zpl0, zte0, zac0, some (.inl (nI i))] [] (zN c s f g) K := by
  induction n with
  | zero =>
    intro f D G S i cl hi hP hQ hS hK
    refine zb ?_
    refine zip (nI_le (a := 5) (b := i) (by omega) (by omega)) ?_
    refine zb ?_
    exact hK f zPf.rf hP
  | succ n ih =>
    intro f D G S i cl hi hP hQ hS hK
    have hi5 : i < 5 := by omega
    obtain ⟨q1, q2⟩ := hQ i hi5
    rw [List.range'_succ, List.foldl_cons] at hK
    have h1 : zPf f (zup f (15, 0, 0) i 0) := zPf.up (Or.inr (Or.inr rfl))
    have hd : zd0 f Q i < 100 := by
      unfold zd0
      split
      · split <;> omega
      · omega
    have hgo : ∀ b v, v = nI (zd0 f Q i) → zT sc 95 47 b [zpl0, zte0, zac0, some (.inl (nI i))] [.inl v, .inl (nI i), .inr (.inl (14, 0, 0))] (zN c s (zup f (15, 0, 0) i 0) g) K := fun b v hv => by
      subst hv
      refine zb ?_
      refine zin (nI_in (N := 5) hi5 (by decide)) ?_
      refine zin (nI_in (N := 5) hi5 (by decide)) ?_
      rw [nI_clamp (show i < 2 ^ 31 by omega)]
      show zT sc 95 7 false [zpl0, zte0, zac0, some (.inl (nI i + nI 1))] [] (zN c s (zup (zup (zup f (15, 0, 0) i 0) (14, 0, 0) i (nI (zd0 f Q i))) (13, 0, 0) 2 (zup (zup f (15, 0, 0) i 0) (14, 0, 0) i (nI (zd0 f Q i)) (13, 0, 0) 2 + zup (zup f (15, 0, 0) i 0) (14, 0, 0) i (nI (zd0 f Q i)) (14, 0, 0) i)) g) K
      rw [zup_eq, zup_ne (a := (14, 0, 0)) (x := (13, 0, 0)) (fun w => by cases w.1), zup_ne (a := (15, 0, 0)) (x := (13, 0, 0)) (fun w => by cases w.1), hP.2.1, nI_add, nI_add]
      have hf : zPf f (zup (zup (zup f (15, 0, 0) i 0) (14, 0, 0) i (nI (zd0 f Q i))) (13, 0, 0) 2 (nI (S + zd0 f Q i))) := (h1.tr (zPf.up (Or.inr (Or.inl rfl)))).tr (zPf.up (Or.inl rfl))
      refine ih (D := zfu D i (zd0 f Q i)) (G := zfu G i 0) (S := S + zd0 f Q i) (by omega) ⟨fun x hx => ?_, zup_eq, by omega⟩ (hQ.pf hf) (by omega) (fun f' k1 k2 => ?_)
      · obtain ⟨x1, x2, x3, x4⟩ := hP.1 x hx
        refine ⟨?_, ?_, ?_, ?_⟩
        · rw [zup_ne (fun w => by cases w.1), zup_at]
          unfold zfu
          by_cases q : x = i
          · rw [if_pos ⟨rfl, q⟩, if_pos q]
          · rw [if_neg (fun w => q w.2), if_neg q, zup_ne (fun w => by cases w.1)]
            exact x1
        · rw [zup_ne (fun w => by cases w.1), zup_ne (fun w => by cases w.1), zup_at]
          unfold zfu
          by_cases q : x = i
          · rw [if_pos ⟨rfl, q⟩, if_pos q]
            exact nI_0.symm
          · rw [if_neg (fun w => q w.2), if_neg q]
            exact x2
        · unfold zfu
          split <;> omega
        · unfold zfu
          split <;> omega
      · rw [zsg_pf hf] at k2
        exact hK f' (hf.tr k1) k2
    refine zb ?_
    refine zin (nI_ge (a := i) (b := 5) (by omega) (by decide)) ?_
    refine zin (nI_in (N := 5) hi5 (by decide)) ?_
    refine zin (nI_in (N := 5) hi5 (by decide)) ?_
    rw [nI_clamp (show i < 2 ^ 31 by omega)]
    have e7 : zup f (15, 0, 0) i 0 (7, i, 0) 0 = f (7, i, 0) 0 := zup_ne (fun w => by cases w.1)
    have e3 : zup f (15, 0, 0) i 0 (3, i, 0) 0 = nI (Q i) := (zup_ne (fun w => by cases w.1)).trans q1
    refine zif (fun q => ?_) (fun q => ?_)
    · have q : zup f (15, 0, 0) i 0 (7, i, 0) 0 = 0 := q
      rw [e7] at q
      refine zb ?_
      refine hgo _ _ ?_
      unfold zd0 zIn
      rw [decide_eq_true q]
      rfl
    · have q : ¬ zup f (15, 0, 0) i 0 (7, i, 0) 0 = 0 := q
      rw [e7] at q
      refine zin (nI_in (N := 5) hi5 (by decide)) ?_
      rw [nI_clamp (show i < 2 ^ 31 by omega)]
      refine hgo _ (if zup f (15, 0, 0) i 0 (3, i, 0) 0 < nI 1 then nI 1 else zup f (15, 0, 0) i 0 (3, i, 0) 0) ?_
      rw [e3]
      unfold zd0 zIn
      rw [decide_eq_false q, if_pos (show (!false) = true from rfl)]
      by_cases w : Q i < 1
      · rw [if_pos w, if_pos (nI_lt w (by decide))]
      · rw [if_neg w, if_neg (nI_nlt (by omega) (by omega))]
end PL3
