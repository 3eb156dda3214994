/-! The planner: all places; a whole plan -/
abbrev zRD : Type := (Nat → Int32) × (Nat → Nat)
noncomputable def zgs (w : zRD) (k : Nat) : zRD := if k = 0 then w else match zpick w.1 w.2 (k / 3) (k % 3) with
  | none => w
  | some x => ((fun j => if j = k then nI x else w.1 j), zfu w.2 x (w.2 x - 1))
def zGf (p : Nat) (f f' : zM) : Prop := ∀ a k, a ≠ (17, p, 0) → ¬ (a.1 = 13 ∨ a.1 = 14 ∨ a.1 = 15) → f' a k = f a k
theorem zGf.rf {p : Nat} {f : zM} : zGf p f f := fun _ _ _ _ => rfl
theorem zGf.tr {p : Nat} {f f' f'' : zM} (h : zGf p f f') (h' : zGf p f' f'') : zGf p f f'' := fun a k q r => (h' a k q r).trans (h a k q r)
theorem zGf.of {p : Nat} {f f' : zM} (h : zPf f f') : zGf p f f' := fun a k _ r => h a k r
section PL6
variable {sc : zC} {c s : Nat} {g : zW} {K : zR → Prop} {G : Nat → Nat} {S p : Nat}
theorem p_gs_in {sl : Nat} (hsl : sl < 10) (n : Nat) : ∀ {f : zM} {D : Nat → Nat} {ca : Nat} {cl : Bool}, ca + n = 3 → zPR f D G S → (∀ f' b, zGf p f f' → f' (17, p, 0) = ((List.range' (3 * sl + ca) n).foldl zgs (f (17, p, 0), D)).1 → zPR f' ((List.range' (3 * sl + ca) n).foldl zgs (f (17, p, 0), D)).2 G S → zT sc 102 41 b [zpl0, zrow p, some (.inl (nI sl)), some (.inl (nI 3))] [] (zN c s f' g) K) → zT sc 102 15 cl [zpl0, zrow p, some (.inl (nI sl)), some (.inl (nI ca))] [] (zN c s f g) K := by
  induction n with
  | zero =>
    intro f D ca cl hn hP hK
    refine zb ?_
    refine zip (nI_le (a := 3) (b := ca) (by omega) (by omega)) ?_
    have e : ca = 3 := by omega
    subst e
    exact hK f _ zGf.rf rfl hP
  | succ n ih =>
    intro f D ca cl hn hP hK
    rw [List.range'_succ, List.foldl_cons] at hK
    have e2 : nI sl * nI 3 + nI ca = nI (sl * 3 + ca) := by rw [nI_mul, nI_add]
    have hgo : ∀ (f1 : zM) (D1 : Nat → Nat) b, zGf p f f1 → (f1 (17, p, 0), D1) = zgs (f (17, p, 0), D) (3 * sl + ca) → zPR f1 D1 G S → zT sc 102 35 b [zpl0, zrow p, some (.inl (nI sl)), some (.inl (nI ca))] [] (zN c s f1 g) K := fun f1 D1 b h1 h2 h3 => by
      refine zb ?_
      show zT sc 102 15 b [zpl0, zrow p, some (.inl (nI sl)), some (.inl (nI ca + nI 1))] [] (zN c s f1 g) K
      rw [nI_add]
      refine ih (by omega) h3 (fun f' b' k1 k2 k3 => ?_)
      rw [h2] at k2 k3
      exact hK f' b' (h1.tr k1) k2 k3
    refine zb ?_
    refine zin (nI_ge (a := ca) (b := 3) (by omega) (by decide)) ?_
    refine p_positionOf ?_
    by_cases q : sl * 3 + ca = 0
    · refine zip (show nI sl * nI 3 + nI ca = 0 by rw [e2, q]; exact nI_0) ?_
      refine hgo f D _ zGf.rf ?_ hP
      unfold zgs
      rw [if_pos (by omega)]
    · refine zin (show ¬ nI sl * nI 3 + nI ca = 0 by rw [e2]; exact nI_ne0 (by omega) (by omega)) ?_
      have d1 : (3 * sl + ca) / 3 = sl := by omega
      have d2 : (3 * sl + ca) % 3 = ca := by omega
      refine p_givePlace hsl (show ca < 3 by omega) hP (fun w => ?_) (fun x w h2 => ?_)
      · refine hgo f D _ zGf.rf ?_ hP
        unfold zgs
        rw [if_neg (by omega), d1, d2]
        simp only [w]
      · refine hgo _ (zfu D x (D x - 1)) _ (fun a k r1 r2 => ?_) ?_ h2
        · rw [zup_ne (fun w => r2 (by rw [w.1]; exact Or.inr (Or.inl rfl))), zup_ne (fun w => r1 w.1)]
        · unfold zgs
          rw [if_neg (by omega), d1, d2]
          simp only [w]
          refine Prod.ext ?_ rfl
          funext j
          show zup (zup f (17, p, 0) (sl * 3 + ca) (nI x)) (14, 0, 0) x (nI (D x - 1)) (17, p, 0) j = _
          rw [zup_ne (fun w => by cases w.1), zup_at, show sl * 3 + ca = 3 * sl + ca by omega]
          simp
theorem p_gs_out (n : Nat) : ∀ {f : zM} {D : Nat → Nat} {sl : Nat} {cl : Bool}, sl + n = 10 → zPR f D G S → (∀ f', zGf p f f' → f' (17, p, 0) = ((List.range' (3 * sl) (3 * n)).foldl zgs (f (17, p, 0), D)).1 → zPR f' ((List.range' (3 * sl) (3 * n)).foldl zgs (f (17, p, 0), D)).2 G S → K (.inl none, zN c s f' g)) → ∀ {lv : zL}, (lv = [] ∨ ∃ v, lv = [v]) → zT sc 102 7 cl (zpl0 :: zrow p :: some (.inl (nI sl)) :: lv) [] (zN c s f g) K := by
  induction n with
  | zero =>
    intro f D sl cl hn hP hK lv hlv
    refine zb ?_
    refine zip (nI_le (a := 10) (b := sl) (by omega) (by omega)) ?_
    refine zb ?_
    exact hK f zGf.rf rfl hP
  | succ n ih =>
    intro f D sl cl hn hP hK lv hlv
    rw [show 3 * (n + 1) = 3 + 3 * n by omega, ← List.range'_append_1, List.foldl_append] at hK
    have hgo : ∀ b, zT sc 102 15 b [zpl0, zrow p, some (.inl (nI sl)), some (.inl (nI 0))] [] (zN c s f g) K := fun b => by
      refine p_gs_in (show sl < 10 by omega) 3 (ca := 0) rfl hP (fun f1 b1 k1 k2 k3 => ?_)
      refine zb ?_
      show zT sc 102 7 b1 [zpl0, zrow p, some (.inl (nI sl + nI 1)), some (.inl (nI 3))] [] (zN c s f1 g) K
      rw [nI_add]
      rw [Nat.add_zero] at k2 k3
      refine ih (by omega) k3 (fun f' k4 k5 k6 => ?_) (lv := [some (.inl (nI 3))]) (Or.inr ⟨_, rfl⟩)
      rw [k2, show 3 * (sl + 1) = 3 * sl + 3 by omega] at k5 k6
      exact hK f' (k1.tr k4) k5 k6
    refine zb ?_
    rcases hlv with rfl | ⟨v, rfl⟩
    all_goals refine zin (nI_ge (a := sl) (b := 10) (by omega) (by decide)) ?_
    all_goals exact hgo _
noncomputable def zgsAll (R : Nat → Int32) (D : Nat → Nat) : zRD := (List.range' 0 30).foldl zgs ((fun k => if k < 30 then zK (-1) else R k), D)
theorem p_givePlaces {f : zM} {D : Nat → Nat} (hP : zPR f D G S) (hK : ∀ f', zGf p f f' → f' (17, p, 0) = (zgsAll (f (17, p, 0)) D).1 → zPR f' (zgsAll (f (17, p, 0)) D).2 G S → K (.inl none, zN c s f' g)) : zT sc 102 0 true [zpl0, zrow p] [] (zN c s f g) K := by
  refine zb ?_
  refine p_fill (fun f1 h1 => ?_)
  have hR : f1 (17, p, 0) = fun k => if k < 30 then zK (-1) else f (17, p, 0) k := by
    funext k
    rw [h1]
    simp
  have hne : ∀ a k, a ≠ (17, p, 0) → f1 a k = f a k := fun a k w => by rw [h1, if_neg (fun q => w q.1)]
  have hP1 : zPR f1 D G S := ⟨fun t ht => by rw [hne _ _ (fun w => by cases w), hne _ _ (fun w => by cases w)]; exact hP.1 t ht, by rw [hne _ _ (fun w => by cases w)]; exact hP.2.1, hP.2.2⟩
  refine p_gs_out 10 (sl := 0) rfl hP1 (fun f' k1 k2 k3 => ?_) (lv := []) (Or.inl rfl)
  rw [hR] at k2 k3
  exact hK f' (fun a k r1 r2 => (k1 a k r1 r2).trans (hne a k r1)) k2 k3
/-- a plan -/
noncomputable def zplan (f : zM) (W Q D0 G0 : Nat → Nat) (p : Nat) : zRD :=
  let w := zabn f W 29 ((List.range' 0 5).foldl (zsg f Q) (D0, G0, 0))
  zgsAll (f (17, p, 0)) (zrounds f 9 (w.1, w.2.2)).1
theorem zsg_G {f : zM} {Q : Nat → Nat} {w : zDGS} : ∀ t, t < 5 → ((List.range' 0 5).foldl (zsg f Q) w).2.1 t = 0 := by
  intro t ht
  show (zfu (zfu (zfu (zfu (zfu w.2.1 0 0) 1 0) 2 0) 3 0) 4 0) t = 0
  unfold zfu
  split
  · rfl
  · split
    · rfl
    · split
      · rfl
      · split
        · rfl
        · rw [if_pos (by omega)]
theorem p_plan {f : zM} {D0 G0 Q W : Nat → Nat} {S0 : Nat} (hP : zPR f D0 G0 S0) (hQ : zPQ f Q) (hW : zPW f W) (hK : ∀ f' D G S, zGf p f f' → f' (17, p, 0) = (zplan f W Q D0 G0 p).1 → zPR f' D G S → K (.inl none, zN c s f' g)) : zT sc 94 0 true [zpl0, zrow p, zte0, zac0] [] (zN c s f g) K := by
  refine zb ?_
  refine p_sg hP hQ (fun f1 a1 a2 => ?_)
  refine p_abn a2 (hW.pf a1) zsg_G (fun f2 b1 b2 => ?_)
  refine p_air b2 (fun f3 c1 c2 => ?_)
  refine p_givePlaces c2 (fun f4 d1 d2 d3 => ?_)
  have h12 := a1.tr b1
  rw [zabn_pf a1, zrounds_pf h12] at d2
  rw [((h12.tr c1) (17, p, 0) · (by show ¬ ((17 : Nat) = 13 ∨ (17 : Nat) = 14 ∨ (17 : Nat) = 15); decide)) |> funext] at d2
  exact hK f4 _ _ _ ((zGf.of (h12.tr c1)).tr d1) d2 d3
end PL6
