/-! Backlogs: adding a datagram -/
section AD
variable {sc : zC} {c s t : Nat} {g : zW} {K : zR → Prop} {md : Int32}
/-- a new cell's fields -/
def znc (f : zM) (t p : Nat) (u v n : Int32) (z : Int32) : zM := zup (zup (zup (zup (zup (zup (zup f (6, t, p) 0 u) (6, t, p) 1 v) (6, t, p) 2 n) (6, t, p) 3 0) (6, t, p) 4 0) (6, t, p) 5 0) (4, t, 0) 1 z
def zncR (f : zM) (t p : Nat) (v n : Int32) : zM := zup (zup (zup (zup (zup (zup (zup f (6, t, p) 0 (f (4, t, 0) 2)) (6, t, p) 1 v) (6, t, p) 2 n) (6, t, p) 3 0) (6, t, p) 4 0) (6, t, p) 5 0) (4, t, 0) 1 (zup (zup (zup (zup (zup (zup f (6, t, p) 0 (f (4, t, 0) 2)) (6, t, p) 1 v) (6, t, p) 2 n) (6, t, p) 3 0) (6, t, p) 4 0) (6, t, p) 5 0 (4, t, 0) 1 + nI 1)
theorem zncR_eq {f : zM} {p p' L : Nat} {v n : Int32} (h1 : f (4, t, 0) 1 = nI L) (h2 : f (4, t, 0) 2 = md) (hp : p = p') : zncR f t p v n = znc f t p' md v n (nI (L + 1)) := by
  subst hp
  unfold zncR znc
  rw [h2, zup_ne (fun w => by cases w.1), zup_ne (fun w => by cases w.1), zup_ne (fun w => by cases w.1), zup_ne (fun w => by cases w.1), zup_ne (fun w => by cases w.1), zup_ne (fun w => by cases w.1), h1, nI_add]
def zAd (α α' : zAt) (d n : Nat) (md : Int32) (cs : List Nat) : Prop := (∀ x, x ∉ cs.map (6 * d + ·) → ∀ q, α' x q = α x q) ∧ ∀ i, i ∈ cs → α' (6 * d + i) 0 = md ∧ α' (6 * d + i) 1 = nI i ∧ α' (6 * d + i) 2 = nI n ∧ α' (6 * d + i) 3 = 0 ∧ α' (6 * d + i) 4 = 0 ∧ α' (6 * d + i) 5 = 0
theorem p_add_loop {d n : Nat} (hn : n ≤ 6) (m : Nat) : ∀ {f : zM} {l : List Nat} {α : zAt} {i : Nat} {cl : Bool}, i + m = n → l.length + m ≤ 24 → (∀ j, i ≤ j → j < n → 6 * d + j ∉ l) → zBR f t l α md →
    (∀ f' α', zFr t f f' → zBR f' t (l ++ (List.range' i m).map (6 * d + ·)) α' md → zAd α α' d n md (List.range' i m) → K (.inl (some (.inl md)), zN c s f' g)) →
    ∀ {lv : zL}, (lv = [] ∨ ∃ v, lv = [v]) → zT sc 80 12 cl (zbl t :: some (.inl (nI n)) :: some (.inl (nI i)) :: lv) [] (zN c s f g) K := by
  induction m with
  | zero =>
    intro f l α i cl hi hl hx hB hK lv hlv
    refine zb ?_
    refine zip (nI_le (by omega) (by omega)) ?_
    refine zb ?_
    show K (.inl (some (.inl (f (4, t, 0) 2))), zN c s f g)
    rw [hB.2.2.2.2.2.2]
    refine hK f α zFr.rf ?_ ⟨fun x _ q => rfl, fun j hj => by cases hj⟩
    rw [show (List.range' i 0).map (6 * d + ·) = [] from rfl, List.append_nil]
    exact hB
  | succ m ih =>
    intro f l α i cl hi hl hx hB hK lv hlv
    have h1 := hB.1
    have hp := (hB.2.2.2.1 l.length (by omega)).2
    have hgo : ∀ v, zT sc 80 12 false [zbl t, some (.inl (nI n)), some (.inl (nI i + nI 1)), v] [] (zN c s (znc f t (zps f t l.length) md (nI i) (nI n) (nI (l.length + 1))) g) K := fun v => by
      rw [nI_add]
      have hB2 := hB.push (f' := znc f t (zps f t l.length) md (nI i) (nI n) (nI (l.length + 1))) (x := 6 * d + i) (md' := md) (by omega) (hx i (Nat.le_refl _) (by omega)) zup_eq
        (by unfold znc; rw [zup_ne (fun w => by cases w.2), zup_ne (fun w => by cases w.1), zup_ne (fun w => by cases w.1), zup_ne (fun w => by cases w.1), zup_ne (fun w => by cases w.1), zup_ne (fun w => by cases w.1), zup_ne (fun w => by cases w.1)]; exact hB.2.2.2.2.2.2)
        (fun j => by unfold znc; rw [zup_ne (fun w => by cases w.1), zup_ne (fun w => by cases w.1), zup_ne (fun w => by cases w.1), zup_ne (fun w => by cases w.1), zup_ne (fun w => by cases w.1), zup_ne (fun w => by cases w.1), zup_ne (fun w => by cases w.1)])
        (fun p w q => by
          have hne : ((6, t, p) : zA) ≠ (6, t, zps f t l.length) := fun e => w (congrArg (fun a : zA => a.2.2) e)
          unfold znc
          rw [zup_ne (fun w => by cases w.1), zup_ne (fun w => hne w.1), zup_ne (fun w => hne w.1), zup_ne (fun w => hne w.1), zup_ne (fun w => hne w.1), zup_ne (fun w => hne w.1), zup_ne (fun w => hne w.1)])
      refine ih (by omega) (by rw [List.length_append, List.length_singleton]; omega) (fun j hj hj2 w => ?_) hB2 (fun f' α' k1 k2 k3 => ?_) (lv := [v]) (Or.inr ⟨v, rfl⟩)
      · rcases List.mem_append.mp w with w | w
        · exact hx j (by omega) hj2 w
        · have := List.mem_singleton.mp w
          omega
      · refine hK f' α' (zFr.tr (fun a q w => ?_) k1) ?_ ⟨fun x hx2 q => ?_, fun j hj => ?_⟩
        · have hne : ∀ p, a ≠ (6, t, p) := fun p e => w (by rw [e]; exact ⟨rfl, Or.inr (Or.inr rfl)⟩)
          have hne4 : a ≠ (4, t, 0) := fun e => w (by rw [e]; exact ⟨rfl, Or.inl rfl⟩)
          unfold znc
          rw [zup_ne (fun w => hne4 w.1), zup_ne (fun w => hne _ w.1), zup_ne (fun w => hne _ w.1), zup_ne (fun w => hne _ w.1), zup_ne (fun w => hne _ w.1), zup_ne (fun w => hne _ w.1), zup_ne (fun w => hne _ w.1)]
        · rw [List.range'_succ, List.map_cons, List.append_cons]
          exact k2
        · rw [List.range'_succ, List.map_cons, List.mem_cons, not_or] at hx2
          exact (k3.1 x hx2.2 q).trans (if_neg hx2.1)
        · rw [List.range'_succ, List.mem_cons] at hj
          rcases hj with rfl | hj
          · have hnin : 6 * d + j ∉ (List.range' (j + 1) m).map (6 * d + ·) := fun w => by
              obtain ⟨b, b1, b2⟩ := List.mem_map.mp w
              have := (List.mem_range'_1.mp b1).1
              omega
            have key : ∀ q, α' (6 * d + j) q = znc f t (zps f t l.length) md (nI j) (nI n) (nI (l.length + 1)) (6, t, zps f t l.length) q := fun q => (k3.1 _ hnin q).trans (if_pos rfl)
            refine ⟨?_, ?_, ?_, ?_, ?_, ?_⟩ <;> rw [key] <;> unfold znc <;> simp [zup_at]
          · exact k3.2 j hj
    refine zb ?_
    rcases hlv with rfl | ⟨v, rfl⟩
    all_goals refine zin (nI_ge (a := i) (b := n) (by omega) (by omega)) ?_
    all_goals refine zin (show ¬ (24 : Int32) ≤ f (4, t, 0) 1 by rw [h1]; exact nI_ge (a := l.length) (b := 24) (by omega) (by decide)) ?_
    all_goals refine zin (show ¬ (f (4, t, 0) 1 < 0 ∨ 24 ≤ (f (4, t, 0) 1).toNatClampNeg) by rw [h1]; exact nI_in (by omega) (by decide)) ?_
    all_goals show zT sc 80 12 false [zbl t, some (.inl (nI n)), some (.inl (nI i + nI 1)), _] [] (zN c s (zncR f t ((f (5, t, 0) (f (4, t, 0) 1).toNatClampNeg).toNatClampNeg) (nI i) (nI n)) g) K
    all_goals rw [zncR_eq h1 hB.2.2.2.2.2.2 (p' := zps f t l.length) (by rw [h1, nI_clamp (by omega)]; rfl)]
    all_goals exact hgo _
theorem p_add {f : zM} {l : List Nat} {α : zAt} {d n : Nat} (hn : n ≤ 6) (hl : l.length + n ≤ 24) (hx : ∀ j, j < n → 6 * d + j ∉ l) (hB : zBR f t l α md)
    (hK : ∀ f' α', zFr t f f' → zBR f' t (l ++ (List.range' 0 n).map (6 * d + ·)) α' (md + nI 1) → zAd α α' d n (md + nI 1) (List.range' 0 n) → K (.inl (some (.inl (md + nI 1))), zN c s f' g)) : zT sc 80 0 true [zbl t, some (.inl (nI n))] [] (zN c s f g) K := by
  have h7 := hB.2.2.2.2.2.2
  refine zb ?_
  have hB2 : zBR (zup f (4, t, 0) 2 (f (4, t, 0) 2 + nI 1)) t l α (md + nI 1) := by
    obtain ⟨h1, h2, h3, h4, h5, h6, h7⟩ := hB
    have hp : ∀ j, zps (zup f (4, t, 0) 2 (f (4, t, 0) 2 + nI 1)) t j = zps f t j := fun j => zps_up (by decide)
    refine ⟨by rw [zup_ne (fun w => by cases w.2)]; exact h1, h2, h3, fun j hj => ?_, fun i j hi hj e => ?_, fun j hj q hq => ?_, by rw [zup_eq, h7]⟩
    · rw [hp, zup_ne (fun w => by cases w.1)]
      exact h4 j hj
    · rw [hp, hp] at e
      exact h5 i j hi hj e
    · rw [hp, zup_ne (fun w => by cases w.1)]
      exact h6 j hj q hq
  exact p_add_loop hn n (i := 0) (by omega) hl (fun j _ hj => hx j hj) hB2 (fun f' α' k1 k2 k3 => hK f' α' ((zFr.up (by decide)).tr k1) k2 k3) (lv := []) (Or.inl rfl)
end AD
