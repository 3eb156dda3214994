/-! The centre listens -/
def zhr (f : zM) (sn : Nat → Option Nat) (j : Nat) : Int32 := bif zheB f sn j then zopt (sn j) else zK (-1)
/-- after the first k places -/
def zls (f : zM) (sn : Nat → Option Nat) (k : Nat) : zM := fun x j => if x = (20, 0, 0) ∧ j < k then 0 else if x = (21, 0, 0) ∧ j < k then zhr f sn j else f x j
theorem zls_ne {f : zM} {sn : Nat → Option Nat} {k : Nat} {x : zA} {j : Nat} (h1 : x ≠ (20, 0, 0)) (h2 : x ≠ (21, 0, 0)) : zls f sn k x j = f x j := by
  unfold zls
  rw [if_neg (fun w => h1 w.1), if_neg (fun w => h2 w.1)]
theorem zls_0 {f : zM} {sn : Nat → Option Nat} : zls f sn 0 = f := by
  funext x j
  unfold zls
  rw [if_neg (fun w => Nat.not_lt_zero _ w.2), if_neg (fun w => Nat.not_lt_zero _ w.2)]
theorem zls_succ {f : zM} {sn : Nat → Option Nat} {k : Nat} : zup (zup (zls f sn k) (21, 0, 0) k (zhr f sn k)) (20, 0, 0) k 0 = zls f sn (k + 1) := by
  funext x j
  rw [zup_at, zup_at]
  unfold zls
  by_cases a : x = (20, 0, 0)
  · have b : x ≠ (21, 0, 0) := fun w => by rw [a] at w; cases w
    by_cases q : j = k
    · rw [if_pos ⟨a, q⟩, if_pos ⟨a, by omega⟩]
    · rw [if_neg (fun w => q w.2), if_neg (fun w => b w.1)]
      by_cases r : j < k
      · rw [if_pos ⟨a, r⟩, if_pos ⟨a, by omega⟩]
      · rw [if_neg (fun w => r w.2), if_neg (fun w => b w.1), if_neg (fun w => by have := w.2; omega), if_neg (fun w => b w.1)]
  · rw [if_neg (c := x = (20, 0, 0) ∧ j = k) (fun w => a w.1), if_neg (c := x = (20, 0, 0) ∧ j < k) (fun w => a w.1), if_neg (c := x = (20, 0, 0) ∧ j < k + 1) (fun w => a w.1)]
    by_cases b : x = (21, 0, 0)
    · by_cases q : j = k
      · rw [if_pos ⟨b, q⟩, if_pos ⟨b, by omega⟩, q]
      · rw [if_neg (c := x = (21, 0, 0) ∧ j = k) (fun w => q w.2)]
        by_cases r : j < k
        · rw [if_pos ⟨b, r⟩, if_pos ⟨b, by omega⟩]
        · rw [if_neg (c := x = (21, 0, 0) ∧ j < k) (fun w => r w.2), if_neg (c := x = (21, 0, 0) ∧ j < k + 1) (fun w => by have := w.2; omega)]
    · rw [if_neg (c := x = (21, 0, 0) ∧ j = k) (fun w => b w.1), if_neg (c := x = (21, 0, 0) ∧ j < k) (fun w => b w.1), if_neg (c := x = (21, 0, 0) ∧ j < k + 1) (fun w => b w.1)]
theorem zls_Sn {f : zM} {sn : Nat → Option Nat} {k : Nat} (h : zSn f sn) : zSn (zls f sn k) sn := fun j hj => by
  rw [zls_ne (fun w => by cases w) (fun w => by cases w)]
  exact h j hj
theorem zls_ofs {f : zM} {sn : Nat → Option Nat} {k j : Nat} : zofs (zls f sn k) sn j = zofs f sn j := by
  unfold zofs
  split
  · rfl
  · split
    · rfl
    · exact zls_ne (fun w => by cases w) (fun w => by cases w)
theorem zls_he {f : zM} {sn : Nat → Option Nat} {k : Nat} : zheB (zls f sn k) sn k = zheB f sn k := by
  have e1 : zls f sn k (20, 0, 0) k = f (20, 0, 0) k := by
    unfold zls
    rw [if_neg (fun w => by have := w.2; omega), if_neg (fun w => by cases w.1)]
  have e2 : zls f sn k (0, 0, 0) 7 = f (0, 0, 0) 7 := zls_ne (fun w => by cases w) (fun w => by cases w)
  unfold zheB zclr zofA zofB
  rw [e1, e2, zls_ofs, zls_ofs, zls_ofs]
def zct (f : zM) (sn : Nat → Option Nat) : Nat → Nat
  | 0 => 0
  | k + 1 => zct f sn k + (bif zheB f sn k then 1 else 0)
section LI
variable {sc : zC} {c s : Nat} {g : zW} {K : zR → Prop}
theorem zhr_1 {f : zM} {sn : Nat → Option Nat} (hS : zSn f sn) {k : Nat} (hk : k < 30) : zhr f sn k = zK (-1) ↔ zheB f sn k = false := by
  unfold zhr
  cases h : zheB f sn k
  · exact ⟨fun _ => rfl, fun _ => rfl⟩
  · refine ⟨fun w => ?_, fun w => by cases w⟩
    have hs : (sn k).isSome = true := by
      unfold zheB at h
      rw [Bool.and_eq_true] at h
      exact h.1
    cases hk2 : sn k with
    | none => rw [hk2] at hs; cases hs
    | some t =>
      rw [hk2] at w
      exact absurd w (zK1 (by have := (hS k hk).2 t hk2; omega))
theorem p_listen_in {f : zM} {sn : Nat → Option Nat} (hS : zSn f sn) {sl : Nat} (hsl : sl < 10) (hK : ∀ b lv, (lv = [] ∨ ∃ v, lv = [v]) → zT sc 25 82 b (zsu :: some (.inl (nI (zct f sn (sl * 3 + 3)))) :: some (.inl (nI sl)) :: some (.inl (nI 3)) :: lv) [] (zN c s (zls f sn (sl * 3 + 3)) g) K) (n : Nat) : ∀ {ca : Nat} {cl : Bool} {lv : zL}, ca + n = 3 → (lv = [] ∨ ∃ v, lv = [v]) → zT sc 25 12 cl (zsu :: some (.inl (nI (zct f sn (sl * 3 + ca)))) :: some (.inl (nI sl)) :: some (.inl (nI ca)) :: lv) [] (zN c s (zls f sn (sl * 3 + ca)) g) K := by
  induction n with
  | zero =>
    intro ca cl lv hn hlv
    have e : ca = 3 := by omega
    subst e
    refine zb ?_
    exact hK _ lv hlv
  | succ n ih =>
    intro ca cl lv hn hlv
    have e2 : nI sl * nI 3 + nI ca = nI (sl * 3 + ca) := by rw [nI_mul, nI_add]
    have hk : sl * 3 + ca < 30 := by omega
    have hS' := zls_Sn (k := sl * 3 + ca) hS
    have hgo : ∀ b v, v = zhr f sn (sl * 3 + ca) → zT sc 25 53 b [zsu, some (.inl (nI (zct f sn (sl * 3 + ca)))), some (.inl (nI sl)), some (.inl (nI ca)), some (.inl (nI (sl * 3 + ca)))] [.inl v, .inl (nI (sl * 3 + ca)), .inr (.inl (21, 0, 0))] (zN c s (zls f sn (sl * 3 + ca)) g) K := fun b v hv => by
      subst hv
      refine zb ?_
      refine zin (nI_in (N := 30) hk (by decide)) ?_
      refine zin (nI_in (N := 30) hk (by decide)) ?_
      refine zin (nI_in (N := 30) hk (by decide)) ?_
      rw [nI_clamp (show sl * 3 + ca < 2 ^ 31 by omega)]
      have e5 : zup (zup (zls f sn (sl * 3 + ca)) (21, 0, 0) (sl * 3 + ca) (zhr f sn (sl * 3 + ca))) (20, 0, 0) (sl * 3 + ca) 0 (21, 0, 0) (sl * 3 + ca) = zhr f sn (sl * 3 + ca) := by
        rw [zup_ne (fun w => by cases w.1), zup_eq]
      have hz : zct f sn (sl * 3 + (ca + 1)) = zct f sn (sl * 3 + ca) + (bif zheB f sn (sl * 3 + ca) then 1 else 0) := rfl
      refine zif (fun q => ?_) (fun q => ?_)
      · have q := (zhr_1 hS hk).mp (e5.symm.trans q)
        refine zb ?_
        show zT sc 25 12 false [zsu, some (.inl (nI (zct f sn (sl * 3 + ca)))), some (.inl (nI sl)), some (.inl (nI ca + nI 1)), some (.inl (nI (sl * 3 + ca)))] [] (zN c s (zup (zup (zls f sn (sl * 3 + ca)) (21, 0, 0) (sl * 3 + ca) (zhr f sn (sl * 3 + ca))) (20, 0, 0) (sl * 3 + ca) 0) g) K
        rw [nI_add, zls_succ]
        have := ih (ca := ca + 1) (cl := false) (lv := [some (.inl (nI (sl * 3 + ca)))]) (by omega) (Or.inr ⟨_, rfl⟩)
        rw [hz, q] at this
        exact this
      · have q : zheB f sn (sl * 3 + ca) = true := by
          cases h : zheB f sn (sl * 3 + ca)
          · exact absurd (e5.trans ((zhr_1 hS hk).mpr h)) q
          · rfl
        refine zb ?_
        show zT sc 25 12 false [zsu, some (.inl (nI (zct f sn (sl * 3 + ca)) + nI 1)), some (.inl (nI sl)), some (.inl (nI ca + nI 1)), some (.inl (nI (sl * 3 + ca)))] [] (zN c s (zup (zup (zls f sn (sl * 3 + ca)) (21, 0, 0) (sl * 3 + ca) (zhr f sn (sl * 3 + ca))) (20, 0, 0) (sl * 3 + ca) 0) g) K
        rw [nI_add, nI_add, zls_succ]
        have := ih (ca := ca + 1) (cl := false) (lv := [some (.inl (nI (sl * 3 + ca)))]) (by omega) (Or.inr ⟨_, rfl⟩)
        rw [hz, q] at this
        exact this
    refine zb ?_
    rcases hlv with rfl | ⟨v, rfl⟩
    all_goals refine zin (nI_ge (a := ca) (b := 3) (by omega) (by decide)) ?_
    all_goals refine p_positionOf ?_
    all_goals rw [e2]
    all_goals refine p_isHeard hS' hsl (show ca < 3 by omega) (fun w => ?_) (fun w => ?_)
    all_goals rw [zls_he] at w
    · refine zin (nI_in (N := 30) hk (by decide)) ?_
      rw [nI_clamp (show sl * 3 + ca < 2 ^ 31 by omega)]
      refine hgo _ _ ?_
      unfold zhr
      rw [w]
      exact (hS' _ hk).1
    · refine zb ?_
      refine hgo _ _ ?_
      unfold zhr
      rw [w]
      rfl
    · refine zin (nI_in (N := 30) hk (by decide)) ?_
      rw [nI_clamp (show sl * 3 + ca < 2 ^ 31 by omega)]
      refine hgo _ _ ?_
      unfold zhr
      rw [w]
      exact (hS' _ hk).1
    · refine zb ?_
      refine hgo _ _ ?_
      unfold zhr
      rw [w]
      rfl
theorem p_listen_out {f : zM} {sn : Nat → Option Nat} (hS : zSn f sn) (hK : K (.inl (some (.inl (nI (zct f sn 30)))), zN c s (zls f sn 30) g)) (n : Nat) : ∀ {sl : Nat} {cl : Bool} {lv : zL}, sl + n = 10 → (lv = [] ∨ (∃ u, lv = [u]) ∨ ∃ u v, lv = [u, v]) → zT sc 25 4 cl (zsu :: some (.inl (nI (zct f sn (sl * 3)))) :: some (.inl (nI sl)) :: lv) [] (zN c s (zls f sn (sl * 3)) g) K := by
  induction n with
  | zero =>
    intro sl cl lv hn hlv
    have e : sl = 10 := by omega
    subst e
    refine zb ?_
    refine zb ?_
    exact hK
  | succ n ih =>
    intro sl cl lv hn hlv
    have hgo : ∀ b lv, (lv = [] ∨ ∃ v, lv = [v]) → zT sc 25 12 b (zsu :: some (.inl (nI (zct f sn (sl * 3)))) :: some (.inl (nI sl)) :: some (.inl (nI 0)) :: lv) [] (zN c s (zls f sn (sl * 3)) g) K := fun b lv hl => by
      refine p_listen_in hS (show sl < 10 by omega) (fun b2 lv2 hl2 => ?_) 3 (ca := 0) rfl hl
      refine zb ?_
      show zT sc 25 4 b2 (zsu :: some (.inl (nI (zct f sn (sl * 3 + 3)))) :: some (.inl (nI sl + nI 1)) :: some (.inl (nI 3)) :: lv2) [] (zN c s (zls f sn (sl * 3 + 3)) g) K
      rw [nI_add, show sl * 3 + 3 = (sl + 1) * 3 by omega]
      refine ih (by omega) ?_
      rcases hl2 with rfl | ⟨v, rfl⟩
      · exact Or.inr (Or.inl ⟨_, rfl⟩)
      · exact Or.inr (Or.inr ⟨_, _, rfl⟩)
    refine zb ?_
    rcases hlv with rfl | ⟨u, rfl⟩ | ⟨u, v, rfl⟩
    all_goals refine zin (nI_ge (a := sl) (b := 10) (by omega) (by decide)) ?_
    · exact hgo _ [] (Or.inl rfl)
    · exact hgo _ [] (Or.inl rfl)
    · exact hgo _ [v] (Or.inr ⟨v, rfl⟩)
theorem p_listen {f : zM} {sn : Nat → Option Nat} (hS : zSn f sn) (hK : K (.inl (some (.inl (nI (zct f sn 30)))), zN c s (zls f sn 30) g)) : zT sc 25 0 true [zsu] [] (zN c s f g) K := by
  refine zb ?_
  have h := p_listen_out (sc := sc) hS hK 10 (sl := 0) (cl := true) (lv := []) rfl (Or.inl rfl)
  rw [Nat.zero_mul, zls_0] at h
  exact h
end LI
