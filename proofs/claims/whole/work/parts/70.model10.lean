/-! The reference: a burst in a place -/
theorem zup_tw {f : zM} {a : zA} {k : Nat} {v w : Int32} : zup (zup f a k v) a k w = zup f a k w := by
  funext x j
  rw [zup_at, zup_at, zup_at]
  by_cases q : x = a ∧ j = k
  · rw [if_pos q, if_pos q]
  · rw [if_neg q, if_neg q, if_neg q]
theorem nI_dec (n : Nat) : nI (n + 1) + zK (-1) = nI n := by
  rw [← nI_add n 1, Int32.add_assoc, show nI 1 + zK (-1) = 0 by decide, Int32.add_zero]
/-- the first fresh cell from a on, below e -/
def zFst (R : Nat → Int32) (a e : Nat) (o : Option Nat) : Prop := match o with
  | none => ∀ i, a ≤ i → i < e → ¬ R i = nI 1
  | some i => a ≤ i ∧ i < e ∧ R i = nI 1 ∧ ∀ j, a ≤ j → j < i → ¬ R j = nI 1
def zs1 (f : zM) (t k : Nat) (o : Option Nat) : zM := match o with
  | none => zup (zup f (59, 0, 0) k (nI t)) (60, 0, 0) k (zK (-1))
  | some i => zup (zup (zup (zup (zup f (59, 0, 0) k (nI t)) (60, 0, 0) k (nI i)) (41, 0, 0) i (nI 2)) (42, 0, 0) i (f (30, 0, 0) 1)) (43, 0, 0) i (f (43, 0, 0) i + nI 1)
theorem zs1_ne {f : zM} {t k : Nat} {o : Option Nat} {x : zA} {j : Nat} (h1 : x ≠ (59, 0, 0)) (h2 : x ≠ (60, 0, 0)) (h3 : x ≠ (41, 0, 0)) (h4 : x ≠ (42, 0, 0)) (h5 : x ≠ (43, 0, 0)) : zs1 f t k o x j = f x j := by
  cases o with
  | none => exact (zup_nk h2).trans (zup_nk h1)
  | some i =>
    show zup _ _ _ _ x j = _
    rw [zup_nk h5, zup_nk h4, zup_nk h3, zup_nk h2, zup_nk h1]
section MO10
variable {sc : zC} {c s : Nat} {f : zM} {g : zW} {K : zR → Prop} {t k M : Nat} {z : Nat → Nat}
theorem q_send0_loop (ht : t < 5) (hk : k < 30) (hM : M ≤ 60) (r : Nat) : ∀ {o : Option Nat} {cl : Bool}, r ≤ 6 * M → zFst (f (41, 0, 0)) (366 * t + 6 + r) (366 * t + 6 + 6 * M) o → (∀ o cl w, zFst (f (41, 0, 0)) (366 * t + 6) (366 * t + 6 + 6 * M) o → zT sc 42 68 cl [zmo, some (.inl (nI t)), some (.inl (nI k)), w] [] (zN c s (zup (zup f (59, 0, 0) k (nI t)) (60, 0, 0) k (zopt o)) g) K) → zT sc 42 26 cl [zmo, some (.inl (nI t)), some (.inl (nI k)), some (.inl (nI (366 * t + 5 + r)))] [] (zN c s (zup (zup f (59, 0, 0) k (nI t)) (60, 0, 0) k (zopt o)) g) K := by
  induction r with
  | zero =>
    intro o cl hr ho hK
    refine zb ?_
    refine q_atI ?_
    refine zip (show nI (366 * t + 5 + 0) < nI 6 * (nI 61 * nI t + nI 1) + nI 0 by rw [zat_e]; exact nI_lt (by omega) (by omega)) ?_
    exact hK _ _ _ ho
  | succ r ih =>
    intro o cl hr ho hK
    refine zb ?_
    refine q_atI ?_
    refine zin (show ¬ nI (366 * t + 5 + (r + 1)) < nI 6 * (nI 61 * nI t + nI 1) + nI 0 by rw [zat_e]; exact nI_nlt (by omega) (by omega)) ?_
    refine zin (nI_in (N := 1830) (by omega) (by decide)) ?_
    rw [nI_clamp (show 366 * t + 5 + (r + 1) < 2 ^ 31 by omega)]
    have em : zup (zup f (59, 0, 0) k (nI t)) (60, 0, 0) k (zopt o) (41, 0, 0) (366 * t + 5 + (r + 1)) = f (41, 0, 0) (366 * t + 6 + r) := by
      rw [zup_nk (by decide), zup_nk (by decide)]
      congr 1; omega
    refine zif (fun q => ?_) (fun q => ?_)
    · have q : zup (zup f (59, 0, 0) k (nI t)) (60, 0, 0) k (zopt o) (41, 0, 0) (366 * t + 5 + (r + 1)) = nI 1 := q
      rw [em] at q
      refine zb ?_
      refine zin (nI_in (N := 30) hk (by decide)) ?_
      rw [nI_clamp (show k < 2 ^ 31 by omega)]
      have h := ih (o := some (366 * t + 6 + r)) (cl := false) (by omega) ⟨by omega, by omega, q, fun j h1 h2 => by omega⟩ hK
      rw [← nI_dec (366 * t + 5 + r)] at h
      have e : zup (zup f (59, 0, 0) k (nI t)) (60, 0, 0) k (zopt (some (366 * t + 6 + r))) = zup (zup (zup f (59, 0, 0) k (nI t)) (60, 0, 0) k (zopt o)) (60, 0, 0) k (nI (366 * t + 5 + (r + 1))) := by
        rw [zup_tw, show 366 * t + 5 + (r + 1) = 366 * t + 6 + r by omega]
        rfl
      rw [e] at h
      exact h
    · have q' : ¬ zup (zup f (59, 0, 0) k (nI t)) (60, 0, 0) k (zopt o) (41, 0, 0) (366 * t + 5 + (r + 1)) = nI 1 := q
      rw [em] at q'
      refine zb ?_
      refine zin (nI_in (N := 30) hk (by decide)) ?_
      refine zb ?_
      refine zin (nI_in (N := 30) hk (by decide)) ?_
      rw [nI_clamp (show k < 2 ^ 31 by omega)]
      have h := ih (o := o) (cl := false) (by omega) (by
        cases o with
        | none =>
          intro i h1 h2
          by_cases e : i = 366 * t + 6 + r
          · rw [e]; exact q'
          · exact ho i (by omega) h2
        | some i =>
          obtain ⟨o1, o2, o3, o4⟩ := ho
          refine ⟨by omega, o2, o3, fun j h1 h2 => ?_⟩
          by_cases e : j = 366 * t + 6 + r
          · rw [e]; exact q'
          · exact o4 j (by omega) h2) hK
      rw [← nI_dec (366 * t + 5 + r)] at h
      rw [← zup_self (f := zup (zup f (59, 0, 0) k (nI t)) (60, 0, 0) k (zopt o)) (a := (60, 0, 0)) (k := k)] at h
      exact h
theorem zSz.cg {f f' : zM} (h : zSz f t M z) (h1 : ∀ j, f' (36, 0, 0) j = f (36, 0, 0) j) (h2 : ∀ j, f' (40, 0, 0) j = f (40, 0, 0) j) : zSz f' t M z := ⟨(h1 _).trans h.1, h.2.1, fun d a b => ⟨(h2 _).trans (h.2.2 d a b).1, (h.2.2 d a b).2⟩⟩
theorem zBs.cg {f f' : zM} {b : Nat} (h : zBs f t M z b) (h1 : ∀ j, f' (41, 0, 0) j = f (41, 0, 0) j) : zBs f' t M z b := ⟨h.1, h.2.1, fun d i a b e => (h1 _).trans (h.2.2.1 d i a b e), fun a => by
  obtain ⟨i, h2, h3⟩ := h.2.2.2 a
  exact ⟨i, h2, fun w => h3 ((h1 _).symm.trans w)⟩⟩
theorem q_send0_tail {F : zM} {cl : Bool} {w : Option zV} (ht : t < 5) (hk : k < 30) (hS : zSz F t M z) (hK : ∀ b, zBs F t M z b → K (.inl none, zN c s (zup (zup F (61, 0, 0) k (nI (zmc (F (41, 0, 0)) (nI 1) (366 * t) 366))) (62, 0, 0) k (nI b)) g)) : zT sc 42 119 cl [zmo, some (.inl (nI t)), some (.inl (nI k)), w] [] (zN c s F g) K := by
  refine zb ?_
  refine q_count ht ?_
  refine zin (nI_in (N := 30) hk (by decide)) ?_
  rw [nI_clamp (show k < 2 ^ 31 by omega)]
  refine q_base (f := zup F (61, 0, 0) k (nI (zmc (F (41, 0, 0)) (nI 1) (366 * t) 366))) ht (hS.cg (fun j => zup_nk (by decide)) (fun j => zup_nk (by decide))) (fun b hb => ?_)
  refine zin (nI_in (N := 30) hk (by decide)) ?_
  rw [nI_clamp (show k < 2 ^ 31 by omega)]
  exact hK b (hb.cg (fun j => (zup_nk (by decide)).symm))
theorem q_send0_w {H : zM} {i : Nat} {cl : Bool} {w : Option zV} (hk : k < 30) (hi : i < 1830) (hc : H (60, 0, 0) k = nI i) (hK : zT sc 42 119 false [zmo, some (.inl (nI t)), some (.inl (nI k)), w] [] (zN c s (zup (zup (zup H (41, 0, 0) i (nI 2)) (42, 0, 0) i (H (30, 0, 0) 1)) (43, 0, 0) i (H (43, 0, 0) i + nI 1)) g) K) : zT sc 42 68 cl [zmo, some (.inl (nI t)), some (.inl (nI k)), w] [] (zN c s H g) K := by
  have e1 : (H (60, 0, 0) k).toNatClampNeg = i := by rw [hc, nI_clamp (by omega)]
  have hn : ¬ H (60, 0, 0) k < 0 := by rw [hc]; exact nI_pos (by omega)
  have c2 : zup H (41, 0, 0) i (nI 2) (60, 0, 0) k = nI i := (zup_nk (by decide)).trans hc
  have c3 : zup (zup H (41, 0, 0) i (nI 2)) (42, 0, 0) i (H (30, 0, 0) 1) (60, 0, 0) k = nI i := (zup_nk (by decide)).trans c2
  refine zb ?_
  refine zin (nI_in (N := 30) hk (by decide)) ?_
  rw [nI_clamp (show k < 2 ^ 31 by omega)]
  refine zin hn ?_
  refine zin (nI_in (N := 30) hk (by decide)) ?_
  rw [nI_clamp (show k < 2 ^ 31 by omega)]
  refine zin (show ¬ (H (60, 0, 0) k < 0 ∨ 1830 ≤ (H (60, 0, 0) k).toNatClampNeg) by rw [hc]; exact nI_in (N := 1830) hi (by decide)) ?_
  show zx False sc (zT sc) 42 _ _ false _ _ (zN c s (zup H (41, 0, 0) (H (60, 0, 0) k).toNatClampNeg (nI 2)) g) _
  rw [e1]
  refine zin (nI_in (N := 30) hk (by decide)) ?_
  rw [nI_clamp (show k < 2 ^ 31 by omega)]
  refine zin (show ¬ (zup H (41, 0, 0) i (nI 2) (60, 0, 0) k < 0 ∨ 1830 ≤ (zup H (41, 0, 0) i (nI 2) (60, 0, 0) k).toNatClampNeg) by rw [c2]; exact nI_in (N := 1830) hi (by decide)) ?_
  show zx False sc (zT sc) 42 _ _ false _ _ (zN c s (zup (zup H (41, 0, 0) i (nI 2)) (42, 0, 0) (zup H (41, 0, 0) i (nI 2) (60, 0, 0) k).toNatClampNeg (zup H (41, 0, 0) i (nI 2) (30, 0, 0) 1)) g) _
  rw [c2, nI_clamp (show i < 2 ^ 31 by omega), zup_nk (x := (30, 0, 0)) (by decide)]
  refine zin (nI_in (N := 30) hk (by decide)) ?_
  rw [nI_clamp (show k < 2 ^ 31 by omega)]
  refine zin (show ¬ (zup (zup H (41, 0, 0) i (nI 2)) (42, 0, 0) i (H (30, 0, 0) 1) (60, 0, 0) k < 0 ∨ 1830 ≤ (zup (zup H (41, 0, 0) i (nI 2)) (42, 0, 0) i (H (30, 0, 0) 1) (60, 0, 0) k).toNatClampNeg) by rw [c3]; exact nI_in (N := 1830) hi (by decide)) ?_
  refine zin (show ¬ (zup (zup H (41, 0, 0) i (nI 2)) (42, 0, 0) i (H (30, 0, 0) 1) (60, 0, 0) k < 0 ∨ 1830 ≤ (zup (zup H (41, 0, 0) i (nI 2)) (42, 0, 0) i (H (30, 0, 0) 1) (60, 0, 0) k).toNatClampNeg) by rw [c3]; exact nI_in (N := 1830) hi (by decide)) ?_
  have e4 : H (43, 0, 0) i = zup (zup H (41, 0, 0) i (nI 2)) (42, 0, 0) i (H (30, 0, 0) 1) (43, 0, 0) i := by rw [zup_nk (by decide), zup_nk (by decide)]
  show zT sc 42 119 false _ _ (zN c s (zup (zup (zup H (41, 0, 0) i (nI 2)) (42, 0, 0) i (H (30, 0, 0) 1)) (43, 0, 0) (zup (zup H (41, 0, 0) i (nI 2)) (42, 0, 0) i (H (30, 0, 0) 1) (60, 0, 0) k).toNatClampNeg (zup (zup H (41, 0, 0) i (nI 2)) (42, 0, 0) i (H (30, 0, 0) 1) (43, 0, 0) (zup (zup H (41, 0, 0) i (nI 2)) (42, 0, 0) i (H (30, 0, 0) 1) (60, 0, 0) k).toNatClampNeg + nI 1)) g) K
  rw [c3, nI_clamp (show i < 2 ^ 31 by omega), ← e4]
  exact hK
theorem q_send0 (ht : t < 5) (hk : k < 30) (hS : zSz f t M z) (hK : ∀ o b, zFst (f (41, 0, 0)) (366 * t + 6) (366 * t + 6 + 6 * M) o → zBs (zs1 f t k o) t M z b → K (.inl none, zN c s (zup (zup (zs1 f t k o) (61, 0, 0) k (nI (zmc (zs1 f t k o (41, 0, 0)) (nI 1) (366 * t) 366))) (62, 0, 0) k (nI b)) g)) : zT sc 42 0 true [zmo, some (.inl (nI t)), some (.inl (nI k))] [] (zN c s f g) K := by
  obtain ⟨hM, hM60, hz⟩ := id hS
  refine zb ?_
  refine zin (nI_in (N := 30) hk (by decide)) ?_
  refine zin (nI_in (N := 30) hk (by decide)) ?_
  refine zin (nI_in (N := 5) ht (by decide)) ?_
  rw [nI_clamp (show k < 2 ^ 31 by omega), nI_clamp (show t < 2 ^ 31 by omega)]
  show zT sc 37 0 true [some (.inl (nI t)), some (.inl (zup (zup f (59, 0, 0) k (nI t)) (60, 0, 0) k (zK (-1)) (36, 0, 0) t)), some (.inl (nI 5))] [] _ _
  rw [zup_nk (by decide), zup_nk (by decide), hM]
  refine q_atI ?_
  rw [zat_e]
  have h := q_send0_loop (sc := sc) (K := K) (c := c) (s := s) (g := g) (f := f) (M := M) (cl := false) ht hk hM60 (6 * M) (o := none) (Nat.le_refl _) (fun i h1 h2 => by omega) (fun o cl w ho => ?_)
  · rw [show 366 * t + 5 + 6 * M = 366 * t + 6 * M + 5 by omega] at h
    exact h
  · have hK := fun b => hK o b ho
    cases o with
    | none =>
      refine zb ?_
      refine zin (nI_in (N := 30) hk (by decide)) ?_
      rw [nI_clamp (show k < 2 ^ 31 by omega)]
      refine zip (show zup (zup f (59, 0, 0) k (nI t)) (60, 0, 0) k (zopt none) (60, 0, 0) k < 0 by rw [zup_eq]; decide) ?_
      exact q_send0_tail (F := zup (zup f (59, 0, 0) k (nI t)) (60, 0, 0) k (zK (-1))) ht hk (hS.cg (fun j => (zup_nk (by decide)).trans (zup_nk (by decide))) (fun j => (zup_nk (by decide)).trans (zup_nk (by decide)))) hK
    | some i =>
      obtain ⟨o1, o2, o3, o4⟩ := ho
      refine q_send0_w (H := zup (zup f (59, 0, 0) k (nI t)) (60, 0, 0) k (zopt (some i))) (i := i) hk (by omega) zup_eq ?_
      rw [zup_nk (x := (30, 0, 0)) (by decide), zup_nk (x := (30, 0, 0)) (by decide), zup_nk (x := (43, 0, 0)) (by decide), zup_nk (x := (43, 0, 0)) (by decide)]
      exact q_send0_tail (F := zs1 f t k (some i)) ht hk (hS.cg (fun j => zs1_ne (by decide) (by decide) (by decide) (by decide) (by decide)) (fun j => zs1_ne (by decide) (by decide) (by decide) (by decide) (by decide))) hK
end MO10
