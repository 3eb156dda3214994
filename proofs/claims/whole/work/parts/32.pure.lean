/-! The pure part: specs of the methods, on a heap that is built -/
abbrev zM : Type := zA → Nat → Int32
abbrev zW : Type := zA → Nat → Int64
/-- a built heap -/
abbrev zN (c s : Nat) (f : zM) (g : zW) : zS := (c, s, true, (fun _ _ => true), f, g)
theorem zif {c A B : Prop} [Decidable c] (a : c → A) (b : ¬ c → B) : (if c then A else B) := by
  by_cases q : c
  · rw [if_pos q]; exact a q
  · rw [if_neg q]; exact b q
theorem zip {c A B : Prop} [Decidable c] (h : c) (a : A) : (if c then A else B) := by rw [if_pos h]; exact a
theorem zin {c A B : Prop} [Decidable c] (h : ¬ c) (b : B) : (if c then A else B) := by rw [if_neg h]; exact b
theorem zib {c : Bool} {A B : Prop} (h : c = true) (a : A) : (bif c then A else B) := by rw [h]; exact a
theorem ile {x y : Int32} : x ≤ y ↔ ¬ y < x := by
  rw [Int32.le_iff_toInt_le, Int32.lt_iff_toInt_lt]; omega
section P1
variable {sc : zC} {h : zS} {K : zR → Prop} {x y lo hi : Int32}
theorem p_isWithin (h1 : lo ≤ x → x ≤ hi → K (.inl (some (.inl (nI 1))), h)) (h0 : ¬ (lo ≤ x ∧ x ≤ hi) → K (.inl (some (.inl (nI 0))), h)) : zT sc 14 0 true [some (.inl x), some (.inl lo), some (.inl hi)] [] h K := by
  refine zT_blk B_SU_isWithin_0 rfl ?_
  refine zif (fun q => ?_) (fun q => ?_)
  · refine zT_blk B_SU_isWithin_14 rfl ?_
    refine zT_blk B_SU_isWithin_15 rfl ?_
    exact h0 (fun w => ile.mp w.1 q)
  · refine zif (fun q2 => ?_) (fun q2 => ?_)
    · refine zT_blk B_SU_isWithin_14 rfl ?_
      refine zT_blk B_SU_isWithin_15 rfl ?_
      exact h0 (fun w => ile.mp w.2 q2)
    · refine zT_blk B_SU_isWithin_15 rfl ?_
      exact h1 (ile.mpr q) (ile.mpr q2)
def zter (x : Int32) : Prop := 0 ≤ x ∧ x ≤ 4
theorem p_isTerminal (h1 : zter x → K (.inl (some (.inl (nI 1))), h)) (h0 : ¬ zter x → K (.inl (some (.inl (nI 0))), h)) : zT sc 15 0 true [some (.inl x)] [] h K := by
  refine zT_blk B_SU_isTerminal_0 rfl ?_
  exact p_isWithin (fun a b => h1 ⟨a, b⟩) (fun a => h0 a)
def zslo (x y : Int32) : Prop := (0 ≤ x ∧ x ≤ 9) ∧ (0 ≤ y ∧ y ≤ 2)
theorem p_isSlot (h1 : zslo x y → K (.inl (some (.inl (nI 1))), h)) (h0 : ¬ zslo x y → K (.inl (some (.inl (nI 0))), h)) : zT sc 16 0 true [some (.inl x), some (.inl y)] [] h K := by
  refine zT_blk B_SU_isSlot_0 rfl ?_
  refine p_isWithin (fun a b => ?_) (fun a => ?_)
  · refine p_isWithin (fun a2 b2 => ?_) (fun a2 => ?_)
    · refine zT_blk B_SU_isSlot_24 rfl ?_
      exact h1 ⟨⟨a, b⟩, a2, b2⟩
    · refine zT_blk B_SU_isSlot_23 rfl ?_
      refine zT_blk B_SU_isSlot_24 rfl ?_
      exact h0 (fun w => a2 w.2)
  · refine zT_blk B_SU_isSlot_23 rfl ?_
    refine zT_blk B_SU_isSlot_24 rfl ?_
    exact h0 (fun w => a w.1)
theorem p_isAhead (h1 : 0 ≤ x ∧ x ≤ 1 → K (.inl (some (.inl (nI 1))), h)) (h0 : ¬ (0 ≤ x ∧ x ≤ 1) → K (.inl (some (.inl (nI 0))), h)) : zT sc 17 0 true [some (.inl x)] [] h K := by
  refine zT_blk B_SU_isAhead_0 rfl ?_
  exact p_isWithin (fun a b => h1 ⟨a, b⟩) (fun a => h0 a)
theorem p_positionOf (h1 : K (.inl (some (.inl (x * nI 3 + y))), h)) : zT sc 18 0 true [some (.inl x), some (.inl y)] [] h K := by
  refine zT_blk B_SU_positionOf_0 rfl ?_
  exact h1
end P1
/-- a small number, as an Int32 -/
theorem zter_n {x : Int32} (h : zter x) : ∃ t, t < 5 ∧ x = nI t := by
  obtain ⟨h1, h2⟩ := h
  rw [Int32.le_iff_toInt_le] at h1 h2
  have e0 : (0 : Int32).toInt = 0 := rfl
  have e4 : (4 : Int32).toInt = 4 := rfl
  rw [e0] at h1
  rw [e4] at h2
  refine ⟨x.toInt.toNat, by omega, ?_⟩
  rw [← Int32.toInt_inj, nI_toInt (by omega)]
  omega
theorem zter_of {t : Nat} (h : t < 5) : zter (nI t) := by
  constructor <;> rw [Int32.le_iff_toInt_le, nI_toInt (by omega)]
  · show (0 : Int) ≤ _; omega
  · show _ ≤ (4 : Int); omega
section P2
variable {sc : zC} {c s : Nat} {f : zM} {g : zW} {K : zR → Prop} {x y z : Int32}
theorem p_rates (hc : 258 ≤ c) (h1 : ∀ t, t < 5 → x = nI t → (0 ≤ y ∧ y ≤ 5) → (1 ≤ z ∧ z ≤ 4) → K (.inl none, zN c s (zup (zup f (3, t, 0) 0 y) (3, t, 0) 1 z) g)) (h0 : ¬ (zter x ∧ (0 ≤ y ∧ y ≤ 5) ∧ (1 ≤ z ∧ z ≤ 4)) → K (.inr (0, (99, c, 0)), zN (c + 1) (s + 6) f g)) : zT sc 1 0 true [some (.inr (.inl (0, 0, 0))), some (.inl x), some (.inl y), some (.inl z)] [] (zN c s f g) K := by
  have hc' : (true && (Nat.ble 258 c && Nat.ble 0 8)) = true := by
    rw [Bool.and_eq_true, Bool.and_eq_true]; exact ⟨rfl, Nat.ble_eq_true_of_le hc, rfl⟩
  refine zT_blk B_SU_rates_0 rfl ?_
  refine p_isTerminal (fun a => ?_) (fun a => ?_)
  · obtain ⟨t, ht, rfl⟩ := zter_n a
    refine zT_blk B_SU_rates_17 rfl ?_
    refine p_isWithin (fun a1 b1 => ?_) (fun a1 => ?_)
    · refine p_isWithin (fun a2 b2 => ?_) (fun a2 => ?_)
      · refine zT_blk B_SU_rates_45 rfl ?_
        refine zin (nI_in (N := 5) ht (by decide)) ?_
        refine zin (nI_in (N := 5) ht (by decide)) ?_
        rw [nI_clamp (by omega)]
        exact h1 t ht rfl ⟨a1, b1⟩ ⟨a2, b2⟩
      · refine zT_blk B_SU_rates_35 rfl ?_
        exact zib hc' (h0 (fun w => a2 w.2.2))
    · refine zT_blk B_SU_rates_35 rfl ?_
      exact zib hc' (h0 (fun w => a1 w.2.1))
  · exact zib hc' (h0 (fun w => a w.1))
end P2
