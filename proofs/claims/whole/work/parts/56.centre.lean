/-! What the centre knows -/
section CN
variable {sc : zC} {c s : Nat} {f : zM} {g : zW} {K : zR → Prop} {x y : Int32}
/-- the answer of centre(t, w) -/
def zcen (f : zM) (t w : Nat) : Int32 := match w with
  | 0 => if f (7, t, 0) 0 = 0 then nI 0 else nI 1
  | 1 => f (7, t, 0) 1
  | 2 => f (7, t, 0) 2
  | 3 => f (7, t, 0) 3
  | _ => f (7, t, 0) 4
theorem zsm {y : Int32} {n : Nat} (h : ¬ (y.toInt < 0 ∨ (n : Int) < y.toInt)) (hn : n < 2 ^ 31) : ∃ w, w ≤ n ∧ y = nI w := by
  refine ⟨y.toInt.toNat, by omega, ?_⟩
  rw [← Int32.toInt_inj, nI_toInt (by omega)]
  omega
theorem p_centre (hc : 258 ≤ c) (k1 : ∀ t w, t < 5 → w ≤ 4 → x = nI t → y = nI w → K (.inl (some (.inl (zcen f t w))), zN c s f g)) (k0 : ¬ (zter x ∧ ¬ (y.toInt < 0 ∨ 4 < y.toInt)) → K (.inr (0, (99, c, 0)), zN (c + 1) (s + 6) f g)) : zT sc 9 0 true [zsu, some (.inl x), some (.inl y)] [] (zN c s f g) K := by
  refine zb ?_
  refine p_isTerminal (fun a => ?_) (fun a => ?_)
  · obtain ⟨t, ht, rfl⟩ := zter_n a
    by_cases q : y.toInt < 0 ∨ 4 < y.toInt
    · refine zb ?_
      refine zin (nI_in (N := 5) ht (by decide)) ?_
      rw [nI_clamp (by omega)]
      refine zip q ?_
      refine zb ?_
      exact zib (zthr hc) (k0 (fun w => w.2 q))
    · obtain ⟨w, hw, rfl⟩ := zsm (n := 4) q (by decide)
      have key := k1 t w ht hw rfl rfl
      refine zb ?_
      refine zin (nI_in (N := 5) ht (by decide)) ?_
      rw [nI_clamp (by omega)]
      match w, hw, key with
      | 0, _, key =>
        refine zb ?_
        refine zif (fun q => ?_) (fun q => ?_)
        · have q : f (7, t, 0) 0 = 0 := q
          refine zb ?_
          refine zb ?_
          unfold zcen at key
          rw [if_pos q] at key
          exact key
        · have q : ¬ f (7, t, 0) 0 = 0 := q
          refine zb ?_
          unfold zcen at key
          rw [if_neg q] at key
          exact key
      | 1, _, key => refine zb ?_; exact key
      | 2, _, key => refine zb ?_; exact key
      | 3, _, key => refine zb ?_; exact key
      | 4, _, key => refine zb ?_; exact key
      | n + 5, h, _ => omega
  · exact zib (zthr hc) (k0 (fun w => a w.1))
end CN
