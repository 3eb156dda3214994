/-! What the constructors leave -/
def zf0 (a : zA) (k : Nat) : Int32 := match a.1 with
  | 3 => bif Nat.beq k 1 then nI 1 else 0
  | 5 => nI k
  | 7 => bif Nat.beq k 2 then nI 1 else bif Nat.beq k 5 then zK (-7) else 0
  | 17 => zK (-1)
  | 19 => bif Nat.beq k 0 || Nat.beq k 3 then zK (-1) else 0
  | 21 => zK (-1)
  | 39 => nI 1
  | 47 => nI 1
  | 55 => zK (-1)
  | 56 => zK (-1)
  | _ => 0
theorem zf0_bit : ∀ (n b : Nat), zbit6 zf0 b n = 0
  | 0, _ => rfl
  | n + 1, b => by
    show zbit6 zf0 b n + (if zf0 (50, 0, 0) (b + n) = 0 then 0 else 2 ^ n) = 0
    rw [zf0_bit n b, if_pos (show zf0 (50, 0, 0) (b + n) = 0 from rfl)]
theorem zf0_row (p : Nat) : zRow zf0 p := ⟨rfl, fun _ _ => Or.inl rfl, fun j k t _ _ ht _ w _ => absurd (show zK (-1) = nI t from w).symm (zK1 (by omega))⟩
theorem zf0_Iv : zIv zf0 := by
  have h0 : (0 : Int32) = nI 0 := nI_0.symm
  have ps : ∀ t j, j < 24 → zps zf0 t j = j := fun t j hj => nI_clamp (show j < 2 ^ 31 by omega)
  refine ⟨0, fun _ => [], fun _ _ _ => 0, fun _ => 0, fun _ _ => 0, fun _ => 1, fun _ => 0, fun t ht => ⟨⟨?_, rfl, ⟨h0, Nat.zero_le _, fun d a b => absurd (show d ≤ 0 from b) (by omega)⟩, ?_, ⟨Or.inl h0, fun w => ?_⟩, ?_⟩, ⟨⟨rfl, rfl, rfl, rfl, fun d hd => ?_⟩, fun d hd => Or.inl h0, rfl, Or.inl rfl, ⟨1, by omega, by omega, rfl⟩, Or.inl rfl, Or.inl rfl⟩, fun p hp => ?_⟩, ⟨fun p j _ _ => rfl, fun p _ => zf0_row p, fun _ _ => rfl, fun _ _ => rfl, h0, h0, by omega, rfl⟩, fun p k _ _ => Or.inr (Or.inl ⟨rfl, h0⟩), fun t _ => ⟨h0, Nat.zero_le _, rfl, Nat.le_refl _, (show 1 ≤ 4 by omega)⟩, fun _ => Nat.one_pos, fun _ => 0, fun _ => 0, 0, fun t _ => ⟨h0, h0, (show 0 < 100 by omega), (show 0 < 100 by omega)⟩, h0, by omega⟩
  · exact ⟨rfl, rfl, rfl, rfl, fun _ => rfl, rfl, rfl⟩
  · have e41 : ∀ i, zf0 (41, 0, 0) i = nI 0 := fun _ => h0
    have ne : ∀ i n, n = 1 ∨ n = 2 → ¬ zf0 (41, 0, 0) i = nI n := fun i n hn w => by
      have := (nI_eq (a := 0) (b := n) (by omega) (by omega)).mp ((e41 i).symm.trans w)
      omega
    refine ⟨List.Pairwise.nil, fun i => ⟨fun w => absurd w List.not_mem_nil, fun w => ?_⟩, fun i w => absurd w List.not_mem_nil, fun i _ w => ?_, fun i _ _ => ⟨e41 _, h0⟩, fun i _ => ⟨fun w => ?_, fun w => ?_⟩⟩
    · rcases w.2 with w | w
      · exact absurd w (ne _ 1 (by omega))
      · exact absurd w (ne _ 2 (by omega))
    · obtain ⟨w1, w2, -⟩ := w
      have w2 : i / 6 ≤ 0 := w2
      omega
    · exact absurd w (ne _ 1 (by omega))
    · exact absurd w (ne _ 2 (by omega))
  · have := (nI_eq (a := 0) (b := 1) (by omega) (by omega)).mp (h0.symm.trans w)
    omega
  · refine ⟨h0, by simp, List.nodup_nil, fun j hj => ⟨by rw [ps t j hj]; rfl, by rw [ps t j hj]; exact hj⟩, fun i j hi hj w => by rw [ps t i hi, ps t j hj] at w; exact w, fun j hj => absurd hj (by simp), h0⟩
  · refine ⟨0, by omega, h0, h0, ?_, fun k _ w => absurd (show zf0 (50, 0, 0) _ = 0 from rfl) w⟩
    rw [zf0_bit]; exact h0
  · refine ⟨rfl, rfl, ?_, [], ⟨h0, by simp, fun i hi => absurd hi (by simp)⟩, fun x => ⟨fun w => absurd w List.not_mem_nil, ?_⟩⟩
    · rw [if_pos (show zf0 (52, 0, 0) _ = 0 from rfl)]; exact h0
    · rintro ⟨k, i, -, -, w, -⟩
      exact absurd (show zK (-1) = nI t from w).symm (zK1 (by omega))
