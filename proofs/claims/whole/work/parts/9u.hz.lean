/-! The law's run, from the first block on -/
theorem zlv_nm {n : Nat} {a : zA} (h : zlv n a) : ∃ m, m < n ∧ a = znm m := ⟨znum a, h.2.2, h.2.1.symm⟩
theorem zsim_gen {h h' : zS} (e1 : h'.1 = h.1) (e2 : h'.2.1 = h.2.1) (hs : ∀ a, zlv h.1 a → ∀ k, k < zn a.1 → (zsk (zc a.1) k = 2 → h'.2.2.2.1 a k = h.2.2.2.1 a k) ∧ (¬ zsk (zc a.1) k = 3 → h'.2.2.2.2.1 a k = h.2.2.2.2.1 a k) ∧ (zsk (zc a.1) k = 3 → h'.2.2.2.2.2 a k = h.2.2.2.2.2 a k)) (hn : znew h') : zsim h h' := by
  refine ⟨e1, e2, fun b sa D G H hP => ?_⟩
  obtain ⟨p1, p2, p3, p4, p5⟩ := hP
  refine ⟨by rw [e1]; exact p1, p2, fun a ha => ?_, fun a ha k hk hz hr => ?_, hn⟩
  · rw [e1] at ha
    refine (p3 a ha).kept rfl (fun k hk => ?_)
    obtain ⟨s1, s2, s3⟩ := hs a ha k hk
    unfold zsv
    by_cases q2 : zsk (zc a.1) k = 2
    · rw [if_pos q2, if_pos q2, s1 q2, s2 (by omega)]
    · rw [if_neg q2, if_neg q2]
      by_cases q3 : zsk (zc a.1) k = 3
      · rw [if_pos q3, if_pos q3, s3 q3]
      · rw [if_neg q3, if_neg q3, s2 q3]
  · rw [e1] at ha ⊢
    obtain ⟨s1, s2, s3⟩ := hs a ha k hk
    rw [s2 (by omega)]
    exact p4 a ha k hk hz (by rw [← s1 hz]; exact hr)
theorem zn222 : znm 222 = (30, 0, 0) ∧ zn 30 = 38 ∧ zlb 222 (30, 0, 0) = false := by decide +kernel
theorem zn257 : znm 257 = (70, 0, 0) ∧ ∀ k, k < zn 70 → zsk (zc 70) k = 3 := by decide +kernel
theorem zsimA {h : zS} (e : h.1 = 222 ∧ h.2.1 = 2305 ∧ h.2.2.1 = false) (hA : ∀ n k, n < 222 → k < zn (znm n).1 → ¬ zsk (zc (znm n).1) k = 3 ∧ (zsk (zc (znm n).1) k = 2 → h.2.2.2.1 (znm n) k = true) ∧ h.2.2.2.2.1 (znm n) k = zf0 (znm n) k) (hM : ∀ k, k < 38 → ¬ zsk (zc 30) k = 3 ∧ h.2.2.2.1 (30, 0, 0) k = false ∧ h.2.2.2.2.1 (30, 0, 0) k = 0) : zsim (zal h 38) zhA := by
  obtain ⟨e1, e2, e3⟩ := e
  refine zsim_gen (show 223 = h.1 + 1 by omega) (show 2343 = h.2.1 + 38 by omega) (fun a ha k hk => ?_) (fun _ a ha k => ?_)
  · obtain ⟨m, hm, rfl⟩ := zlv_nm ha
    have hm : m < h.1 + 1 := hm
    by_cases q : m = 222
    · subst q
      rw [zn222.1] at hk ⊢
      obtain ⟨a1, a2, a3⟩ := hM k (by rw [← zn222.2.1]; exact hk)
      refine ⟨fun _ => ?_, fun _ => ?_, fun w => absurd w a1⟩
      · show zlb 222 (30, 0, 0) = h.2.2.2.1 (30, 0, 0) k
        rw [a2, zn222.2.2]
      · show (bif zlb 222 (30, 0, 0) then zf0 (30, 0, 0) k else 0) = h.2.2.2.2.1 (30, 0, 0) k
        rw [a3, zn222.2.2]; rfl
    · obtain ⟨a1, a2, a3⟩ := hA m k (by omega) hk
      have zl := zlb_ok m (by omega)
      refine ⟨fun w => ?_, fun _ => ?_, fun w => absurd w a1⟩
      · show zlb 222 (znm m) = h.2.2.2.1 (znm m) k
        rw [a2 w, zl]
      · show (bif zlb 222 (znm m) then zf0 (znm m) k else 0) = h.2.2.2.2.1 (znm m) k
        rw [a3, zl]; rfl
  · have zl : zlb 222 a = false := by
      cases e : zlb 222 a with
      | false => rfl
      | true =>
        refine absurd ?_ ha
        simp only [zlb, Bool.and_eq_true] at e
        exact ⟨Nat.le_of_ble_eq_true e.1, zeq_eq e.2.1, Nat.lt_of_lt_of_le (Nat.le_of_ble_eq_true e.2.2 : znum a < 222) (by show 222 ≤ 223; omega)⟩
    refine ⟨zl, ?_, rfl⟩
    show (bif zlb 222 a then zf0 a k else 0) = 0
    rw [zl]; rfl
theorem zsimC {h : zS} (e : h.1 = 257 ∧ h.2.1 = 10718 ∧ h.2.2.1 = false) (hA : ∀ n k, n < 257 → k < zn (znm n).1 → ¬ zsk (zc (znm n).1) k = 3 ∧ (zsk (zc (znm n).1) k = 2 → h.2.2.2.1 (znm n) k = true) ∧ h.2.2.2.2.1 (znm n) k = zf0 (znm n) k) : zsim (zal h 1) (zN 258 10719 zf0 h.2.2.2.2.2) := by
  obtain ⟨e1, e2, e3⟩ := e
  refine zsim_gen (show 258 = h.1 + 1 by omega) (show 10719 = h.2.1 + 1 by omega) (fun a ha k hk => ?_) (fun w => absurd (show true = false from w) (by decide))
  obtain ⟨m, hm, rfl⟩ := zlv_nm ha
  have hm : m < h.1 + 1 := hm
  by_cases q : m = 257
  · subst q
    rw [zn257.1] at hk ⊢
    have e := zn257.2 k hk
    exact ⟨fun w => absurd (e.symm.trans w) (by decide), fun w => absurd e w, fun _ => rfl⟩
  · obtain ⟨a1, a2, a3⟩ := hA m k (by omega) hk
    exact ⟨fun w => (a2 w).symm, fun _ => a3.symm, fun w => absurd w a1⟩
set_option maxRecDepth 100000 in
theorem zrun_all {L : Nat} {xs : Nat → Int32} (hL : L ≤ 2048) : zx False (some (L, xs)) (zJ (some (L, xs))) 124 (zcode 124 0) 0 true zlv0 [] zh00 zKe := by
  obtain ⟨h1, e1, a1, m1, T1⟩ := zctor1 (sc := some (L, xs))
  obtain ⟨h2, e2, a2, T2⟩ := zctor2 (sc := some (L, xs))
  have sA := zsimA e1 a1 m1
  have sC := zsimC e2 a2
  obtain ⟨c1, s1, b1, r1, f1, g1⟩ := h1
  obtain ⟨c2, s2, b2, r2, f2, g2⟩ := h2
  obtain ⟨x1, x2, x3⟩ := (e1 : c1 = 222 ∧ s1 = 2305 ∧ b1 = false)
  obtain ⟨y1, y2, y3⟩ := (e2 : c2 = 257 ∧ s2 = 10718 ∧ b2 = false)
  subst x1 x2 x3 y1 y2 y3
  refine ⟨zh1, zsim_rf _, T1 _ ?_⟩
  refine ⟨zhA, sA, T2 _ ?_⟩
  refine ⟨zN 258 10719 zf0 g2, sC, ?_⟩
  exact J_loop hL 2048 (i := 0) (tl := []) (by omega) (by omega) (by omega) (by omega) (by omega) zf0_Iv (Or.inl rfl)
theorem hz : ∀ l : Launch, l.flags = flags0 → ∀ L xs, L ≤ 2048 → zRun l L xs := fun l hl L xs hL => by
  have O : zOwe l (some (L, xs)) := z_owe hl
  obtain ⟨r, k1, -, -, S⟩ := zx_sound O (zJ_sound O) (zcode 124 0) 0 true zlv0 [] zh00 zKe (zF_code 124 0) (zrun_all hL)
  exact ⟨r, k1, S⟩
