/-! Upkeep of the accounts -/
theorem nI_or (a b : Nat) : nI a ||| nI b = nI (a ||| b) := by
  apply Int32.toBitVec_inj.mp
  show BitVec.ofNat 32 a ||| BitVec.ofNat 32 b = BitVec.ofNat 32 (a ||| b)
  apply BitVec.eq_of_toNat_eq
  simp
theorem nI_shl {k : Nat} (h : k ≤ 6) : nI 1 <<< (nI k &&& 31) = nI (2 ^ k) := by
  have : k = 0 ∨ k = 1 ∨ k = 2 ∨ k = 3 ∨ k = 4 ∨ k = 5 ∨ k = 6 := by omega
  rcases this with rfl | rfl | rfl | rfl | rfl | rfl | rfl <;> decide
theorem zbit6_lt (σ : zM) (b : Nat) : ∀ n, zbit6 σ b n < 2 ^ n
  | 0 => (show 0 < 2 ^ 0 by decide)
  | n + 1 => by
    have := zbit6_lt σ b n
    unfold zbit6
    rw [Nat.pow_succ]
    split <;> omega
theorem zbit6_tb (σ : zM) (b : Nat) : ∀ n j, (zbit6 σ b n).testBit j = (decide (j < n) && !decide (σ (50, 0, 0) (b + j) = 0))
  | 0, j => by
    rw [decide_eq_false (by omega)]
    exact Nat.zero_testBit j
  | n + 1, j => by
    have hlt := zbit6_lt σ b n
    have ih := zbit6_tb σ b n
    unfold zbit6
    by_cases q : σ (50, 0, 0) (b + n) = 0
    · rw [if_pos q, Nat.add_zero, ih j]
      by_cases e : j = n
      · subst e
        rw [decide_eq_true q, decide_eq_false (show ¬ j < j by omega), decide_eq_true (show j < j + 1 by omega)]
        rfl
      · have : (j < n) ↔ (j < n + 1) := by omega
        simp only [this]
    · rw [if_neg q, Nat.add_comm]
      rcases Nat.lt_trichotomy j n with e | e | e
      · rw [Nat.testBit_two_pow_add_gt e, ih j, decide_eq_true e, decide_eq_true (show j < n + 1 by omega)]
      · subst e
        rw [Nat.testBit_two_pow_add_eq, Nat.testBit_lt_two_pow hlt, decide_eq_true (show j < j + 1 by omega), decide_eq_false q]
        rfl
      · rw [Nat.testBit_lt_two_pow (i := j), decide_eq_false (show ¬ j < n + 1 by omega)]
        · rfl
        · have h2 : 2 ^ (n + 1) ≤ 2 ^ j := Nat.pow_le_pow_right (by decide) e
          rw [Nat.pow_succ] at h2
          omega
theorem zbit6_full (σ : zM) (b : Nat) : ∀ n, zbit6 σ b n = 2 ^ n - 1 ↔ zcm σ b n = true
  | 0 => ⟨fun _ => rfl, fun _ => rfl⟩
  | n + 1 => by
    have hlt := zbit6_lt σ b n
    have ih := zbit6_full σ b n
    unfold zbit6 zcm
    rw [Nat.pow_succ, Bool.and_eq_true, ← ih]
    by_cases q : σ (50, 0, 0) (b + n) = 0
    · rw [if_pos q, decide_eq_true q]
      constructor
      · intro w; omega
      · rintro ⟨-, w⟩; cases w
    · rw [if_neg q, decide_eq_false q]
      constructor
      · intro w; exact ⟨by omega, rfl⟩
      · rintro ⟨w, -⟩; omega
theorem zbit6_cut (σ : zM) (b n : Nat) : ∀ m, n ≤ m → (∀ k, n ≤ k → k < m → σ (50, 0, 0) (b + k) = 0) → zbit6 σ b m = zbit6 σ b n
  | 0, h, _ => by rw [show n = 0 by omega]
  | m + 1, h, hk => by
    by_cases e : n = m + 1
    · rw [e]
    · rw [← zbit6_cut σ b n m (by omega) (fun k a b => hk k a (by omega))]
      show zbit6 σ b m + _ = _
      rw [if_pos (hk m (by omega) (by omega)), Nat.add_zero]
/-- what class and reference hold of an account, but for when it was heard -/
def zAc (f σ : zM) (t : Nat) : Prop := f (7, t, 0) 1 = σ (45, 0, 0) t ∧ f (7, t, 0) 2 = σ (47, 0, 0) t ∧ f (7, t, 0) 3 = σ (48, 0, 0) t ∧ f (7, t, 0) 4 = σ (49, 0, 0) t ∧
  (∀ d, d ≤ 60 → ∃ n, n ≤ 6 ∧ σ (51, 0, 0) (61 * t + d) = nI n ∧ f (9, t, 0) d = nI (2 ^ n - 1) ∧ f (8, t, 0) d = nI (zbit6 σ (366 * t + 6 * d) 6) ∧ ∀ k, k < 6 → ¬ σ (50, 0, 0) (366 * t + 6 * d + k) = 0 → k < n)
section RA
variable {f σ : zM} {t : Nat}
theorem z2p {n : Nat} (h : n ≤ 6) : 2 ^ n ≤ 64 := by
  have : 2 ^ n ≤ 2 ^ 6 := Nat.pow_le_pow_right (by decide) h
  exact this
theorem zAc.whole (h : zAc f σ t) {e : Nat} (h1 : 1 ≤ e) : zcp f t e = zwh σ t e := by
  unfold zcp zwh
  by_cases q : e ≤ 60
  · obtain ⟨n, n6, e1, e2, e3, e4⟩ := h.2.2.2.2 e q
    have hp := z2p n6
    have hb := zbit6_lt σ (366 * t + 6 * e) 6
    have hb : zbit6 σ (366 * t + 6 * e) 6 < 64 := hb
    rw [decide_eq_true (show 1 ≤ e ∧ e ≤ 60 from ⟨h1, q⟩), decide_eq_true q, e1, e2, e3, nI_clamp (by omega)]
    have d1 : decide (nI (2 ^ n - 1) = 0) = decide (nI n = 0) := by
      have : (nI (2 ^ n - 1) = 0) ↔ (nI n = 0) := by
        rw [← nI_0, nI_eq (by omega) (by decide), nI_eq (by omega) (by decide)]
        constructor
        · intro w
          rcases Nat.eq_zero_or_pos n with r | r
          · exact r
          · have : 2 ^ 1 ≤ 2 ^ n := Nat.pow_le_pow_right (by decide) r
            omega
        · rintro rfl; rfl
      simp only [this]
    have d2 : decide (nI (zbit6 σ (366 * t + 6 * e) 6) = nI (2 ^ n - 1)) = zcm σ (366 * t + 6 * e) n := by
      have hcut := zbit6_cut σ (366 * t + 6 * e) n 6 n6 (fun k a b => Classical.byContradiction fun w => by
        have := e4 k b w
        omega)
      rw [hcut]
      have hl := zbit6_lt σ (366 * t + 6 * e) n
      cases hc : zcm σ (366 * t + 6 * e) n with
      | true => rw [decide_eq_true_eq, (zbit6_full σ _ n).mpr hc]
      | false =>
        rw [decide_eq_false_iff_not]
        intro w
        have w := (nI_eq (by omega) (by omega)).mp w
        rw [(zbit6_full σ _ n).mp w] at hc
        cases hc
    rw [d1, d2]
  · rw [decide_eq_false (fun w => q w.2), decide_eq_false q]
    rfl
theorem zAc.pass (h : zAc f σ t) {e : Nat} (h1 : 1 ≤ e) : zAc (zpass f t e) (zpm σ t e) t := by
  have hw := h.whole h1
  obtain ⟨a1, a2, a3, a4, a5⟩ := h
  refine ⟨?_, ?_, ?_, ?_, fun d hd => ?_⟩
  · rw [zpass_ne (Or.inr (by decide)), zpm_ne (by decide) (by decide) (by decide)]; exact a1
  · rw [zpass_2, zpm_47]
  · unfold zpass zpm
    rw [zup_ne (fun w => absurd w.2 (by decide)), zup_nk (by decide), hw]
    cases zwh σ t e with
    | false => exact a3
    | true =>
      show zup (zup f (7, t, 0) 3 (f (7, t, 0) 3 + nI 1)) (7, t, 0) 4 (nI e) (7, t, 0) 3 = zup (zup σ (49, 0, 0) t (nI e)) (48, 0, 0) t (σ (48, 0, 0) t + nI 1) (48, 0, 0) t
      rw [zup_ne (fun w => absurd w.2 (by decide)), zup_eq, zup_eq, a3]
  · unfold zpass zpm
    rw [zup_ne (fun w => absurd w.2 (by decide)), zup_nk (by decide), hw]
    cases zwh σ t e with
    | false => exact a4
    | true =>
      show zup (zup f (7, t, 0) 3 (f (7, t, 0) 3 + nI 1)) (7, t, 0) 4 (nI e) (7, t, 0) 4 = zup (zup σ (49, 0, 0) t (nI e)) (48, 0, 0) t (σ (48, 0, 0) t + nI 1) (49, 0, 0) t
      rw [zup_eq, zup_nk (by decide), zup_eq]
  · obtain ⟨n, n6, e1, e2, e3, e4⟩ := a5 d hd
    have hb : ∀ k, zbit6 (zpm σ t e) (366 * t + 6 * d) k = zbit6 σ (366 * t + 6 * d) k := fun k => by
      induction k with
      | zero => rfl
      | succ k ih => unfold zbit6; rw [ih, zpm_ne (by decide) (by decide) (by decide)]
    refine ⟨n, n6, by rw [zpm_ne (by decide) (by decide) (by decide)]; exact e1, by rw [zpass_ne (Or.inl (fun w => by cases w))]; exact e2, by rw [zpass_ne (Or.inl (fun w => by cases w)), hb]; exact e3, fun k hk => ?_⟩
    rw [zpm_ne (by decide) (by decide) (by decide)]
    exact e4 k hk
theorem zAc.passN : ∀ (n : Nat) {f σ : zM} {e : Nat}, zAc f σ t → 1 ≤ e → zAc (zpassN f t e n) (zpmN σ t e n) t
  | 0, _, _, _, h, _ => h
  | n + 1, _, _, e, h, h1 => zAc.passN n (h.pass h1) (by omega)
theorem zAc.cg {f' σ' : zM} (h : zAc f σ t) (h1 : ∀ k, k = 1 ∨ k = 2 ∨ k = 3 ∨ k = 4 → f' (7, t, 0) k = f (7, t, 0) k) (h2 : ∀ k, f' (8, t, 0) k = f (8, t, 0) k) (h3 : ∀ k, f' (9, t, 0) k = f (9, t, 0) k) (s1 : σ' (45, 0, 0) t = σ (45, 0, 0) t) (s2 : σ' (47, 0, 0) t = σ (47, 0, 0) t) (s3 : σ' (48, 0, 0) t = σ (48, 0, 0) t) (s4 : σ' (49, 0, 0) t = σ (49, 0, 0) t) (s5 : ∀ i, i < 366 → σ' (50, 0, 0) (366 * t + i) = σ (50, 0, 0) (366 * t + i)) (s6 : ∀ d, d ≤ 60 → σ' (51, 0, 0) (61 * t + d) = σ (51, 0, 0) (61 * t + d)) : zAc f' σ' t := by
  obtain ⟨a1, a2, a3, a4, a5⟩ := h
  refine ⟨by rw [h1 _ (by omega), s1]; exact a1, by rw [h1 _ (by omega), s2]; exact a2, by rw [h1 _ (by omega), s3]; exact a3, by rw [h1 _ (by omega), s4]; exact a4, fun d hd => ?_⟩
  obtain ⟨n, n6, e1, e2, e3, e4⟩ := a5 d hd
  have hb : ∀ k, k ≤ 6 → zbit6 σ' (366 * t + 6 * d) k = zbit6 σ (366 * t + 6 * d) k := fun k => by
    induction k with
    | zero => exact fun _ => rfl
    | succ k ih =>
      intro hk
      unfold zbit6
      rw [ih (by omega), Nat.add_assoc, s5 _ (by omega)]
  refine ⟨n, n6, by rw [s6 d hd]; exact e1, by rw [h3]; exact e2, by rw [h2, hb 6 (by omega)]; exact e3, fun k hk => ?_⟩
  rw [Nat.add_assoc, s5 _ (by omega), ← Nat.add_assoc]
  exact e4 k hk
/-- a cell is noted -/
theorem zAc.note (h : zAc f σ t) {q d k n : Nat} (hd : d ≤ 60) (hn : n ≤ 6) (hk : k < n) (h4 : f (19, q, 0) 4 = nI k) (h5 : f (19, q, 0) 5 = nI n) (hold : ∀ n', n' ≤ 6 → σ (51, 0, 0) (61 * t + d) = nI n' → n' ≤ n) : zAc (znote f t q d) (zup (zup σ (50, 0, 0) (366 * t + 6 * d + k) (nI 1)) (51, 0, 0) (61 * t + d) (nI n)) t := by
  obtain ⟨a1, a2, a3, a4, a5⟩ := h
  unfold znote
  refine ⟨?_, ?_, ?_, ?_, fun d' hd' => ?_⟩
  · rw [zup_nk (fun w => by cases w), zup_nk (fun w => by cases w), zup_nk (by decide), zup_nk (by decide)]; exact a1
  · rw [zup_nk (fun w => by cases w), zup_nk (fun w => by cases w), zup_nk (by decide), zup_nk (by decide)]; exact a2
  · rw [zup_nk (fun w => by cases w), zup_nk (fun w => by cases w), zup_nk (by decide), zup_nk (by decide)]; exact a3
  · rw [zup_nk (fun w => by cases w), zup_nk (fun w => by cases w), zup_nk (by decide), zup_nk (by decide)]; exact a4
  · obtain ⟨n', n6', e1, e2, e3, e4⟩ := a5 d' hd'
    have h50 : ∀ j, zup (zup σ (50, 0, 0) (366 * t + 6 * d + k) (nI 1)) (51, 0, 0) (61 * t + d) (nI n) (50, 0, 0) j = if j = 366 * t + 6 * d + k then nI 1 else σ (50, 0, 0) j := fun j => by
      rw [zup_nk (by decide), zup_at]
      by_cases e : j = 366 * t + 6 * d + k
      · rw [if_pos e, if_pos ⟨rfl, e⟩]
      · rw [if_neg e, if_neg (fun w => e w.2)]
    by_cases e : d' = d
    · subst e
      have hle := hold n' n6' e1
      have h8 : zup (zup f (8, t, 0) d' (f (8, t, 0) d' ||| (nI 1 <<< (f (19, q, 0) 4 &&& 31)))) (9, t, 0) d' ((nI 1 <<< (f (19, q, 0) 5 &&& 31)) - nI 1) (8, t, 0) d' = nI (zbit6 σ (366 * t + 6 * d') 6 ||| 2 ^ k) := by
        rw [zup_nk (fun w => by cases w), zup_eq, e3, h4, nI_shl (by omega), nI_or]
      refine ⟨n, hn, zup_eq, ?_, ?_, fun j hj hj2 => ?_⟩
      · rw [zup_eq, h5, nI_shl hn, nI_sub]
        exact Nat.one_le_two_pow
      · rw [h8]
        congr 1
        apply Nat.eq_of_testBit_eq
        intro j
        rw [Nat.testBit_or, zbit6_tb, zbit6_tb, h50, Nat.testBit_two_pow]
        by_cases ej : j = k
        · subst ej
          rw [if_pos rfl, decide_eq_true (show j < 6 by omega), decide_eq_true (show j = j from rfl), Bool.or_true]
          decide
        · rw [if_neg (by omega), decide_eq_false (p := k = j) (fun w => ej w.symm), Bool.or_false]
      · rw [h50] at hj2
        by_cases ej : j = k
        · omega
        · rw [if_neg (by omega)] at hj2
          have := e4 j hj hj2
          omega
    · have hb : ∀ j, j ≤ 6 → zbit6 (zup (zup σ (50, 0, 0) (366 * t + 6 * d + k) (nI 1)) (51, 0, 0) (61 * t + d) (nI n)) (366 * t + 6 * d') j = zbit6 σ (366 * t + 6 * d') j := fun j => by
        induction j with
        | zero => exact fun _ => rfl
        | succ j ih =>
          intro hj
          unfold zbit6
          rw [ih (by omega), h50, show (if 366 * t + 6 * d' + j = 366 * t + 6 * d + k then nI 1 else σ (50, 0, 0) (366 * t + 6 * d' + j)) = σ (50, 0, 0) (366 * t + 6 * d' + j) from if_neg (by omega)]
      refine ⟨n', n6', ?_, ?_, ?_, fun j hj hj2 => ?_⟩
      · rw [zup_ne (fun w => e (by omega)), zup_nk (by decide)]; exact e1
      · rw [zup_ne (fun w => e w.2), zup_nk (fun w => by cases w)]; exact e2
      · rw [zup_nk (fun w => by cases w), zup_ne (fun w => e w.2), hb 6 (by omega)]; exact e3
      · rw [h50, if_neg (by omega)] at hj2
        exact e4 j hj hj2
end RA
