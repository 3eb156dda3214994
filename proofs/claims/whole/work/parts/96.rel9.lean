/-! Shares agree -/
def zE5 (D D' : Nat → Nat) : Prop := ∀ t, t < 5 → D t = D' t
theorem zE5.up {D D' : Nat → Nat} (h : zE5 D D') {t v v' : Nat} (hv : v = v') : zE5 (zfu D t v) (zfu D' t v') := fun x hx => by
  unfold zfu
  split
  · exact hv
  · exact h x hx
theorem zE5.sum {D D' : Nat → Nat} (h : zE5 D D') : zsu5 D = zsu5 D' := by
  unfold zsu5
  rw [h 0 (by omega), h 1 (by omega), h 2 (by omega), h 3 (by omega), h 4 (by omega)]
section SH
variable {f σ : zM} {W Q : Nat → Nat}
theorem znb_U {D G : Nat → Nat} : znb f D G W = zbU (zltN G W) (zwan f D) := by
  funext b t
  unfold znb zbU
  cases b <;> rfl
theorem zb1_D {D G : Nat → Nat} : zb1 σ D G W = zbD (zltN G W) (zwm σ D) := by
  funext b t
  unfold zb1 zbD zbc
  cases b with
  | none => rfl
  | some b =>
    have e : decide ((G t + 1) * W b ≤ (G b + 1) * W t) = !zltN G W b t := by
      unfold zltN
      by_cases q : (G t + 1) * W b ≤ (G b + 1) * W t
      · rw [decide_eq_true q, decide_eq_false (by omega)]; rfl
      · rw [decide_eq_false q, decide_eq_true (by omega)]; rfl
    show (bif zwm σ D t && decide ((G t + 1) * W b ≤ (G b + 1) * W t) then some t else some b) = bif zwm σ D t && !zltN G W b t then some t else some b
    rw [e]
theorem zbm_DN {D G : Nat → Nat} : ∀ (r : Nat) (b : Option Nat), zbm σ D G W r b = zbDN (zltN G W) (zwm σ D) r b
  | 0, _ => rfl
  | r + 1, b => by
    unfold zbm zbDN
    rw [zb1_D, zbm_DN r]
/-- who is in, what is needed -/
def zIN (f σ : zM) : Prop := ∀ t, t < 5 → f (7, t, 0) 0 = σ (44, 0, 0) t ∧ f (7, t, 0) 1 = σ (45, 0, 0) t
theorem zwan_m (hI : zIN f σ) {D D' : Nat → Nat} (h : zE5 D D') {t : Nat} (ht : t < 5) : zwan f D t = zwm σ D' t := by
  unfold zwan zwm zIn
  rw [(hI t ht).1, (hI t ht).2, h t ht, Bool.and_comm (decide (D' t < 9))]
theorem zbest (hI : zIN f σ) (hW : ∀ t, 0 < W t) {D D' G G' : Nat → Nat} (hD : zE5 D D') (hG : zE5 G G') : (List.range' 0 5).foldl (znb f D G W) none = zbm σ D' G' W 5 none := by
  rw [znb_U, zbm_DN]
  refine (zneed hW).1.eq ((zneed hW).2.cg (fun s t hs ht => ?_) (fun t ht => zwan_m hI hD ht))
  unfold zltN
  rw [hG s hs, hG t ht]
theorem zabn_M (hI : zIN f σ) (hW : ∀ t, 0 < W t) : ∀ (n : Nat) {D D' G G' : Nat → Nat} {S : Nat}, zE5 D D' → zE5 G G' → S = zsu5 D' → zE5 (zabn f W n (D, G, S)).1 (zabM σ W n (D', G')).1 ∧ (zabn f W n (D, G, S)).2.2 = zsu5 (zabM σ W n (D', G')).1
  | 0, D, D', G, G', S, hD, hG, hS => ⟨hD, hS⟩
  | n + 1, D, D', G, G', S, hD, hG, hS => by
    have hb := zbest hI hW hD hG
    unfold zabn zabM
    show zE5 (if S < 29 then (match (List.range' 0 5).foldl (znb f D G W) none with | none => (D, G, S) | some t => zabn f W n (zfu D t (D t + 1), zfu G t (G t + 1), S + 1)) else (D, G, S)).1 (if zsu5 D' < 29 then (match zbm σ D' G' W 5 none with | none => (D', G') | some t => zabM σ W n (zfu D' t (D' t + 1), zfu G' t (G' t + 1))) else (D', G')).1 ∧ (if S < 29 then (match (List.range' 0 5).foldl (znb f D G W) none with | none => (D, G, S) | some t => zabn f W n (zfu D t (D t + 1), zfu G t (G t + 1), S + 1)) else (D, G, S)).2.2 = zsu5 (if zsu5 D' < 29 then (match zbm σ D' G' W 5 none with | none => (D', G') | some t => zabM σ W n (zfu D' t (D' t + 1), zfu G' t (G' t + 1))) else (D', G')).1
    rw [hb, ← hS]
    by_cases q : S < 29
    · rw [if_pos q, if_pos q]
      cases hq : zbm σ D' G' W 5 none with
      | none => exact ⟨hD, hS⟩
      | some t =>
        have ht : t < 5 := zbm_lt 5 (by omega) (fun x w => by cases w) t hq
        exact zabn_M hI hW n (hD.up (by rw [hD t ht])) (hG.up (by rw [hG t ht])) (by rw [zsu5_up ht, hS])
    · rw [if_neg q, if_neg q]
      exact ⟨hD, hS⟩
theorem zsg_M (hI : zIN f σ) {D0 G0 : Nat → Nat} : zE5 ((List.range' 0 5).foldl (zsg f Q) (D0, G0, 0)).1 (zdM σ Q) ∧ zE5 ((List.range' 0 5).foldl (zsg f Q) (D0, G0, 0)).2.1 (fun _ => 0) ∧ ((List.range' 0 5).foldl (zsg f Q) (D0, G0, 0)).2.2 = zsu5 (zdM σ Q) := by
  have hd : ∀ t, t < 5 → zd0 f Q t = zdM σ Q t := fun t ht => by
    unfold zd0 zdM zIn
    rw [(hI t ht).1]
    by_cases q : σ (44, 0, 0) t = 0
    · rw [decide_eq_true q, if_pos q]; rfl
    · rw [decide_eq_false q, if_neg q]
      rw [if_pos (show (!false) = true from rfl)]
      by_cases q2 : Q t < 1
      · rw [if_pos q2, if_pos (by omega)]
      · rw [if_neg q2]
        by_cases q3 : Q t ≤ 1
        · rw [if_pos q3]; omega
        · rw [if_neg q3]
  refine ⟨fun t ht => ?_, fun t ht => zsg_G t ht, ?_⟩
  · show zfu (zfu (zfu (zfu (zfu D0 0 (zd0 f Q 0)) 1 (zd0 f Q 1)) 2 (zd0 f Q 2)) 3 (zd0 f Q 3)) 4 (zd0 f Q 4) t = _
    rw [hd 0 (by omega), hd 1 (by omega), hd 2 (by omega), hd 3 (by omega), hd 4 (by omega)]
    have : t = 0 ∨ t = 1 ∨ t = 2 ∨ t = 3 ∨ t = 4 := by omega
    rcases this with rfl | rfl | rfl | rfl | rfl <;> rfl
  · show 0 + zd0 f Q 0 + zd0 f Q 1 + zd0 f Q 2 + zd0 f Q 3 + zd0 f Q 4 = _
    rw [hd 0 (by omega), hd 1 (by omega), hd 2 (by omega), hd 3 (by omega), hd 4 (by omega)]
    unfold zsu5
    omega
theorem zair_M (hI : zIN f σ) {D D' : Nat → Nat} {S t : Nat} (ht : t < 5) (hD : zE5 D D') (hS : S = zsu5 D') : zE5 (zair f (D, S) t).1 (zrm1 σ D' t) ∧ (zair f (D, S) t).2 = zsu5 (zrm1 σ D' t) := by
  unfold zair zrm1
  have hin : zIn f t = true ↔ ¬ σ (44, 0, 0) t = 0 := by
    unfold zIn
    rw [(hI t ht).1, Bool.not_eq_true', decide_eq_false_iff_not]
  show zE5 (if S < 29 ∧ zIn f t = true ∧ D t < 9 then (zfu D t (D t + 1), S + 1) else (D, S)).1 _ ∧ (if S < 29 ∧ zIn f t = true ∧ D t < 9 then (zfu D t (D t + 1), S + 1) else (D, S)).2 = _
  by_cases q : ¬ σ (44, 0, 0) t = 0 ∧ D' t < 9 ∧ zsu5 D' < 29
  · rw [if_pos q, if_pos ⟨by omega, hin.mpr q.1, by rw [hD t ht]; exact q.2.1⟩]
    exact ⟨hD.up (by rw [hD t ht]), by rw [zsu5_up ht, hS]⟩
  · rw [if_neg q, if_neg (fun w => q ⟨hin.mp w.2.1, by rw [← hD t ht]; exact w.2.2, by omega⟩)]
    exact ⟨hD, hS⟩
theorem zround_M (hI : zIN f σ) {D D' : Nat → Nat} {S : Nat} (hD : zE5 D D') (hS : S = zsu5 D') : zE5 (zround f (D, S)).1 (zrmR σ D') ∧ (zround f (D, S)).2 = zsu5 (zrmR σ D') := by
  have h0 := zair_M hI (t := 0) (by omega) hD hS
  have h1 := zair_M hI (t := 1) (by omega) h0.1 h0.2
  have h2 := zair_M hI (t := 2) (by omega) h1.1 h1.2
  have h3 := zair_M hI (t := 3) (by omega) h2.1 h2.2
  exact zair_M hI (t := 4) (by omega) h3.1 h3.2
def zrmI (σ : zM) : Nat → (Nat → Nat) → (Nat → Nat)
  | 0, D => D
  | n + 1, D => zrmI σ n (zrmR σ D)
theorem zrounds_M (hI : zIN f σ) : ∀ (n : Nat) {D D' : Nat → Nat} {S : Nat}, zE5 D D' → S = zsu5 D' → zE5 (zrounds f n (D, S)).1 (zrmI σ n D')
  | 0, _, _, _, hD, _ => hD
  | n + 1, D, D', S, hD, hS => by
    have h := zround_M hI hD hS
    unfold zrounds zrmI
    exact zrounds_M hI n h.1 h.2
theorem zrm1_s {D : Nat → Nat} {t : Nat} (ht : t < 5) : zsu5 D ≤ zsu5 (zrm1 σ D t) ∧ (∀ x, D x ≤ zrm1 σ D t x) ∧ (zsu5 (zrm1 σ D t) = zsu5 D → zrm1 σ D t = D) ∧ (zsu5 D < 29 → ¬ σ (44, 0, 0) t = 0 → D t < 9 → zrm1 σ D t t = D t + 1) := by
  unfold zrm1
  by_cases q : ¬ σ (44, 0, 0) t = 0 ∧ D t < 9 ∧ zsu5 D < 29
  · rw [if_pos q, zsu5_up ht]
    refine ⟨by omega, fun x => ?_, fun w => by omega, fun _ _ _ => ?_⟩
    · unfold zfu
      split
      · rename_i e; rw [e]; omega
      · exact Nat.le_refl _
    · unfold zfu; rw [if_pos rfl]
  · rw [if_neg q]
    exact ⟨Nat.le_refl _, fun x => Nat.le_refl _, fun _ => rfl, fun a b c => absurd ⟨b, c, a⟩ q⟩
theorem zrmR_s {D : Nat → Nat} : zsu5 D ≤ zsu5 (zrmR σ D) ∧ (∀ x, D x ≤ zrmR σ D x) ∧ (zsu5 (zrmR σ D) ≤ zsu5 D → zrmR σ D = D) ∧ (zsu5 (zrmR σ D) < 29 → ∀ t, t < 5 → ¬ σ (44, 0, 0) t = 0 → D t < 9 → D t + 1 ≤ zrmR σ D t) := by
  have h0 := zrm1_s (σ := σ) (D := D) (t := 0) (by omega)
  have h1 := zrm1_s (σ := σ) (D := zrm1 σ D 0) (t := 1) (by omega)
  have h2 := zrm1_s (σ := σ) (D := zrm1 σ (zrm1 σ D 0) 1) (t := 2) (by omega)
  have h3 := zrm1_s (σ := σ) (D := zrm1 σ (zrm1 σ (zrm1 σ D 0) 1) 2) (t := 3) (by omega)
  have h4 := zrm1_s (σ := σ) (D := zrm1 σ (zrm1 σ (zrm1 σ (zrm1 σ D 0) 1) 2) 3) (t := 4) (by omega)
  unfold zrmR
  refine ⟨by omega, fun x => Nat.le_trans (h0.2.1 x) (Nat.le_trans (h1.2.1 x) (Nat.le_trans (h2.2.1 x) (Nat.le_trans (h3.2.1 x) (h4.2.1 x)))), fun w => ?_, fun w t ht hi h9 => ?_⟩
  · rw [h4.2.2.1 (by omega), h3.2.2.1 (by omega), h2.2.2.1 (by omega), h1.2.2.1 (by omega), h0.2.2.1 (by omega)]
  · have c0 := h0.2.1 t
    have c1 := h1.2.1 t
    have c2 := h2.2.1 t
    have c3 := h3.2.1 t
    have c4 := h4.2.1 t
    have : t = 0 ∨ t = 1 ∨ t = 2 ∨ t = 3 ∨ t = 4 := by omega
    rcases this with rfl | rfl | rfl | rfl | rfl
    · have := h0.2.2.2 (by omega) hi h9
      omega
    · by_cases q : zrm1 σ D 0 1 < 9
      · have := h1.2.2.2 (by omega) hi q
        omega
      · omega
    · by_cases q : zrm1 σ (zrm1 σ D 0) 1 2 < 9
      · have := h2.2.2.2 (by omega) hi q
        omega
      · omega
    · by_cases q : zrm1 σ (zrm1 σ (zrm1 σ D 0) 1) 2 3 < 9
      · have := h3.2.2.2 (by omega) hi q
        omega
      · omega
    · by_cases q : zrm1 σ (zrm1 σ (zrm1 σ (zrm1 σ D 0) 1) 2) 3 4 < 9
      · have := h4.2.2.2 (by omega) hi q
        omega
      · omega
theorem zrmI_fix {D : Nat → Nat} (h : zrmR σ D = D) : ∀ n, zrmI σ n D = D
  | 0 => rfl
  | n + 1 => by unfold zrmI; rw [h]; exact zrmI_fix h n
theorem zrmI_add {D : Nat → Nat} : ∀ a b, zrmI σ (a + b) D = zrmI σ b (zrmI σ a D)
  | 0, b => by rw [Nat.zero_add]; rfl
  | a + 1, b => by
    rw [show a + 1 + b = (a + b) + 1 by omega]
    show zrmI σ (a + b) (zrmR σ D) = zrmI σ b (zrmI σ a (zrmR σ D))
    exact zrmI_add a b
theorem zrmN_I : ∀ (n : Nat) {D : Nat → Nat}, 29 ≤ zsu5 D + n → ∃ j, zrmN σ n D = zrmI σ j D ∧ zrmR σ (zrmI σ j D) = zrmI σ j D
  | 0, D, h => ⟨0, rfl, by
    show zrmR σ D = D
    unfold zrmR zrm1
    have : ∀ t, ¬ (¬ σ (44, 0, 0) t = 0 ∧ D t < 9 ∧ zsu5 D < 29) := fun t w => by omega
    rw [if_neg (this 0), if_neg (this 1), if_neg (this 2), if_neg (this 3), if_neg (this 4)]⟩
  | n + 1, D, h => by
    unfold zrmN
    by_cases q : zsu5 D < 29
    · rw [if_pos q]
      by_cases q2 : zsu5 D < zsu5 (zrmR σ D)
      · rw [if_pos q2]
        obtain ⟨j, h1, h2⟩ := zrmN_I n (D := zrmR σ D) (by omega)
        exact ⟨j + 1, h1, h2⟩
      · rw [if_neg q2]
        have e := (zrmR_s (σ := σ) (D := D)).2.2.1 (by omega)
        exact ⟨0, e, e⟩
    · rw [if_neg q]
      refine ⟨0, rfl, ?_⟩
      show zrmR σ D = D
      unfold zrmR zrm1
      have : ∀ t, ¬ (¬ σ (44, 0, 0) t = 0 ∧ D t < 9 ∧ zsu5 D < 29) := fun t w => by omega
      rw [if_neg (this 0), if_neg (this 1), if_neg (this 2), if_neg (this 3), if_neg (this 4)]
theorem zrmI_s {D : Nat → Nat} : ∀ n, 29 ≤ zsu5 (zrmI σ n D) ∨ ∀ t, t < 5 → ¬ σ (44, 0, 0) t = 0 → min 9 n ≤ zrmI σ n D t
  | 0 => Or.inr fun t _ _ => by omega
  | n + 1 => by
    have e : zrmI σ (n + 1) D = zrmR σ (zrmI σ n D) := by
      rw [zrmI_add n 1]; rfl
    rw [e]
    have hs := zrmR_s (σ := σ) (D := zrmI σ n D)
    rcases zrmI_s n with h | h
    · exact Or.inl (Nat.le_trans h hs.1)
    · by_cases q : zsu5 (zrmR σ (zrmI σ n D)) < 29
      · refine Or.inr fun t ht hi => ?_
        have h1 := h t ht hi
        have h2 := hs.2.1 t
        by_cases q2 : zrmI σ n D t < 9
        · have := hs.2.2.2 q t ht hi q2
          omega
        · omega
      · exact Or.inl (by omega)
theorem zrm9 {D : Nat → Nat} : zrmN σ 29 D = zrmI σ 9 D := by
  have h9 : zrmR σ (zrmI σ 9 D) = zrmI σ 9 D := by
    rcases zrmI_s (σ := σ) (D := D) 9 with h | h
    · unfold zrmR zrm1
      have : ∀ t, ¬ (¬ σ (44, 0, 0) t = 0 ∧ zrmI σ 9 D t < 9 ∧ zsu5 (zrmI σ 9 D) < 29) := fun t w => by omega
      rw [if_neg (this 0), if_neg (this 1), if_neg (this 2), if_neg (this 3), if_neg (this 4)]
    · unfold zrmR zrm1
      have : ∀ t, t < 5 → ¬ (¬ σ (44, 0, 0) t = 0 ∧ zrmI σ 9 D t < 9 ∧ zsu5 (zrmI σ 9 D) < 29) := fun t ht w => by
        have := h t ht w.1
        omega
      rw [if_neg (this 0 (by omega)), if_neg (this 1 (by omega)), if_neg (this 2 (by omega)), if_neg (this 3 (by omega)), if_neg (this 4 (by omega))]
  obtain ⟨j, h1, h2⟩ := zrmN_I (σ := σ) 29 (D := D) (by omega)
  rw [h1]
  rcases Nat.le_total j 9 with q | q
  · have := zrmI_add (σ := σ) (D := D) j (9 - j)
    rw [show j + (9 - j) = 9 by omega, zrmI_fix h2] at this
    exact this.symm
  · have := zrmI_add (σ := σ) (D := D) 9 (j - 9)
    rw [show 9 + (j - 9) = j by omega, zrmI_fix h9] at this
    exact this
/-- what is due, by both -/
theorem zdue (hI : zIN f σ) (hW : ∀ t, 0 < W t) {D0 G0 : Nat → Nat} : zE5 (zrounds f 9 ((zabn f W 29 ((List.range' 0 5).foldl (zsg f Q) (D0, G0, 0))).1, (zabn f W 29 ((List.range' 0 5).foldl (zsg f Q) (D0, G0, 0))).2.2)).1 (zrmN σ 29 (zabM σ W 29 (zdM σ Q, fun _ => 0)).1) := by
  obtain ⟨s1, s2, s3⟩ := zsg_M (Q := Q) hI (D0 := D0) (G0 := G0)
  have h := zabn_M hI hW 29 s1 s2 s3
  rw [zrm9]
  exact zrounds_M hI 9 h.1 h.2
end SH
