/-! A superframe of the reference: what it leaves -/
/-- the account, between calls -/
def zRB (f s : zM) (N t m : Nat) (z : Nat → Nat) : Prop := zAc f s t ∧ zTz s t m z ∧ f (7, t, 0) 0 = s (44, 0, 0) t ∧ (s (44, 0, 0) t = 0 ∨ s (44, 0, 0) t = nI 1) ∧ (∃ e, 1 ≤ e ∧ e ≤ 61 ∧ s (47, 0, 0) t = nI e) ∧ (s (44, 0, 0) t = 0 ∨ f (7, t, 0) 5 = s (46, 0, 0) t) ∧ (f (7, t, 0) 5 = zK (-7) ∨ ∃ h, h < N ∧ f (7, t, 0) 5 = nI h)
/-- class and reference agree -/
def zINV (f s : zM) (N : Nat) (l : Nat → List Nat) (α : Nat → zAt) (M : Nat → Nat) (Z : Nat → Nat → Nat) (W Q : Nat → Nat) : Prop := (∀ t, t < 5 → zT1 f s N t (l t) (α t) (M t) (Z t) ∧ zRB f s N t (M t) (Z t) ∧ ∀ p, p < 2 → zRP f s t p) ∧ zRG f s N ∧ zHc s M Z ∧ zQm s W Q ∧ (∀ t, 0 < W t) ∧ ∃ D G S, zPR f D G S
def zfC (f f' : zM) : Prop := ∀ x j, x.1 < 30 → f' x j = f x j
def zfM (s s' : zM) : Prop := ∀ x j, 30 ≤ x.1 → ¬ (x = (30, 0, 0) ∧ j = 0) → s' x j = s x j
section IC
variable {f f' s s' : zM} {N t p m : Nat} {z : Nat → Nat}
theorem zfM.k (h : zfM s s') {κ j : Nat} (hκ : 31 ≤ κ) : s' (κ, 0, 0) j = s (κ, 0, 0) j := h _ _ (by show 30 ≤ κ; omega) (fun w => by have := congrArg Prod.fst w.1; simp at this; omega)
theorem zT1.cg2 {l : List Nat} {α : zAt} (h : zT1 f s N t l α m z) (hf : zfC f f') (hs : zfM s s') : zT1 f' s' N t l α m z := h.cg (fun a k _ h2 => hf a k (by omega)) (zSa.rf (fun κ j a b => hs.k (by omega)))
theorem zRB.cg (h : zRB f s N t m z) (hf : zfC f f') (hs : zfM s s') : zRB f' s' N t m z := by
  obtain ⟨a, b, c, d, e, g, i⟩ := h
  have h7 : ∀ κ k, κ < 30 → f' (κ, t, 0) k = f (κ, t, 0) k := fun κ k hκ => hf _ _ hκ
  refine ⟨a.cg (fun k _ => h7 7 k (by omega)) (fun k => h7 8 k (by omega)) (fun k => h7 9 k (by omega)) (hs.k (by omega)) (hs.k (by omega)) (hs.k (by omega)) (hs.k (by omega)) (fun _ _ => hs.k (by omega)) (fun _ _ => hs.k (by omega)), b.cg (fun _ _ => hs.k (by omega)), ?_, ?_, ?_, ?_, ?_⟩
  · rw [h7 7 _ (by omega), hs.k (by omega)]; exact c
  · rw [hs.k (by omega)]; exact d
  · rw [hs.k (by omega)]; exact e
  · rw [h7 7 _ (by omega), hs.k (by omega), hs.k (by omega)]; exact g
  · rw [h7 7 _ (by omega)]; exact i
theorem zRP.cg (h : zRP f s t p) (hf : zfC f f') (hs : zfM s s') : zRP f' s' t p := by
  obtain ⟨a, b, c, rl, d, e⟩ := h
  have h10 : ∀ k, f' (10, t, p) k = f (10, t, p) k := fun k => hf _ _ (by show 10 < 30; omega)
  refine ⟨?_, ?_, ?_, rl, d.cg (fun x k hx => hf x k (by omega)), e.cg (fun j => hs.k (by omega)) (fun j => hs.k (by omega))⟩
  · rw [h10, hs.k (by omega)]; exact a
  · rw [h10, hs.k (by omega)]; exact b
  · rw [h10, hs.k (by omega), hs.k (by omega)]; exact c
theorem zRow.cg (h : zRow s p) (h1 : ∀ j, j < 30 → s' (55, 0, 0) (30 * p + j) = s (55, 0, 0) (30 * p + j)) : zRow s' p := by
  obtain ⟨a, b, c⟩ := h
  have h0 := h1 0 (by omega)
  rw [Nat.add_zero] at h0
  refine ⟨by rw [h0]; exact a, fun k hk => by rw [h1 k hk]; exact b k hk, fun j k t hj hk ht e g i => ?_⟩
  rw [h1 j hj] at g
  rw [h1 k hk] at i
  exact c j k t hj hk ht e g i
theorem zRG.cg (h : zRG f s N) (hf : zfC f f') (hs : zfM s s') : zRG f' s' N := by
  obtain ⟨a, b, c, d, e, g, i, j⟩ := h
  refine ⟨fun p j hp hj => ?_, fun p hp => (b p hp).cg (fun j _ => hs.k (by omega)), fun j hj => ?_, fun j hj => ?_, ?_, ?_, i, ?_⟩
  · rw [hf _ _ (by show 17 < 30; omega), hs.k (by omega)]; exact a p j hp hj
  · rw [hf _ _ (by show 20 < 30; omega), hs.k (by omega)]; exact c j hj
  · rw [hf _ _ (by show 21 < 30; omega), hs.k (by omega)]; exact d j hj
  · rw [hf _ _ (by show 0 < 30; omega)]; exact e
  · rw [hs _ _ (by decide) (by decide)]; exact g
  · rw [hf _ _ (by show 0 < 30; omega), hs _ _ (by decide) (by decide)]; exact j
theorem zQm.cg {W Q : Nat → Nat} (h : zQm s W Q) (hs : zfM s s') : zQm s' W Q := fun t ht => by
  rw [hs.k (by omega), hs.k (by omega)]; exact h t ht
theorem zPR.cg {D G : Nat → Nat} {S : Nat} (h : zPR f D G S) (hf : zfC f f') : zPR f' D G S := ⟨fun t ht => by rw [hf _ _ (by show 14 < 30; omega), hf _ _ (by show 15 < 30; omega)]; exact h.1 t ht, by rw [hf _ _ (by show 13 < 30; omega)]; exact h.2.1, h.2.2⟩
theorem zINV.cg {l : Nat → List Nat} {α : Nat → zAt} {M : Nat → Nat} {Z : Nat → Nat → Nat} {W Q : Nat → Nat} (h : zINV f s N l α M Z W Q) (hf : zfC f f') (hs : zfM s s') : zINV f' s' N l α M Z W Q := by
  obtain ⟨a, b, c, d, e, D, G, S, g⟩ := h
  exact ⟨fun t ht => ⟨(a t ht).1.cg2 hf hs, (a t ht).2.1.cg hf hs, fun p hp => ((a t ht).2.2 p hp).cg hf hs⟩, b.cg hf hs, c.cg (fun j => hs.k (by omega)) (fun j => hs.k (by omega)), d.cg hs, e, D, G, S, g.cg hf⟩
end IC
/-! frames on the class's names -/
section FR
variable {M : Nat → Nat} {Z : Nat → Nat → Nat} {W Q : Nat → Nat} {N : Nat}
theorem zlt {x : zA} (h : x.1 < 30) {κ : Nat} (hκ : 30 ≤ κ) : x ≠ (κ, 0, 0) := fun w => by
  rw [w] at h
  have h : κ < 30 := h
  omega
theorem zCN_c {sn : Nat → Option Nat} {f0 : zM} {row : Nat} {x : zA} {j : Nat} (h : x.1 < 30) : ∀ k n f', zCN sn f0 row k n f' → f' x j = f0 x j
  | 0, _, _, ⟨_, e⟩ => by rw [e]
  | k + 1, _, f', ⟨f1, n, h1, _, h2⟩ => by
    rw [← zCN_c h k n f1 h1]
    rcases h2 with ⟨-, rfl⟩ | ⟨-, t, -, ⟨-, rfl⟩ | ⟨-, hR⟩⟩
    · rw [zup_nk (zlt h (by omega)), zup_nk (zlt h (by omega))]
    · rw [zup_nk (zlt h (by omega)), zup_nk (zlt h (by omega)), zup_nk (zlt h (by omega)), zC2_ne (zlt h (by omega)) (zlt h (by omega)) (zlt h (by omega)) (zlt h (by omega)) (zlt h (by omega))]
    · rw [zRd_ne hR (zlt h (by omega)) (zlt h (by omega)) (zlt h (by omega)) (zlt h (by omega)) (zlt h (by omega)) (zlt h (by omega)), zC2_ne (zlt h (by omega)) (zlt h (by omega)) (zlt h (by omega)) (zlt h (by omega)) (zlt h (by omega))]
theorem zPlay_c {f f' : zM} {n : Nat} (h : zPlay f N M Z W Q f' n) : zfC f f' := by
  intro x j hx
  obtain ⟨f2, f3, f4, f5, f6, f7, G, rfl, hB, hC, rfl, hF, -, hG, rfl⟩ := h
  rw [zup_nk (zlt hx (by omega)), zlc_ne (zlt hx (by omega)), hG.1 _ _ (zlt hx (by omega)) (zlt hx (by omega)), hF _ _ (zlt hx (by omega)) (zlt hx (by omega)), zslN_ne (zlt hx (by omega)) (zlt hx (by omega)), zup_nk (zlt hx (by omega)), zc2N_ne (zlt hx (by omega)), zCN_c hx 30 n f4 hC, zc0N_ne (zlt hx (by omega)) (zlt hx (by omega)), zBuN_ne (zlt hx (by omega)) (zlt hx (by omega)) (zlt hx (by omega)) (zlt hx (by omega)) (zlt hx (by omega)) (zlt hx (by omega)) (zlt hx (by omega)) 29 f3 hB, zdq_ne (zlt hx (by omega)) (zlt hx (by omega)), zAgN_ne (zlt hx (by omega)) (zlt hx (by omega)) (zlt hx (by omega)) (zlt hx (by omega)) (zlt hx (by omega)), zLiN_ne (zlt hx (by omega)) (zlt hx (by omega)) (zlt hx (by omega)) (zlt hx (by omega)), zup_nk (zlt hx (by omega))]
theorem zc2N_at {f : zM} : ∀ n t, zc2N f n (44, 0, 0) t = if t < n then (if f (44, 0, 0) t = 0 then nI 0 else if nI 6 < f (30, 0, 0) 1 - f (46, 0, 0) t then nI 0 else nI 1) else f (44, 0, 0) t
  | 0, t => by rw [if_neg (by omega)]; rfl
  | n + 1, t => by
    have ih := fun t => zc2N_at (f := f) n t
    have e : zc2N f (n + 1) = zup (zc2N f n) (44, 0, 0) n (if zc2N f n (44, 0, 0) n = 0 then nI 0 else if nI 6 < f (30, 0, 0) 1 - f (46, 0, 0) n then nI 0 else nI 1) := rfl
    rw [e, zup_at]
    by_cases q : t = n
    · subst q
      have h1 := ih t
      rw [if_neg (Nat.lt_irrefl t)] at h1
      rw [if_pos ⟨rfl, rfl⟩, if_pos (show t < t + 1 by omega), h1]
    · rw [if_neg (fun w => q w.2), ih]
      by_cases q2 : t < n
      · rw [if_pos q2, if_pos (show t < n + 1 by omega)]
      · rw [if_neg q2, if_neg (show ¬ t < n + 1 by omega)]
theorem zfgN_ne {f : zM} {k : Int32} {x : zA} {j : Nat} (h : ¬ (x.1 = 7 ∧ j = 0)) : ∀ n, zfgN f k n x j = f x j
  | 0 => rfl
  | n + 1 => by
    have e : zfgN f k (n + 1) = if nI 7 ≤ k - zfgN f k n (7, n, 0) 5 then zup (zfgN f k n) (7, n, 0) 0 (nI 0) else zfgN f k n := rfl
    rw [e]
    split
    · rw [zup_ne (fun w => h ⟨by rw [w.1], w.2⟩)]; exact zfgN_ne h n
    · exact zfgN_ne h n
theorem zfgN_at {f : zM} {k : Int32} : ∀ n t, zfgN f k n (7, t, 0) 0 = if t < n ∧ nI 7 ≤ k - f (7, t, 0) 5 then nI 0 else f (7, t, 0) 0
  | 0, t => by rw [if_neg (by omega)]; rfl
  | n + 1, t => by
    have ih := fun t => zfgN_at (f := f) (k := k) n t
    have e : zfgN f k (n + 1) = if nI 7 ≤ k - zfgN f k n (7, n, 0) 5 then zup (zfgN f k n) (7, n, 0) 0 (nI 0) else zfgN f k n := rfl
    rw [e, zfgN_ne (fun w => absurd w.2 (by decide))]
    by_cases q : t = n
    · subst q
      by_cases q2 : nI 7 ≤ k - f (7, t, 0) 5
      · rw [if_pos q2, if_pos ⟨by omega, q2⟩, zup_eq]
      · rw [if_neg q2, if_neg (fun w => q2 w.2), ih, if_neg (fun w => by omega)]
    · have hne : ((7, t, 0) : zA) ≠ (7, n, 0) := fun w => q (by have := congrArg (fun y => y.2.1) w; simpa using this)
      have e2 : (if nI 7 ≤ k - f (7, n, 0) 5 then zup (zfgN f k n) (7, n, 0) 0 (nI 0) else zfgN f k n) (7, t, 0) 0 = zfgN f k n (7, t, 0) 0 := by
        split
        · rw [zup_nk hne]
        · rfl
      rw [e2, ih]
      by_cases q2 : t < n ∧ nI 7 ≤ k - f (7, t, 0) 5
      · rw [if_pos q2, if_pos ⟨by omega, q2.2⟩]
      · rw [if_neg q2, if_neg (fun w => q2 ⟨by omega, w.2⟩)]
/-- the values of the reference after a superframe -/
theorem zPlay_v {s3 s4 s6 s7 : zM} {v h : Int32} {D : Nat → Nat} {R : Nat → Int32} {sn : Nat → Option Nat} {p n : Nat} (hp : p < 2) (hC : zCN sn (zc0N s3 p 5) p 30 n s4) (hF : zFs (zslN (zup (zc2N s4 5) (30, 0, 0) 2 v) h 5) s6) (hG : zGM s6 p s7 R D) :
    (∀ κ j, 33 ≤ κ → κ ≤ 43 → zup (zlc s7 30) (30, 0, 0) 1 (nI (N + 1)) (κ, 0, 0) j = s3 (κ, 0, 0) j) ∧
    (∀ κ j, κ = 31 ∨ κ = 32 ∨ κ = 44 ∨ κ = 45 ∨ κ = 46 ∨ κ = 47 ∨ κ = 48 ∨ κ = 49 ∨ κ = 50 ∨ κ = 51 ∨ κ = 52 ∨ κ = 53 ∨ κ = 54 ∨ κ = 56 ∨ κ = 57 → zup (zlc s7 30) (30, 0, 0) 1 (nI (N + 1)) (κ, 0, 0) j = zslN (zup (zc2N s4 5) (30, 0, 0) 2 v) h 5 (κ, 0, 0) j) ∧
    (∀ j, j < 30 → zup (zlc s7 30) (30, 0, 0) 1 (nI (N + 1)) (55, 0, 0) (30 * p + j) = R j) ∧ (∀ j, j < 30 → zup (zlc s7 30) (30, 0, 0) 1 (nI (N + 1)) (55, 0, 0) (30 * (1 - p) + j) = s3 (55, 0, 0) (30 * (1 - p) + j)) ∧
    (∀ j, j < 30 → zup (zlc s7 30) (30, 0, 0) 1 (nI (N + 1)) (58, 0, 0) j = nI 0) ∧ zup (zlc s7 30) (30, 0, 0) 1 (nI (N + 1)) (30, 0, 0) 1 = nI (N + 1) ∧ zup (zlc s7 30) (30, 0, 0) 1 (nI (N + 1)) (30, 0, 0) 2 = v := by
  have top : ∀ {κ j : Nat}, κ ≠ 30 → κ ≠ 58 → κ ≠ 55 → κ ≠ 63 → κ ≠ 64 → zup (zlc s7 30) (30, 0, 0) 1 (nI (N + 1)) (κ, 0, 0) j = zslN (zup (zc2N s4 5) (30, 0, 0) 2 v) h 5 (κ, 0, 0) j := fun {κ j} h1 h2 h3 h4 h5 => by
    have ne : ∀ {k : Nat}, κ ≠ k → ((κ, 0, 0) : zA) ≠ (k, 0, 0) := fun hk w => hk (congrArg Prod.fst w)
    rw [zup_nk (ne h1), zlc_ne (ne h2), hG.1 _ _ (ne h3) (ne h4), hF _ _ (ne h4) (ne h5)]
  have e55 : ∀ j, s6 (55, 0, 0) j = s3 (55, 0, 0) j := fun j => by
    rw [hF _ _ (by decide) (by decide), zslN_ne (by decide) (by decide), zup_nk (by decide), zc2N_ne (by decide), zCN_n2 (by simp) 30 n s4 hC, zc0N_ne (by decide) (by decide)]
  refine ⟨fun κ j h1 h2 => ?_, fun κ j hκ => top (by omega) (by omega) (by omega) (by omega) (by omega), fun j hj => ?_, fun j hj => ?_, fun j hj => ?_, zup_eq, ?_⟩
  · rw [top (by omega) (by omega) (by omega) (by omega) (by omega)]
    have ne : ∀ {k : Nat}, κ ≠ k → ((κ, 0, 0) : zA) ≠ (k, 0, 0) := fun hk w => hk (congrArg Prod.fst w)
    rw [zslN_ne (ne (by omega)) (ne (by omega)), zup_nk (ne (by omega)), zc2N_ne (ne (by omega))]
    have : κ = 33 ∨ κ = 40 ∨ (κ = 38 ∨ κ = 39 ∨ κ = 34 ∨ κ = 35 ∨ κ = 36 ∨ κ = 37 ∨ κ = 41 ∨ κ = 42 ∨ κ = 43) := by omega
    rcases this with rfl | rfl | hκ
    · rw [zCN_ne (by simp) 30 n s4 hC, zc0N_ne (by decide) (by decide)]
    · rw [zCN_ne (by simp) 30 n s4 hC, zc0N_ne (by decide) (by decide)]
    · rw [zCN_n2 (by rcases hκ with rfl | rfl | rfl | rfl | rfl | rfl | rfl | rfl | rfl <;> simp) 30 n s4 hC, zc0N_ne (ne (by omega)) (ne (by omega))]
  · rw [zup_nk (by decide), zlc_ne (by decide)]; exact hG.2.2.1 j hj
  · rw [zup_nk (by decide), zlc_ne (by decide), hG.2.1 _ (by omega)]; exact e55 _
  · rw [zup_nk (by decide)]
    unfold zlc
    rw [if_pos ⟨rfl, hj⟩]
  · rw [zup_ne (by decide), zlc_ne (by decide), hG.1 _ _ (by decide) (by decide), hF _ _ (by decide) (by decide), zslN_ne (by decide) (by decide), zup_eq]
end FR
