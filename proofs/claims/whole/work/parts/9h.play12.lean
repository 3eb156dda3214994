/-! A superframe: the chain; noting what was heard -/
def zCh (f0 : zM) (N : Nat) (M : Nat → Nat) (Z : Nat → Nat → Nat) (s3 : zM) : Prop := ∃ σ, zEq f0 σ ∧ zBuN M Z (zS3 σ N M Z) (N % 2) 29 s3
section CH
variable {f0 : zM} {N : Nat} {l : Nat → List Nat} {α : Nat → zAt} {M : Nat → Nat} {Z : Nat → Nat → Nat} {W Q : Nat → Nat}
theorem zCh.ne {s3 : zM} (h : zCh f0 N M Z s3) {κ j : Nat} (h1 : 31 ≤ κ) (h2 : κ ≠ 31 ∧ κ ≠ 32 ∧ κ ≠ 33 ∧ κ ≠ 35 ∧ κ ≠ 37 ∧ κ ≠ 41 ∧ κ ≠ 42 ∧ κ ≠ 43 ∧ κ ≠ 59 ∧ κ ≠ 60 ∧ κ ≠ 61 ∧ κ ≠ 62) : s3 (κ, 0, 0) j = f0 (κ, 0, 0) j := by
  obtain ⟨σ, hσ, hB⟩ := h
  have ne : ∀ {k : Nat}, κ ≠ k → ((κ, 0, 0) : zA) ≠ (k, 0, 0) := fun hk w => hk (congrArg Prod.fst w)
  rw [zBuN_ne (ne (by omega)) (ne (by omega)) (ne (by omega)) (ne (by omega)) (ne (by omega)) (ne (by omega)) (ne (by omega)) 29 s3 hB, zS3_ne (ne (by omega)) (ne (by omega)) (ne (by omega)) (ne (by omega)) (ne (by omega)) (ne (by omega)) (ne (by omega)) (ne (by omega))]
  exact hσ _ _ (by show 30 ≤ κ; omega) (fun w => ne (k := 30) (by omega) w.1)
theorem zCh.n30 {s3 : zM} (h : zCh f0 N M Z s3) {j : Nat} (h0 : j ≠ 0) (h1 : j ≠ 35) : s3 (30, 0, 0) j = f0 (30, 0, 0) j := by
  obtain ⟨σ, hσ, hB⟩ := h
  rw [zBuN_ne (by decide) (by decide) (by decide) (by decide) (by decide) (by decide) (by decide) 29 s3 hB]
  unfold zS3 zdq
  rw [zup_nk (by decide), zup_ne (fun w => h1 w.2), zS2_ne (by decide) (by decide) (by decide) (by decide) (by decide) (by decide)]
  exact hσ _ _ (by decide) (fun w => h0 w.2)
theorem zINV.rdy (hI : zINV f0 f0 N l α M Z W Q) {σ : zM} (hσ : zEq f0 σ) {F : zM} (h36 : ∀ j, F (36, 0, 0) j = σ (36, 0, 0) j) (h40 : ∀ j, F (40, 0, 0) j = σ (40, 0, 0) j) (h55 : ∀ j, F (55, 0, 0) j = σ (55, 0, 0) j) : zRdy M Z F (N % 2) := by
  obtain ⟨a, b, -⟩ := hI
  have hp : N % 2 < 2 := Nat.mod_lt _ (by decide)
  refine ⟨fun k k1 k2 => ?_, fun t ht => (a t ht).1.2.2.1.cg (fun j => ?_) (fun j => ?_)⟩
  · rw [h55, hσ _ _ (by decide) (by rintro ⟨w, -⟩; cases w)]; exact (b.2.1 _ hp).2.1 k k2
  · rw [h36]; exact hσ _ _ (by decide) (by rintro ⟨w, -⟩; cases w)
  · rw [h40]; exact hσ _ _ (by decide) (by rintro ⟨w, -⟩; cases w)
theorem zCh.ex (hI : zINV f0 f0 N l α M Z W Q) : ∃ s3, zCh f0 N M Z s3 := by
  have hself : zEq f0 f0 := fun _ _ _ _ => rfl
  obtain ⟨s3, h⟩ := zBuN_ex (M := M) (Z := Z) (F := zS2 f0 N M Z) (row := N % 2) (Nat.mod_lt _ (by decide)) (hI.rdy hself (fun j => zS2_ne (by decide) (by decide) (by decide) (by decide) (by decide) (by decide)) (fun j => zS2_ne (by decide) (by decide) (by decide) (by decide) (by decide) (by decide)) (fun j => zS2_ne (by decide) (by decide) (by decide) (by decide) (by decide) (by decide)))
  exact ⟨s3, f0, hself, h⟩
theorem zCh.ci (hI : zINV f0 f0 N l α M Z W Q) {s3 : zM} (h : zCh f0 N M Z s3) : zCI (zsnM s3) s3 := by
  obtain ⟨σ, hσ, hB⟩ := h
  have n3 : ∀ {κ j : Nat}, 44 ≤ κ → κ ≤ 58 → zS3 σ N M Z (κ, 0, 0) j = f0 (κ, 0, 0) j := fun {κ j} h1 h2 => by
    have ne : ∀ {k : Nat}, κ ≠ k → ((κ, 0, 0) : zA) ≠ (k, 0, 0) := fun hk w => hk (congrArg Prod.fst w)
    rw [zS3_ne (ne (by omega)) (ne (by omega)) (ne (by omega)) (ne (by omega)) (ne (by omega)) (ne (by omega)) (ne (by omega)) (ne (by omega))]
    exact hσ _ _ (by show 30 ≤ κ; omega) (fun w => ne (k := 30) (by omega) w.1)
  refine zCI_of (w := (List.range' 0 5).foldl (zdm (zS2 σ N M Z)) (none, 0)) (hI.rdy hσ (F := zS3 σ N M Z) (fun j => zS3_ne (by decide) (by decide) (by decide) (by decide) (by decide) (by decide) (by decide) (by decide)) (fun j => zS3_ne (by decide) (by decide) (by decide) (by decide) (by decide) (by decide) (by decide) (by decide)) (fun j => zS3_ne (by decide) (by decide) (by decide) (by decide) (by decide) (by decide) (by decide) (by decide))) hB (by unfold zS3 zdq; exact zup_eq) (zdm_lt _ _ (fun t ht => by rw [List.mem_range'_1] at ht; omega) (fun t w => by cases w)) (fun t ht d hd => ?_) (fun t ht => ?_)
  · obtain ⟨n, n6, e1, -⟩ := (hI.1 t ht).2.1.1.2.2.2.2 d hd
    exact ⟨n, n6, by rw [n3 (by omega) (by omega)]; exact e1⟩
  · rw [n3 (by omega) (by omega)]; exact (hI.1 t ht).2.1.2.2.2.2.1
/-- noting: what is kept -/
def zP6 (f0 : zM) (N : Nat) (M : Nat → Nat) (Z : Nat → Nat → Nat) (f3 f5 : zM) (k : Nat) (f : zM) : Prop := (∀ x j, ¬ (x.1 = 7 ∨ x.1 = 8 ∨ x.1 = 9) → f x j = f5 x j) ∧ ∀ s3, zCh f0 N M Z s3 → ∀ n s4, zCN (zsnM s3) (zc0N s3 (N % 2) 5) (N % 2) (k + 1) n s4 → n = zct f3 (zsnC f3) (k + 1) ∧ ∀ t, t < 5 → zA6 f s4 N (N % 2) t (M t) (Z t)
def zho (f3 : zM) (j : Nat) : Option Nat := bif zheB f3 (zsnC f3) j then zsnC f3 j else none
/-- what holds of the class after the bursts -/
def zK3 (f0 f3 f5 : zM) (N u : Nat) (M : Nat → Nat) (Z : Nat → Nat → Nat) (l3 : Nat → List Nat) (α3 : Nat → zAt) : Prop := zF3 f0 f3 ∧ (∀ s3, zCh f0 N M Z s3 → (∀ t, t < 5 → zT1 f3 s3 N t (l3 t) (α3 t) (M t) (Z t)) ∧ zB3 f3 s3 (N % 2) 29 u M Z) ∧ (∀ x j, ¬ (x.1 = 3 ∨ x.1 = 20 ∨ x.1 = 21) → f5 x j = f3 x j)
section NT
variable {f3 f5 : zM} {u : Nat} {l3 : Nat → List Nat} {α3 : Nat → zAt}
theorem zK3.sn (hK : zK3 f0 f3 f5 N u M Z l3 α3) {s3 : zM} (h : zCh f0 N M Z s3) {j : Nat} (hj : j < 30) : zsnC f3 j = zsnM s3 j := zsn_eq ((hK.2.1 s3 h).2.sn hj)
theorem zK3.lt (hI : zINV f0 f0 N l α M Z W Q) (hK : zK3 f0 f3 f5 N u M Z l3 α3) {j t : Nat} (hj : j < 30) (h : zsnC f3 j = some t) : t < 5 := by
  obtain ⟨s3, hs⟩ := zCh.ex hI
  rw [hK.sn hs hj] at h
  exact ((hs.ci hI).1 j hj).2 t h
theorem zK3.S (hI : zINV f0 f0 N l α M Z W Q) (hK : zK3 f0 f3 f5 N u M Z l3 α3) : zSn f3 (zsnC f3) := fun j hj => by
  obtain ⟨s3, hs⟩ := zCh.ex hI
  refine ⟨?_, fun t ht => hK.lt hI hj ht⟩
  rw [(hK.2.1 s3 hs).2.sn hj, hK.sn hs hj]
  exact ((hs.ci hI).1 j hj).1
theorem zK3.he (hI : zINV f0 f0 N l α M Z W Q) (hK : zK3 f0 f3 f5 N u M Z l3 α3) {s3 : zM} (h : zCh f0 N M Z s3) {j : Nat} (hj : j < 30) : zheM s3 (zsnM s3) j = zheB f3 (zsnC f3) j := by
  obtain ⟨hT, hB⟩ := hK.2.1 s3 h
  rw [zheM_sn hj (fun i hi => (hK.sn h hi).symm)]
  refine (zhe_eq (fun k hk => ?_) hB.1 (fun t ht => (hT t ht).2.1) (fun k t hk ht => hK.lt hI hk ht) hj).symm
  rw [hK.1 _ _ (by simp) (by rintro ⟨w, -⟩; cases w), h.ne (by omega) (by omega)]
  exact hI.2.1.2.2.1 k hk
theorem zho_lt (hI : zINV f0 f0 N l α M Z W Q) (hK : zK3 f0 f3 f5 N u M Z l3 α3) {j t : Nat} (hj : j < 30) (h : zho f3 j = some t) : t < 5 ∧ zheB f3 (zsnC f3) j = true ∧ zsnC f3 j = some t := by
  unfold zho at h
  cases q : zheB f3 (zsnC f3) j with
  | false => rw [q] at h; cases h
  | true =>
    rw [q] at h
    exact ⟨hK.lt hI hj h, rfl, h⟩
theorem zho_no {j : Nat} (h : zho f3 j = none) : zheB f3 (zsnC f3) j = false := by
  unfold zho at h
  cases q : zheB f3 (zsnC f3) j with
  | false => rfl
  | true =>
    rw [q] at h
    unfold zheB at q
    have h : zsnC f3 j = none := h
    rw [h] at q
    cases q
theorem zCN_r {s3 : zM} {sn : Nat → Option Nat} {p k n : Nat} {s4 : zM} (h : zCN sn (zc0N s3 p 5) p k n s4) {κ j : Nat} (hκ : κ = 59 ∨ κ = 60 ∨ κ = 61 ∨ κ = 62 ∨ κ = 40 ∨ κ = 33 ∨ κ = 58 ∨ κ = 30) : s4 (κ, 0, 0) j = s3 (κ, 0, 0) j := by
  rw [zCN_ne (by rcases hκ with rfl | rfl | rfl | rfl | rfl | rfl | rfl | rfl <;> simp) k n s4 h]
  exact zc0N_ne (fun w => by have := congrArg Prod.fst w; simp at this; omega) (fun w => by have := congrArg Prod.fst w; simp at this; omega) 5
theorem zCN_r2 {s3 : zM} {sn : Nat → Option Nat} {p k n : Nat} {s4 : zM} (h : zCN sn (zc0N s3 p 5) p k n s4) {j : Nat} : s4 (36, 0, 0) j = s3 (36, 0, 0) j := by
  rw [zCN_n2 (by simp) k n s4 h]
  exact zc0N_ne (by decide) (by decide) 5
theorem zK3.a0 (hI : zINV f0 f0 N l α M Z W Q) (hK : zK3 f0 f3 f5 N u M Z l3 α3) {s3 : zM} (h : zCh f0 N M Z s3) : ∀ t, t < 5 → zA6 f5 (zc0N s3 (N % 2) 5) N (N % 2) t (M t) (Z t) := by
  intro t ht
  have hf : ∀ κ k, κ = 7 ∨ κ = 8 ∨ κ = 9 → f5 (κ, t, 0) k = f0 (κ, t, 0) k := fun κ k hκ => by
    rw [hK.2.2 _ _ (by show ¬ (κ = 3 ∨ κ = 20 ∨ κ = 21); omega), hK.1 _ _ (by show ¬ (κ = 3 ∨ κ = 4 ∨ κ = 5 ∨ κ = 6 ∨ κ = 19); omega) (fun w => by have := congrArg Prod.fst w.1; simp at this; omega)]
  have hs : ∀ κ j, 44 ≤ κ → κ ≤ 51 → zc0N s3 (N % 2) 5 (κ, 0, 0) j = f0 (κ, 0, 0) j := fun κ j h1 h2 => by
    rw [zc0N_ne (fun w => by have := congrArg Prod.fst w; simp at this; omega) (fun w => by have := congrArg Prod.fst w; simp at this; omega)]
    exact h.ne (by omega) (by omega)
  obtain ⟨a, b, c, d, e, g, i⟩ := (hI.1 t ht).2.1
  refine ⟨a.cg (fun k _ => hf 7 k (by omega)) (fun k => hf 8 k (by omega)) (fun k => hf 9 k (by omega)) (hs 45 _ (by omega) (by omega)) (hs 47 _ (by omega) (by omega)) (hs 48 _ (by omega) (by omega)) (hs 49 _ (by omega) (by omega)) (fun _ _ => hs 50 _ (by omega) (by omega)) (fun _ _ => hs 51 _ (by omega) (by omega)), b.cg (fun _ _ => hs 51 _ (by omega) (by omega)), ?_, ?_, ?_, ?_, Or.inr ⟨?_, ?_⟩⟩
  · rw [hf 7 _ (by omega), hs 44 _ (by omega) (by omega)]; exact c
  · rw [hs 44 _ (by omega) (by omega)]; exact d
  · rw [hs 47 _ (by omega) (by omega)]; exact e
  · rw [hf 7 _ (by omega), hs 44 _ (by omega) (by omega), hs 46 _ (by omega) (by omega)]; exact g
  · exact ((zc0N_at (f := s3) (p := N % 2) 5 (by omega)).1 t ht).1
  · rw [hf 7 _ (by omega)]; exact i
theorem p_stage6 {sc : zC} {c s : Nat} {g : zW} {K : zR → Prop} (hI : zINV f0 f0 N l α M Z W Q) (hK3 : zK3 f0 f3 f5 N u M Z l3 α3) (hh : ∀ j, j < 30 → f5 (21, 0, 0) j = zopt (zho f3 j)) (hK : ∀ f', zP6 f0 N M Z f3 f5 29 f' → K (.inl none, zN c s (zfgN f' (nI N) 5) g)) : zT sc 31 0 true [zsu, some (.inl (nI N))] [] (zN c s f5 g) K := by
  have hN : ∀ {s3}, zCh f0 N M Z s3 → s3 (30, 0, 0) 1 = nI N := fun h => (h.n30 (by decide) (by decide)).trans hI.2.1.2.2.2.2.2.1
  have hp : N % 2 < 2 := Nat.mod_lt _ (by decide)
  have hct : ∀ k, zct f3 (zsnC f3) (k + 1) = zct f3 (zsnC f3) k + (bif zheB f3 (zsnC f3) k then 1 else 0) := fun k => rfl
  refine p_noteHeard (P := zP6 f0 N M Z f3 f5) (ho := zho f3) (hh 0 (by omega)) (fun t ht => (zho_lt hI hK3 (by omega) ht).1) (fun hn => ?_) (fun t ht => ?_) (fun k f hk hP => ?_) hK
  · refine ⟨fun _ _ _ => rfl, fun s3 hs n s4 hC => ?_⟩
    obtain ⟨s4', n', ⟨e1, e2⟩, e3, hst⟩ := hC
    subst e1 e2
    have eh := (zheM_cg (s := s3) (s' := zc0N s3 (N % 2) 5) (sn := zsnM s3) (k := 0) (fun j => zc0N_ne (by decide) (by decide) 5) (fun j => zc0N_ne (by decide) (by decide) 5) (fun j => zc0N_ne (by decide) (by decide) 5)).trans (hK3.he hI hs (j := 0) (by omega))
    have hb := zho_no hn
    rw [hb] at eh
    refine ⟨?_, zA6_no (hK3.a0 hI hs) eh hst⟩
    rw [e3, eh, hct, hb]; rfl
  · obtain ⟨ht5, hy, hs0⟩ := zho_lt hI hK3 (by omega) ht
    refine ⟨fun x j hx => ?_, fun s3 hs n s4 hC => ?_⟩
    · have hne : x ≠ (7, t, 0) := fun w => hx (by rw [w]; simp)
      rw [zup_nk hne, zup_nk hne, zup_nk hne]
    · obtain ⟨s4', n', ⟨e1, e2⟩, e3, hst⟩ := hC
      subst e1 e2
      have eh := (zheM_cg (s := s3) (s' := zc0N s3 (N % 2) 5) (sn := zsnM s3) (k := 0) (fun j => zc0N_ne (by decide) (by decide) 5) (fun j => zc0N_ne (by decide) (by decide) 5) (fun j => zc0N_ne (by decide) (by decide) 5)).trans (hK3.he hI hs (j := 0) (by omega))
      rw [hy] at eh
      refine ⟨?_, zA6_door hp ht5 (hK3.a0 hI hs) eh (by rw [← hK3.sn hs (by omega)]; exact hs0) (by rw [zc0N_ne (by decide) (by decide)]; exact hN hs) hst⟩
      rw [e3, eh, hct, hy]; rfl
  · obtain ⟨p1, p2⟩ := hP
    obtain ⟨s3e, hse⟩ := zCh.ex hI
    obtain ⟨ne, s4e, hCe⟩ := zCN_ex hp (hse.ci hI)
    obtain ⟨ne', s4e', hCe'⟩ := zCN_pre (k := k + 1) (29 - k) (by rw [show k + 1 + (29 - k) = 30 by omega]; exact hCe)
    have e19 : ∀ q j, f (19, q, 0) j = f3 (19, q, 0) j := fun q j => by rw [p1 _ _ (by simp), hK3.2.2 _ _ (by simp)]
    refine ⟨by rw [p1 _ _ (by simp)]; exact hh (k + 1) (by omega), fun t ht => (zho_lt hI hK3 (by omega) ht).1, fun hn => ⟨p1, fun s3 hs n s4 hC => ?_⟩, fun t ht => ?_⟩
    · obtain ⟨s4', n', hC', e3, hst⟩ := hC
      obtain ⟨en, hA⟩ := p2 s3 hs n' s4' hC'
      have eh := (zheM_cg (s := s3) (s' := s4') (sn := zsnM s3) (k := k + 1) (fun j => zCN_r hC' (by omega)) (fun j => zCN_r hC' (by omega)) (fun j => zCN_r hC' (by omega))).trans (hK3.he hI hs (j := k + 1) (by omega))
      have hb := zho_no hn
      rw [hb] at eh
      refine ⟨?_, zA6_no hA eh hst⟩
      rw [e3, eh, hct, hb, en]
    · obtain ⟨ht5, hy, hs0⟩ := zho_lt hI hK3 (by omega) ht
      obtain ⟨-, hAe⟩ := p2 s3e hse ne' s4e' hCe'
      obtain ⟨aE, -, -, -, ⟨e, e1, e61, e47⟩, -, -⟩ := hAe t ht5
      have he : f (7, t, 0) 2 = nI e := aE.2.1.trans e47
      have hbj : ∀ {s3}, zCh f0 N M Z s3 → f3 (19, k + 1, 0) 1 = s3 (61, 0, 0) (k + 1) ∧ f3 (19, k + 1, 0) 2 = s3 (62, 0, 0) (k + 1) ∧ zCe f3 s3 t (k + 1) (M t) (Z t) := fun {s3} hs => by
        obtain ⟨-, -, -, hb5⟩ := (hK3.2.1 s3 hs).2
        rcases hb5 (k + 1) (by omega) (by omega) with ⟨w1, -⟩ | ⟨t', ht', w1, w2, w3, w4, w5, -⟩
        · exfalso
          have : zsnC f3 (k + 1) = none := by unfold zsnC; rw [w1]; rfl
          rw [this] at hs0; cases hs0
        · have : zsnC f3 (k + 1) = some t' := by unfold zsnC; rw [w1, if_neg (nI_pos (by omega)), nI_clamp (by omega)]
          rw [this] at hs0
          cases hs0
          exact ⟨w3, w4, w5⟩
      obtain ⟨⟨b, b61, hb62⟩, -⟩ := (hse.ci hI).2.2.2 (k + 1) (by omega) (by omega) t (by rw [← hK3.sn hse (by omega)]; exact hs0)
      have hb : f (19, k + 1, 0) 2 = nI b := by rw [e19, (hbj hse).2.1]; exact hb62
      refine ⟨b, e, hb, b61, he, e61, fun f' hNp => ⟨fun x j hx => ?_, fun s3 hs n s4 hC => ?_⟩⟩
      · rw [hNp.ne (fun w => hx (by rw [w]; simp)) (fun w => hx (by rw [w]; simp)) (fun w => hx (by rw [w]; simp))]
        exact p1 x j hx
      · obtain ⟨s4', n', hC', e3, hst⟩ := hC
        obtain ⟨en, hA⟩ := p2 s3 hs n' s4' hC'
        have eh := (zheM_cg (s := s3) (s' := s4') (sn := zsnM s3) (k := k + 1) (fun j => zCN_r hC' (by omega)) (fun j => zCN_r hC' (by omega)) (fun j => zCN_r hC' (by omega))).trans (hK3.he hI hs (j := k + 1) (by omega))
        rw [hy] at eh
        obtain ⟨w3, w4, w5⟩ := hbj hs
        refine ⟨?_, zA6_place hp ht5 (by omega) hA eh (by rw [← hK3.sn hs (by omega)]; exact hs0) (by rw [zCN_r hC' (by omega)]; exact hN hs) (((hK3.2.1 s3 hs).1 t ht5).2.2.1.cg (fun j => zCN_r2 hC') (fun j => zCN_r hC' (by omega))) he e61 hb b61 (by rw [e19, zCN_r hC' (by omega)]; exact w3) (by rw [e19, zCN_r hC' (by omega)]; exact w4) ?_ hNp hst⟩
        · rw [e3, eh, hct, hy, en]
        · unfold zCe at w5 ⊢
          simp only [e19, zCN_r hC' (κ := 60) (by omega)]
          exact w5
end NT
end CH
