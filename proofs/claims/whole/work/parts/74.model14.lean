/-! The reference: whole datagrams; passing; reading -/
theorem nI_div {a b : Nat} (ha : a < 2 ^ 31) (hb : b < 2 ^ 31) : nI a / nI b = nI (a / b) := by
  rw [← Int32.toInt_inj, Int32.toInt_div, nI_toInt ha, nI_toInt hb, nI_toInt (Nat.lt_of_le_of_lt (Nat.div_le_self _ _) ha)]
  have h1 := Nat.div_le_self a b
  rw [show ((a : Int).tdiv (b : Int)) = ((a / b : Nat) : Int) from rfl]
  generalize a / b = q at *
  apply Int.bmod_eq_of_le <;> omega
def zcm (f : zM) (b : Nat) : Nat → Bool
  | 0 => true
  | n + 1 => zcm f b n && !decide (f (50, 0, 0) (b + n) = 0)
def zwh (f : zM) (t d : Nat) : Bool := decide (d ≤ 60) && (!decide (f (51, 0, 0) (61 * t + d) = 0) && zcm f (366 * t + 6 * d) (f (51, 0, 0) (61 * t + d)).toNatClampNeg)
def zTo (f : zM) (t : Nat) : Prop := ∀ d, d ≤ 60 → ∃ n, n ≤ 6 ∧ f (51, 0, 0) (61 * t + d) = nI n
def zpm (f : zM) (t e : Nat) : zM := zup (bif zwh f t e then zup (zup f (49, 0, 0) t (nI e)) (48, 0, 0) t (f (48, 0, 0) t + nI 1) else f) (47, 0, 0) t (nI (e + 1))
def zpmN (f : zM) (t e : Nat) : Nat → zM
  | 0 => f
  | n + 1 => zpmN (zpm f t e) t (e + 1) n
theorem zpm_ne {f : zM} {t e j : Nat} {x : zA} (h1 : x ≠ (47, 0, 0)) (h2 : x ≠ (48, 0, 0)) (h3 : x ≠ (49, 0, 0)) : zpm f t e x j = f x j := by
  unfold zpm
  rw [zup_nk h1]
  cases zwh f t e
  · rfl
  · show zup (zup _ _ _ _) _ _ _ x j = _
    rw [zup_nk h2, zup_nk h3]
theorem zpmN_ne {t j : Nat} {x : zA} (h1 : x ≠ (47, 0, 0)) (h2 : x ≠ (48, 0, 0)) (h3 : x ≠ (49, 0, 0)) : ∀ (n : Nat) {f : zM} {e : Nat}, zpmN f t e n x j = f x j
  | 0, _, _ => rfl
  | n + 1, _, _ => (zpmN_ne h1 h2 h3 n).trans (zpm_ne h1 h2 h3)
theorem zpm_47 {f : zM} {t e : Nat} : zpm f t e (47, 0, 0) t = nI (e + 1) := zup_eq
theorem zpmN_47 {t : Nat} : ∀ (n : Nat) {f : zM} {e : Nat}, f (47, 0, 0) t = nI e → zpmN f t e n (47, 0, 0) t = nI (e + n)
  | 0, _, _, h => h
  | n + 1, f, e, _ => by
    have := zpmN_47 n (f := zpm f t e) (e := e + 1) zpm_47
    rw [show e + (n + 1) = e + 1 + n by omega]
    exact this
theorem zcm_cg {f f' : zM} {b : Nat} (h : ∀ j, f' (50, 0, 0) j = f (50, 0, 0) j) : ∀ n, zcm f' b n = zcm f b n
  | 0 => rfl
  | n + 1 => by unfold zcm; rw [zcm_cg h n, h]
theorem zwh_cg {f f' : zM} {t d : Nat} (h : ∀ j, f' (50, 0, 0) j = f (50, 0, 0) j) (h2 : ∀ j, f' (51, 0, 0) j = f (51, 0, 0) j) : zwh f' t d = zwh f t d := by
  unfold zwh; rw [h2, zcm_cg h]
theorem zTo.cg {f f' : zM} {t : Nat} (h : zTo f t) (h2 : ∀ j, f' (51, 0, 0) j = f (51, 0, 0) j) : zTo f' t := fun d hd => by rw [h2]; exact h d hd
section MO14
variable {sc : zC} {c s : Nat} {f : zM} {g : zW} {K : zR → Prop} {t : Nat}
theorem q_isWhole_loop {d n : Nat} (ht : t < 5) (hd : d ≤ 60) (hn : f (51, 0, 0) (61 * t + d) = nI n) (h6 : n ≤ 6) (r : Nat) : ∀ {i : Nat}, i + r = n → K (.inl (some (.inl (zbI (zcm f (366 * t + 6 * d) n)))), zN c s f g) → zT sc 48 27 true [zmo, some (.inl (nI t)), some (.inl (nI d)), some (.inl (zbI (zcm f (366 * t + 6 * d) i))), some (.inl (nI i))] [] (zN c s f g) K := by
  have hin : ¬ (nI 61 * nI t + nI d < 0 ∨ 305 ≤ (nI 61 * nI t + nI d).toNatClampNeg) := by
    rw [zsz_e]; exact nI_in (N := 305) (by omega) (by decide)
  have ec : f (51, 0, 0) (nI 61 * nI t + nI d).toNatClampNeg = nI n := by rw [zsz_e, nI_clamp (by omega), hn]
  induction r with
  | zero =>
    intro i hi hK
    have e : i = n := by omega
    subst e
    refine zb ?_
    refine zin hin ?_
    refine zip (show f (51, 0, 0) (nI 61 * nI t + nI d).toNatClampNeg ≤ nI i by rw [ec]; exact nI_le (Nat.le_refl _) (by omega)) ?_
    cases h : zcm f (366 * t + 6 * d) i with
    | true => rw [h] at hK; refine zb ?_; exact hK
    | false => rw [h] at hK; refine zb ?_; exact hK
  | succ r ih =>
    intro i hi hK
    have e : zcm f (366 * t + 6 * d) (i + 1) = (zcm f (366 * t + 6 * d) i && !decide (f (50, 0, 0) (366 * t + 6 * d + i) = 0)) := rfl
    have h67 : ∀ x w, x = zbI (zcm f (366 * t + 6 * d) (i + 1)) → zT sc 48 67 true [zmo, some (.inl (nI t)), some (.inl (nI d)), w, some (.inl (nI i))] [.inl x] (zN c s f g) K := fun x w hx => by
      subst hx
      have h := ih (i := i + 1) (by omega) hK
      rw [← nI_add] at h
      refine zb ?_
      exact h
    rw [e] at h67
    refine zb ?_
    refine zin hin ?_
    refine zin (show ¬ f (51, 0, 0) (nI 61 * nI t + nI d).toNatClampNeg ≤ nI i by rw [ec]; exact nI_ge (by omega) (by omega)) ?_
    cases h : zcm f (366 * t + 6 * d) i with
    | false =>
      rw [h] at h67
      refine zb ?_
      exact h67 _ _ rfl
    | true =>
      rw [h] at h67
      refine q_atI ?_
      rw [zat_e]
      refine zin (nI_in (N := 1830) (by omega) (by decide)) ?_
      rw [nI_clamp (show 366 * t + 6 * d + i < 2 ^ 31 by omega)]
      refine zif (fun q => ?_) (fun q => ?_)
      · refine zb ?_
        refine h67 _ _ ?_
        rw [decide_eq_true (p := f (50, 0, 0) (366 * t + 6 * d + i) = 0) q]; rfl
      · refine h67 _ _ ?_
        rw [decide_eq_false (p := f (50, 0, 0) (366 * t + 6 * d + i) = 0) q]; rfl
theorem q_isWhole {d : Nat} (ht : t < 5) (hd : d ≤ 61) (hT : zTo f t) (hK : K (.inl (some (.inl (zbI (zwh f t d)))), zN c s f g)) : zT sc 48 0 true [zmo, some (.inl (nI t)), some (.inl (nI d))] [] (zN c s f g) K := by
  have hno : zwh f t d = false → zT sc 48 20 true [zmo, some (.inl (nI t)), some (.inl (nI d))] [] (zN c s f g) K := fun w => by
    rw [w] at hK
    refine zb ?_
    exact hK
  refine zb ?_
  by_cases h60 : d ≤ 60
  · obtain ⟨n, n6, hn⟩ := hT d h60
    refine zin (show ¬ nI 60 < nI d from nI_nlt (by omega) (by decide)) ?_
    refine zin (show ¬ (nI 61 * nI t + nI d < 0 ∨ 305 ≤ (nI 61 * nI t + nI d).toNatClampNeg) by rw [zsz_e]; exact nI_in (N := 305) (by omega) (by decide)) ?_
    have ec : f (51, 0, 0) (nI 61 * nI t + nI d).toNatClampNeg = f (51, 0, 0) (61 * t + d) := by rw [zsz_e, nI_clamp (by omega)]
    refine zif (fun q => ?_) (fun q => ?_)
    · have q : f (51, 0, 0) (nI 61 * nI t + nI d).toNatClampNeg = 0 := q
      rw [ec] at q
      exact hno (by unfold zwh; rw [decide_eq_true q]; simp)
    · have q : ¬ f (51, 0, 0) (nI 61 * nI t + nI d).toNatClampNeg = 0 := q
      rw [ec] at q
      refine zb ?_
      unfold zwh at hK
      rw [decide_eq_true h60, decide_eq_false q, hn, nI_clamp (by omega)] at hK
      exact q_isWhole_loop ht h60 hn n6 n (i := 0) (by omega) hK
  · refine zip (show nI 60 < nI d from nI_lt (by omega) (by omega)) ?_
    exact hno (by unfold zwh; rw [decide_eq_false h60]; rfl)
theorem q_pass {e : Nat} (ht : t < 5) (he : f (47, 0, 0) t = nI e) (h61 : e ≤ 61) (hT : zTo f t) (hK : K (.inl none, zN c s (zpm f t e) g)) : zT sc 47 0 true [zmo, some (.inl (nI t))] [] (zN c s f g) K := by
  refine zb ?_
  refine zin (nI_in (N := 5) ht (by decide)) ?_
  rw [nI_clamp (show t < 2 ^ 31 by omega)]
  show zT sc 48 0 true [zmo, some (.inl (nI t)), some (.inl (f (47, 0, 0) t))] [] (zN c s f g) _
  rw [he]
  refine q_isWhole ht h61 hT ?_
  unfold zpm at hK
  cases h : zwh f t e with
  | true =>
    rw [h] at hK
    refine zin (nI_in (N := 5) ht (by decide)) ?_
    refine zin (nI_in (N := 5) ht (by decide)) ?_
    refine zin (nI_in (N := 5) ht (by decide)) ?_
    refine zin (nI_in (N := 5) ht (by decide)) ?_
    rw [nI_clamp (show t < 2 ^ 31 by omega)]
    refine zb ?_
    refine zin (nI_in (N := 5) ht (by decide)) ?_
    refine zin (nI_in (N := 5) ht (by decide)) ?_
    rw [nI_clamp (show t < 2 ^ 31 by omega)]
    show K (.inl none, zN c s (zup (zup (zup f (49, 0, 0) t (f (47, 0, 0) t)) (48, 0, 0) t (zup f (49, 0, 0) t (f (47, 0, 0) t) (48, 0, 0) t + nI 1)) (47, 0, 0) t (zup (zup f (49, 0, 0) t (f (47, 0, 0) t)) (48, 0, 0) t (zup f (49, 0, 0) t (f (47, 0, 0) t) (48, 0, 0) t + nI 1) (47, 0, 0) t + nI 1)) g)
    rw [zup_nk (x := (47, 0, 0)) (by decide), zup_nk (x := (47, 0, 0)) (by decide), zup_nk (x := (48, 0, 0)) (by decide), he, nI_add]
    exact hK
  | false =>
    rw [h] at hK
    refine zb ?_
    refine zin (nI_in (N := 5) ht (by decide)) ?_
    refine zin (nI_in (N := 5) ht (by decide)) ?_
    rw [nI_clamp (show t < 2 ^ 31 by omega)]
    rw [← nI_add, ← he] at hK
    exact hK
/-- until the least -/
theorem q_read_a {k b : Nat} (ht : t < 5) (hk : k < 30) (hb : b ≤ 61) (n : Nat) : ∀ {f : zM} {e : Nat} {cl : Bool}, f (62, 0, 0) k = nI b → zTo f t → e + n = max e b → f (47, 0, 0) t = nI e → e ≤ 61 → (∀ cl, zT sc 46 35 cl [zmo, some (.inl (nI t)), some (.inl (nI k))] [] (zN c s (zpmN f t e n) g) K) → zT sc 46 12 cl [zmo, some (.inl (nI t)), some (.inl (nI k))] [] (zN c s f g) K := by
  induction n with
  | zero =>
    intro f e cl hl hT hn he h61 hK
    refine zb ?_
    refine zin (nI_in (N := 30) hk (by decide)) ?_
    rw [nI_clamp (show k < 2 ^ 31 by omega)]
    refine zin (nI_in (N := 5) ht (by decide)) ?_
    rw [nI_clamp (show t < 2 ^ 31 by omega)]
    refine zip (show f (62, 0, 0) k ≤ f (47, 0, 0) t by rw [hl, he]; exact nI_le (by omega) (by omega)) ?_
    exact hK _
  | succ n ih =>
    intro f e cl hl hT hn he h61 hK
    refine zb ?_
    refine zin (nI_in (N := 30) hk (by decide)) ?_
    rw [nI_clamp (show k < 2 ^ 31 by omega)]
    refine zin (nI_in (N := 5) ht (by decide)) ?_
    rw [nI_clamp (show t < 2 ^ 31 by omega)]
    refine zin (show ¬ f (62, 0, 0) k ≤ f (47, 0, 0) t by rw [hl, he]; exact nI_ge (by omega) (by omega)) ?_
    refine q_pass ht he h61 hT ?_
    exact ih (f := zpm f t e) (e := e + 1) ((zpm_ne (by decide) (by decide) (by decide)).trans hl) (hT.cg (fun j => zpm_ne (by decide) (by decide) (by decide))) (by omega) zpm_47 (by omega) hK
/-- while whole -/
theorem q_read_b {k : Nat} {v : Option zV} (ht : t < 5) (n : Nat) : ∀ {f : zM} {e : Nat} {cl : Bool}, zTo f t → e + n = 61 → f (47, 0, 0) t = nI e → (∀ m, e + m ≤ 61 → (∀ j, j < m → zwh f t (e + j) = true) → zwh f t (e + m) = false → K (.inl none, zN c s (zpmN f t e m) g)) → zT sc 46 107 cl [zmo, some (.inl (nI t)), some (.inl (nI k)), v] [] (zN c s f g) K := by
  induction n with
  | zero =>
    intro f e cl hT hn he hK
    have hf : zwh f t e = false := by unfold zwh; rw [decide_eq_false (by omega)]; rfl
    refine zb ?_
    refine zin (nI_in (N := 5) ht (by decide)) ?_
    rw [nI_clamp (show t < 2 ^ 31 by omega)]
    show zT sc 48 0 true [zmo, some (.inl (nI t)), some (.inl (f (47, 0, 0) t))] [] (zN c s f g) _
    rw [he]
    refine q_isWhole ht (by omega) hT ?_
    rw [hf]
    refine zb ?_
    exact hK 0 (by omega) (fun j w => by omega) hf
  | succ n ih =>
    intro f e cl hT hn he hK
    refine zb ?_
    refine zin (nI_in (N := 5) ht (by decide)) ?_
    rw [nI_clamp (show t < 2 ^ 31 by omega)]
    show zT sc 48 0 true [zmo, some (.inl (nI t)), some (.inl (f (47, 0, 0) t))] [] (zN c s f g) _
    rw [he]
    refine q_isWhole ht (by omega) hT ?_
    cases hf : zwh f t e with
    | false =>
      refine zb ?_
      exact hK 0 (by omega) (fun j w => by omega) hf
    | true =>
      refine q_pass ht he (by omega) hT ?_
      have hw : ∀ x, zwh (zpm f t e) t x = zwh f t x := fun x => zwh_cg (fun j => zpm_ne (by decide) (by decide) (by decide)) (fun j => zpm_ne (by decide) (by decide) (by decide))
      refine ih (f := zpm f t e) (e := e + 1) (hT.cg (fun j => zpm_ne (by decide) (by decide) (by decide))) (by omega) zpm_47 (fun m h1 h2 h3 => ?_)
      refine hK (m + 1) (by omega) (fun j hj => ?_) ?_
      · by_cases q : j = 0
        · subst q; exact hf
        · have := h2 (j - 1) (by omega)
          rw [hw, show e + 1 + (j - 1) = e + j by omega] at this
          exact this
      · rw [hw, show e + 1 + m = e + (m + 1) by omega] at h3
        exact h3
/-- reading -/
theorem q_read {k b e : Nat} {o : Option Nat} (ht : t < 5) (hk : k < 30) (hb : b ≤ 61) (hl : f (62, 0, 0) k = nI b) (hT : zTo f t) (he : f (47, 0, 0) t = nI e) (h1e : 1 ≤ e) (h61 : e ≤ 61) (hc : f (60, 0, 0) k = zopt o) (ho : ∀ i, o = some i → 366 * t + 6 ≤ i ∧ i < 366 * t + 366 ∧ ∃ n, n ≤ 6 ∧ f (40, 0, 0) (i / 6) = nI n)
    (hK : ∀ f3 m, ((∃ i d, o = some i ∧ i / 6 = 61 * t + d ∧ max e b ≤ d ∧ f3 = zup (zup (zpmN (zup f (45, 0, 0) t (f (61, 0, 0) k)) t e (max e b - e)) (50, 0, 0) i (nI 1)) (51, 0, 0) (61 * t + d) (f (40, 0, 0) (61 * t + d))) ∨ ((∀ i d, o = some i → i / 6 = 61 * t + d → d < max e b) ∧ f3 = zpmN (zup f (45, 0, 0) t (f (61, 0, 0) k)) t e (max e b - e))) → max e b + m ≤ 61 → (∀ j, j < m → zwh f3 t (max e b + j) = true) → zwh f3 t (max e b + m) = false → K (.inl none, zN c s (zpmN f3 t (max e b) m) g)) : zT sc 46 0 true [zmo, some (.inl (nI t)), some (.inl (nI k))] [] (zN c s f g) K := by
  refine zb ?_
  refine zin (nI_in (N := 30) hk (by decide)) ?_
  rw [nI_clamp (show k < 2 ^ 31 by omega)]
  refine zin (nI_in (N := 5) ht (by decide)) ?_
  rw [nI_clamp (show t < 2 ^ 31 by omega)]
  refine q_read_a (f := zup f (45, 0, 0) t (f (61, 0, 0) k)) ht hk hb (max e b - e) ((zup_nk (by decide)).trans hl) (hT.cg (fun j => zup_nk (by decide))) (by omega) ((zup_nk (by decide)).trans he) h61 (fun cl => ?_)
  have g47 : zpmN (zup f (45, 0, 0) t (f (61, 0, 0) k)) t e (max e b - e) (47, 0, 0) t = nI (max e b) := by
    rw [zpmN_47 _ ((zup_nk (by decide)).trans he)]
    congr 1; omega
  have gne : ∀ {x : zA} {j : Nat}, x ≠ (47, 0, 0) → x ≠ (48, 0, 0) → x ≠ (49, 0, 0) → x ≠ (45, 0, 0) → zpmN (zup f (45, 0, 0) t (f (61, 0, 0) k)) t e (max e b - e) x j = f x j := fun h1 h2 h3 h4 => (zpmN_ne h1 h2 h3 _).trans (zup_nk h4)
  generalize zpmN (zup f (45, 0, 0) t (f (61, 0, 0) k)) t e (max e b - e) = F at hK g47 gne ⊢
  have gc : F (60, 0, 0) k = zopt o := (gne (by decide) (by decide) (by decide) (by decide)).trans hc
  have gT : zTo F t := hT.cg (fun j => gne (by decide) (by decide) (by decide) (by decide))
  refine zb ?_
  refine zin (nI_in (N := 30) hk (by decide)) ?_
  rw [nI_clamp (show k < 2 ^ 31 by omega)]
  cases o with
  | none =>
    refine zin (show ¬ 0 ≤ F (60, 0, 0) k by rw [gc]; decide) ?_
    refine zb ?_
    refine zin (nI_in (N := 5) ht (by decide)) ?_
    rw [nI_clamp (show t < 2 ^ 31 by omega)]
    refine zip (show nI 0 < F (47, 0, 0) t by rw [g47]; exact nI_lt (by omega) (by omega)) ?_
    exact q_read_b ht (61 - max e b) (e := max e b) gT (by omega) g47 (fun m h1 h2 h3 => hK F m (Or.inr ⟨fun i d w => (by cases w), rfl⟩) h1 h2 h3)
  | some i =>
    obtain ⟨o1, o2, n, n6, o3⟩ := ho i rfl
    obtain ⟨d, hd⟩ : ∃ d, i / 6 = 61 * t + d := ⟨i / 6 - 61 * t, by omega⟩
    have gc : F (60, 0, 0) k = nI i := gc
    have e1 : F (60, 0, 0) k / nI 6 - nI 61 * nI t = nI d := by
      rw [gc, nI_div (by omega) (by decide), nI_mul, hd, ← nI_add, Int32.add_comm, Int32.add_sub_cancel]
    refine zip (show 0 ≤ F (60, 0, 0) k by rw [gc]; exact nI_pos' (by omega)) ?_
    refine zb ?_
    refine zin (nI_in (N := 30) hk (by decide)) ?_
    rw [nI_clamp (show k < 2 ^ 31 by omega)]
    show zT sc 46 62 _ _ [.inl (F (60, 0, 0) k / nI 6 - nI 61 * nI t)] _ _
    rw [e1]
    refine zb ?_
    refine zin (nI_in (N := 5) ht (by decide)) ?_
    rw [nI_clamp (show t < 2 ^ 31 by omega)]
    by_cases q : d < max e b
    · refine zip (show nI d < F (47, 0, 0) t by rw [g47]; exact nI_lt q (by omega)) ?_
      exact q_read_b ht (61 - max e b) (e := max e b) gT (by omega) g47 (fun m h1 h2 h3 => hK F m (Or.inr ⟨fun i' d' w w' => (by cases w; omega), rfl⟩) h1 h2 h3)
    · refine zin (show ¬ nI d < F (47, 0, 0) t by rw [g47]; exact nI_nlt (by omega) (by omega)) ?_
      refine zin (nI_in (N := 30) hk (by decide)) ?_
      rw [nI_clamp (show k < 2 ^ 31 by omega)]
      refine zin (show ¬ (F (60, 0, 0) k < 0 ∨ 1830 ≤ (F (60, 0, 0) k).toNatClampNeg) by rw [gc]; exact nI_in (N := 1830) (by omega) (by decide)) ?_
      have hin : ¬ (nI 61 * nI t + nI d < 0 ∨ 305 ≤ (nI 61 * nI t + nI d).toNatClampNeg) := by
        rw [zsz_e]; exact nI_in (N := 305) (by omega) (by decide)
      refine zin hin ?_
      refine zin hin ?_
      have ei : (F (60, 0, 0) k).toNatClampNeg = i := by rw [gc, nI_clamp (by omega)]
      show zT sc 46 107 false _ [] (zN c s (zup (zup F (50, 0, 0) (F (60, 0, 0) k).toNatClampNeg (nI 1)) (51, 0, 0) (nI 61 * nI t + nI d).toNatClampNeg (zup F (50, 0, 0) (F (60, 0, 0) k).toNatClampNeg (nI 1) (40, 0, 0) (nI 61 * nI t + nI d).toNatClampNeg)) g) _
      rw [ei, zsz_e, nI_clamp (show 61 * t + d < 2 ^ 31 by omega), zup_nk (x := (40, 0, 0)) (by decide), gne (by decide) (by decide) (by decide) (by decide)]
      refine q_read_b ht (61 - max e b) (e := max e b) (fun x hx => ?_) (by omega) ((zup_nk (by decide)).trans ((zup_nk (by decide)).trans g47)) (fun m h1 h2 h3 => hK _ m (Or.inl ⟨i, d, rfl, hd, by omega, rfl⟩) h1 h2 h3)
      by_cases qx : x = d
      · subst qx
        exact ⟨n, n6, by rw [zup_eq, ← hd]; exact o3⟩
      · obtain ⟨m, m6, hm⟩ := gT x hx
        exact ⟨m, m6, by rw [zup_ne (by rintro ⟨-, w⟩; omega), zup_nk (by decide)]; exact hm⟩
end MO14
