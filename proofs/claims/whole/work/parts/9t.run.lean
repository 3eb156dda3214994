/-! The two constructors, run -/
theorem zt_opt {n m pc : Nat} {cl : Bool} {lv : zL} {st : List zV} {h : zS} {K : zR → Bool} : zt false none n m pc cl lv st h K = (match zt none none n m pc cl lv st h some with | none => false | some r => K r) :=
  (zt_nat (sc := none) (bot := (none : Option zR)) (fun o => match o with | none => false | some r => K r) n m pc cl lv st h some).symm
theorem zt_and {n m pc : Nat} {cl : Bool} {lv : zL} {st : List zV} {h : zS} {K K' : zR → Bool} (h1 : zt false none n m pc cl lv st h K = true) (h2 : zt false none n m pc cl lv st h K' = true) : zt false none n m pc cl lv st h (fun r => K r && K' r) = true := by
  rw [zt_opt] at h1 h2 ⊢
  cases e : zt none none n m pc cl lv st h some with
  | none => rw [e] at h1; exact h1
  | some r =>
    rw [e] at h1 h2
    exact Bool.and_eq_true_iff.mpr ⟨h1, h2⟩
def zall (p : Nat → Bool) : Nat → Bool
  | 0 => true
  | n + 1 => bif p n then zall p n else false
theorem zall_ok {p : Nat → Bool} : ∀ {n : Nat}, zall p n = true → ∀ i, i < n → p i = true
  | 0, _, i, hi => absurd hi (Nat.not_lt_zero i)
  | n + 1, h, i, hi => by
    unfold zall at h
    cases e : p n with
    | false => rw [e] at h; exact absurd (show false = true from h) (by decide)
    | true =>
      rw [e] at h
      by_cases q : i = n
      · rw [q]; exact e
      · exact zall_ok (n := n) h i (by omega)
def zbq (x y : Int32) : Bool := Nat.beq x.toBitVec.toNat y.toBitVec.toNat
theorem zbq_eq {x y : Int32} (h : zbq x y = true) : x = y := Int32.toBitVec_inj.mp (BitVec.eq_of_toNat_eq (Nat.eq_of_beq_eq_true h))
/-- one cell is as it should be left -/
def zckA (h : zS) (n : Nat) : Bool := zall (fun k => !Nat.beq (zsk (zc (znm n).1) k) 3 && ((!Nat.beq (zsk (zc (znm n).1) k) 2 || h.2.2.2.1 (znm n) k) && zbq (h.2.2.2.2.1 (znm n) k) (zf0 (znm n) k))) (zn (znm n).1)
theorem zckA_ok {h : zS} {n : Nat} (hk : zckA h n = true) {k : Nat} (hn : k < zn (znm n).1) : ¬ zsk (zc (znm n).1) k = 3 ∧ (zsk (zc (znm n).1) k = 2 → h.2.2.2.1 (znm n) k = true) ∧ h.2.2.2.2.1 (znm n) k = zf0 (znm n) k := by
  have := zall_ok hk k hn
  simp only [Bool.and_eq_true, Bool.or_eq_true, Bool.not_eq_true'] at this
  obtain ⟨a, b, c⟩ := this
  refine ⟨fun w => ?_, fun w => ?_, zbq_eq c⟩
  · rw [w] at a; exact absurd a (by decide)
  · rcases b with b | b
    · rw [w] at b; exact absurd b (by decide)
    · exact b
def zvd (P : zS → Bool) (r : zR) : Bool := match r with
  | (.inl none, h) => P h
  | _ => false
def zckR (lo n : Nat) (h : zS) : Bool := zall (fun i => zckA h (lo + i)) n
theorem zckR_ok {lo n : Nat} {h : zS} (hk : zckR lo n h = true) {m : Nat} (h1 : lo ≤ m) (h2 : m < lo + n) : zckA h m = true := by
  have := zall_ok hk (m - lo) (by omega)
  rw [show lo + (m - lo) = m by omega] at this
  exact this
/-- the reference's own cell, before its constructor -/
def zckM (h : zS) : Bool := zall (fun k => !Nat.beq (zsk (zc 30) k) 3 && (!h.2.2.2.1 (30, 0, 0) k && zbq (h.2.2.2.2.1 (30, 0, 0) k) 0)) 38
theorem zckM_ok {h : zS} (hk : zckM h = true) {k : Nat} (hn : k < 38) : ¬ zsk (zc 30) k = 3 ∧ h.2.2.2.1 (30, 0, 0) k = false ∧ h.2.2.2.2.1 (30, 0, 0) k = 0 := by
  have := zall_ok hk k hn
  simp only [Bool.and_eq_true, Bool.not_eq_true'] at this
  obtain ⟨a, b, c⟩ := this
  exact ⟨fun w => by rw [w] at a; exact absurd a (by decide), b, zbq_eq c⟩
def zh1 : zS := zal zh00 10
def zr1 (P : zS → Bool) : Bool := zt false none 500 0 0 true [some (.inr (.inl (0, 0, 0)))] [] zh1 (zvd P)
theorem zr1_0 : zr1 (fun h => Nat.beq h.1 222 && (Nat.beq h.2.1 2305 && (!h.2.2.1 && zckM h))) = true := by decide +kernel
theorem zr1_a : zr1 (zckR 0 60) = true := by decide +kernel
theorem zr1_b : zr1 (zckR 60 60) = true := by decide +kernel
theorem zr1_c : zr1 (zckR 120 50) = true := by decide +kernel
theorem zr1_d : zr1 (zckR 170 52) = true := by decide +kernel
def zlb (n : Nat) (a : zA) : Bool := Nat.blt a.1 90 && (zeq (znm (znum a)) a && Nat.blt (znum a) n)
def zhA : zS := (223, 2343, false, fun a _ => zlb 222 a, fun a k => bif zlb 222 a then zf0 a k else 0, fun _ _ => 0)
def zr2 (P : zS → Bool) : Bool := zt false none 500 33 0 true [some (.inr (.inl (30, 0, 0)))] [] zhA (zvd P)
theorem zr2_0 : zr2 (fun h => Nat.beq h.1 257 && (Nat.beq h.2.1 10718 && !h.2.2.1)) = true := by decide +kernel
theorem zr2_a : zr2 (zckR 0 120) = true := by decide +kernel
theorem zr2_b : zr2 (zckR 120 113) = true := by decide +kernel
theorem zr2_c : zr2 (zckR 233 1) = true := by decide +kernel
theorem zr2_d : zr2 (zckR 234 1) = true := by decide +kernel
theorem zr2_e : zr2 (zckR 235 7) = true := by decide +kernel
theorem zr2_f : zr2 (zckR 242 1) = true := by decide +kernel
theorem zr2_g : zr2 (zckR 243 14) = true := by decide +kernel
theorem zvd_and {P P' : zS → Bool} : (fun r => zvd P r && zvd P' r) = zvd (fun h => P h && P' h) := by
  funext r
  match r with
  | (.inl none, h) => rfl
  | (.inl (some _), h) => rfl
  | (.inr _, h) => rfl
theorem zr1_and {P P' : zS → Bool} (h1 : zr1 P = true) (h2 : zr1 P' = true) : zr1 (fun h => P h && P' h) = true := by
  have := zt_and h1 h2
  rw [zvd_and] at this
  exact this
theorem zr2_and {P P' : zS → Bool} (h1 : zr2 P = true) (h2 : zr2 P' = true) : zr2 (fun h => P h && P' h) = true := by
  have := zt_and h1 h2
  rw [zvd_and] at this
  exact this
theorem zlb_ok : ∀ n, n < 222 → zlb 222 (znm n) = true := by decide +kernel
theorem zvd_ok {P : zS → Bool} {r : zR} (h : zvd P r = true) : ∃ h', r = (.inl none, h') ∧ P h' = true := by
  match r, h with
  | (.inl none, h'), h => exact ⟨h', rfl, h⟩
/-- the class's constructor -/
theorem zctor1 {sc : zC} : ∃ h : zS, (h.1 = 222 ∧ h.2.1 = 2305 ∧ h.2.2.1 = false) ∧ (∀ n k, n < 222 → k < zn (znm n).1 → ¬ zsk (zc (znm n).1) k = 3 ∧ (zsk (zc (znm n).1) k = 2 → h.2.2.2.1 (znm n) k = true) ∧ h.2.2.2.2.1 (znm n) k = zf0 (znm n) k) ∧ (∀ k, k < 38 → ¬ zsk (zc 30) k = 3 ∧ h.2.2.2.1 (30, 0, 0) k = false ∧ h.2.2.2.2.1 (30, 0, 0) k = 0) ∧ ∀ K : zR → Prop, K (.inl none, h) → zT sc 0 0 true [some (.inr (.inl (0, 0, 0)))] [] zh1 K := by
  have hb := zr1_and zr1_0 (zr1_and zr1_a (zr1_and zr1_b (zr1_and zr1_c zr1_d)))
  obtain ⟨r, hr, hT⟩ := zB_T (sc := sc) hb
  obtain ⟨h, rfl, hP⟩ := zvd_ok hr
  simp only [Bool.and_eq_true, Bool.not_eq_true'] at hP
  obtain ⟨⟨b1, b2, b3, bM⟩, ba, bb, bc, bd⟩ := hP
  refine ⟨h, ⟨Nat.eq_of_beq_eq_true b1, Nat.eq_of_beq_eq_true b2, b3⟩, fun n k hn hk => ?_, fun k hk => zckM_ok bM hk, hT⟩
  have : zckA h n = true := by
    by_cases q1 : n < 60
    · exact zckR_ok ba (by omega) (by omega)
    · by_cases q2 : n < 120
      · exact zckR_ok bb (by omega) (by omega)
      · by_cases q3 : n < 170
        · exact zckR_ok bc (by omega) (by omega)
        · exact zckR_ok bd (by omega) (by omega)
  exact zckA_ok this hk
/-- the reference's -/
theorem zctor2 {sc : zC} : ∃ h : zS, (h.1 = 257 ∧ h.2.1 = 10718 ∧ h.2.2.1 = false) ∧ (∀ n k, n < 257 → k < zn (znm n).1 → ¬ zsk (zc (znm n).1) k = 3 ∧ (zsk (zc (znm n).1) k = 2 → h.2.2.2.1 (znm n) k = true) ∧ h.2.2.2.2.1 (znm n) k = zf0 (znm n) k) ∧ ∀ K : zR → Prop, K (.inl none, h) → zT sc 33 0 true [some (.inr (.inl (30, 0, 0)))] [] zhA K := by
  have hb := zr2_and zr2_0 (zr2_and zr2_a (zr2_and zr2_b (zr2_and zr2_c (zr2_and zr2_d (zr2_and zr2_e (zr2_and zr2_f zr2_g))))))
  obtain ⟨r, hr, hT⟩ := zB_T (sc := sc) hb
  obtain ⟨h, rfl, hP⟩ := zvd_ok hr
  simp only [Bool.and_eq_true, Bool.not_eq_true'] at hP
  obtain ⟨⟨b1, b2, b3⟩, ba, bb, bc, bd, be, bf, bg⟩ := hP
  refine ⟨h, ⟨Nat.eq_of_beq_eq_true b1, Nat.eq_of_beq_eq_true b2, b3⟩, fun n k hn hk => ?_, hT⟩
  have : zckA h n = true := by
    by_cases q1 : n < 120
    · exact zckR_ok ba (by omega) (by omega)
    · by_cases q2 : n < 233
      · exact zckR_ok bb (by omega) (by omega)
      · by_cases q3 : n < 234
        · exact zckR_ok bc (by omega) (by omega)
        · by_cases q4 : n < 235
          · exact zckR_ok bd (by omega) (by omega)
          · by_cases q5 : n < 242
            · exact zckR_ok be (by omega) (by omega)
            · by_cases q6 : n < 243
              · exact zckR_ok bf (by omega) (by omega)
              · exact zckR_ok bg (by omega) (by omega)
  exact zckA_ok this hk
