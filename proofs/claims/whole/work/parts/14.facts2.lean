/-! facts of new cells (gen/facts.py) -/
def zinP : Nat → Nat := fun ci => match ci with
  | 0 => 63
  | 1 => 160
  | 2 => 80
  | 3 => 258
  | 4 => 87
  | 5 => 236
  | 6 => 166
  | 7 => 74
  | 8 => 737
  | _ => 0
def zitP : Nat → Nat := fun ci => match ci with
  | 0 => 46
  | 1 => 50
  | 2 => 48
  | 3 => 54
  | 4 => 49
  | 5 => 52
  | 6 => 51
  | 7 => 47
  | 8 => 55
  | _ => 0
theorem zF_in : ∀ ci, ci < 9 → zgd (zinP ci) (.instantiable (zcn ci) (zTb ci).2.2) = true ∧ zgd (zitP ci) (.initialized (zcn ci)) = true := by decide +kernel
def znwC (own : Nat) (q : Nat × (Nat × Nat)) : Bool := decide (q.2.1 < 9) && zgd q.2.2 (.classLink (zcn own) q.1 (zcn q.2.1))
theorem znw_ok : ∀ own, own < 11 → ((znwL own).all (znwC own)) = true := by decide +kernel
theorem zF_nw {own j ci pl : Nat} (h : znw own j = some (ci, pl)) : ci < 9 ∧ Cond.classLink (zcn own) j (zcn ci) ∈ gW ∧ Cond.instantiable (zcn ci) (zTb ci).2.2 ∈ gW ∧ Cond.initialized (zcn ci) ∈ gW := by
  have ho : own < 11 := by
    by_cases q : own < 11
    · exact q
    · exfalso
      have e : znwL own = [] := by
        unfold znwL
        split <;> first | omega | rfl
      unfold znw at h
      rw [e] at h
      cases h
  have hall := List.all_eq_true.mp (znw_ok own ho) _ (zlk_mem h)
  simp only [znwC, Bool.and_eq_true, decide_eq_true_eq] at hall
  exact ⟨hall.1, zgd_in hall.2, zgd_in (zF_in ci hall.1).1, zgd_in (zF_in ci hall.1).2⟩
theorem zF_len0 : ∀ k, k < 90 → zn k ≤ 2000 := by decide +kernel
theorem zF_len {k : Nat} (h : k < 90) : zn k ≤ 2000 := zF_len0 k h
theorem zF_acI : Cond.arrayClass .int ∈ gW := zgd_in (i := 196) (by decide +kernel)
theorem zF_acZ : Cond.arrayClass .boolean ∈ gW := zgd_in (i := 322) (by decide +kernel)
theorem zF_acJ : Cond.arrayClass .long ∈ gW := zgd_in (i := 986) (by decide +kernel)
theorem zF_aoI : Cond.arrayOver (.array .int) ∈ nW := List.mem_filter.mpr ⟨List.mem_of_getElem? (i := 252) (by decide +kernel), rfl⟩
theorem zF_clI : Cond.classLink R_SU 30 "[[I" ∈ gW := zgd_in (i := 251) (by decide +kernel)
def zaoP : Nat → Nat := fun t => match t with
  | 23 => 71
  | 24 => 73
  | 25 => 257
  | 26 => 86
  | _ => 0
def znaC (own : Nat) (q : Nat × (Nat × Nat)) : Bool := zgd q.2.2 (.classLink (zcn own) q.1 (zcn (zel q.2.1))) && decide (lw_tbl[zaoP q.2.1]? = some (.arrayOver (.object (zcn (zel q.2.1)))))
theorem zna_ok : ∀ own, own < 11 → ((znaL own).all (znaC own)) = true := by decide +kernel
theorem zF_na {own j ty pl : Nat} (h : zna own j = some (ty, pl)) : Cond.classLink (zcn own) j (zcn (zel ty)) ∈ gW ∧ Cond.arrayOver (.object (zcn (zel ty))) ∈ nW := by
  have ho : own < 11 := by
    by_cases q : own < 11
    · exact q
    · exfalso
      have e : znaL own = [] := by
        unfold znaL
        split <;> first | omega | rfl
      unfold zna at h
      rw [e] at h
      cases h
  have hall := List.all_eq_true.mp (zna_ok own ho) _ (zlk_mem h)
  simp only [znaC, Bool.and_eq_true, decide_eq_true_eq] at hall
  exact ⟨zgd_in hall.1, List.mem_filter.mpr ⟨List.mem_of_getElem? hall.2, rfl⟩⟩
