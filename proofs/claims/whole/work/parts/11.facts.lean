/-! what the tables say (gen/facts.py) -/
def zcn : Nat → String := fun o => match o with
  | 0 => R_SU
  | 1 => R_AC
  | 2 => R_BL
  | 3 => R_BU
  | 4 => R_CE
  | 5 => R_PL
  | 6 => R_RE
  | 7 => R_TE
  | 8 => R_MO
  | 9 => R_LW
  | 10 => R_JA
  | _ => ""
def zTb : Nat → vw_C := fun ci => match ci with
  | 0 => (R_SU, F_SU, 10)
  | 1 => (R_AC, F_AC, 10)
  | 2 => (R_BL, F_BL, 3)
  | 3 => (R_BU, F_BU, 6)
  | 4 => (R_CE, F_CE, 7)
  | 5 => (R_PL, F_PL, 3)
  | 6 => (R_RE, F_RE, 6)
  | 7 => (R_TE, F_TE, 9)
  | 8 => (R_MO, F_MO, 38)
  | _ => (R_SU, F_SU, 0)
def zty : Nat → Nat → FieldType := fun ci k => match ci with
  | 0 => t_SU k
  | 1 => t_AC k
  | 2 => t_BL k
  | 3 => t_BU k
  | 4 => t_CE k
  | 5 => t_PL k
  | 6 => t_RE k
  | 7 => t_TE k
  | 8 => t_MO k
  | _ => .int
theorem zlt9 {P : Nat → Prop} (h0 : P 0) (h1 : P 1) (h2 : P 2) (h3 : P 3) (h4 : P 4) (h5 : P 5) (h6 : P 6) (h7 : P 7) (h8 : P 8) {n : Nat} (h : n < 9) : P n := by
  match n, h with
  | 0, _ => exact h0
  | 1, _ => exact h1
  | 2, _ => exact h2
  | 3, _ => exact h3
  | 4, _ => exact h4
  | 5, _ => exact h5
  | 6, _ => exact h6
  | 7, _ => exact h7
  | 8, _ => exact h8
theorem zF_cl {ci : Nat} (h : ci < 9) : z_cl[ci]? = some (zTb ci) := zlt9 (P := fun ci => z_cl[ci]? = some (zTb ci)) rfl rfl rfl rfl rfl rfl rfl rfl rfl h
theorem zF_ty {ci k : Nat} (h : ci < 9) (hk : k < (zTb ci).2.2) : parseFieldDescriptor ((zTb ci).2.1 k).2.2.1 = some (zty ci k) := zlt9 (P := fun ci => ∀ k, k < (zTb ci).2.2 → parseFieldDescriptor ((zTb ci).2.1 k).2.2.1 = some (zty ci k)) t_SU_ok t_AC_ok t_BL_ok t_BU_ok t_CE_ok t_PL_ok t_RE_ok t_TE_ok t_MO_ok h k hk
theorem zF_nm {ci : Nat} (h : ci < 9) : ∀ a, a < (zTb ci).2.2 → ∀ b, b < (zTb ci).2.2 → a ≠ b → ((zTb ci).2.1 a).2.1 ≠ ((zTb ci).2.1 b).2.1 := zlt9 (P := fun ci => ∀ a, a < (zTb ci).2.2 → ∀ b, b < (zTb ci).2.2 → a ≠ b → ((zTb ci).2.1 a).2.1 ≠ ((zTb ci).2.1 b).2.1) n_SU n_AC n_BL n_BU n_CE n_PL n_RE n_TE n_MO h
def zgd (i : Nat) (w : Cond) : Bool := decide (lw_tbl[i]? = some w) && goodWord w
theorem zgd_in {i : Nat} {w : Cond} (h : zgd i w = true) : w ∈ gW := by
  simp only [zgd, Bool.and_eq_true, decide_eq_true_eq] at h
  exact gW_mem i h.1 h.2
def zlyP : Nat → List Nat := fun ci => match ci with
  | 0 => [301, 303, 305, 307, 309, 311, 313, 315, 317, 319]
  | 1 => [214, 216, 218, 220, 222, 224, 226, 228, 230, 232]
  | 2 => [117, 119, 121]
  | 3 => [278, 280, 282, 284, 286, 288]
  | 4 => [99, 101, 103, 105, 107, 109, 111]
  | 5 => [244, 246, 248]
  | 6 => [183, 185, 187, 189, 191, 193]
  | 7 => [141, 143, 145, 147, 149, 151, 153, 155, 157]
  | 8 => [780, 782, 784, 786, 788, 790, 792, 794, 796, 798, 800, 802, 804, 806, 808, 810, 812, 814, 816, 818, 820, 822, 824, 826, 828, 830, 832, 834, 836, 838, 840, 842, 844, 846, 848, 850, 852, 854]
  | _ => []
theorem zly_SU : ∀ k, k < 10 → zgd ((zlyP 0).getD k 0) (u_lay R_SU F_SU k) = true := by decide +kernel
theorem zly_AC : ∀ k, k < 10 → zgd ((zlyP 1).getD k 0) (u_lay R_AC F_AC k) = true := by decide +kernel
theorem zly_BL : ∀ k, k < 3 → zgd ((zlyP 2).getD k 0) (u_lay R_BL F_BL k) = true := by decide +kernel
theorem zly_BU : ∀ k, k < 6 → zgd ((zlyP 3).getD k 0) (u_lay R_BU F_BU k) = true := by decide +kernel
theorem zly_CE : ∀ k, k < 7 → zgd ((zlyP 4).getD k 0) (u_lay R_CE F_CE k) = true := by decide +kernel
theorem zly_PL : ∀ k, k < 3 → zgd ((zlyP 5).getD k 0) (u_lay R_PL F_PL k) = true := by decide +kernel
theorem zly_RE : ∀ k, k < 6 → zgd ((zlyP 6).getD k 0) (u_lay R_RE F_RE k) = true := by decide +kernel
theorem zly_TE : ∀ k, k < 9 → zgd ((zlyP 7).getD k 0) (u_lay R_TE F_TE k) = true := by decide +kernel
theorem zly_MO : ∀ k, k < 38 → zgd ((zlyP 8).getD k 0) (u_lay R_MO F_MO k) = true := by decide +kernel
theorem zF_ws {ci : Nat} (h : ci < 9) : ∀ w ∈ u_ws (zTb ci).1 (zTb ci).2.1 (zTb ci).2.2, w ∈ gW := by
  intro w hw
  obtain ⟨k, hk, e⟩ := List.mem_map.mp hw
  rw [← e]
  exact zgd_in (zlt9 (P := fun ci => ∀ k, k < (zTb ci).2.2 → zgd ((zlyP ci).getD k 0) (u_lay (zTb ci).1 (zTb ci).2.1 k) = true) zly_SU zly_AC zly_BL zly_BU zly_CE zly_PL zly_RE zly_TE zly_MO h k (List.mem_range.mp hk))
def zkOf (t : FieldType) : Nat := match t with
  | .int => 0
  | .boolean => 1
  | .object _ => 2
  | .array _ => 2
  | _ => 9
theorem zF_all : ∀ ci, ci < 9 → ∀ k, k < (zTb ci).2.2 → zfk ci k = zkOf (zty ci k) ∧ zfin ci k = ((zTb ci).2.1 k).2.2.2 ∧ ((zTb ci).2.1 k).1 = zcn ci ∧ (zTb ci).1 = zcn ci ∧ zkOf (zty ci k) < 3 := by decide +kernel
theorem zF_fk {ci k : Nat} (h : ci < 9) (hk : k < (zTb ci).2.2) : zfk ci k = zkOf (zty ci k) := (zF_all ci h k hk).1
theorem zF_fin {ci k : Nat} (h : ci < 9) (hk : k < (zTb ci).2.2) : zfin ci k = ((zTb ci).2.1 k).2.2.2 := (zF_all ci h k hk).2.1
theorem zF_dec {ci k : Nat} (h : ci < 9) (hk : k < (zTb ci).2.2) : ((zTb ci).2.1 k).1 = zcn ci := (zF_all ci h k hk).2.2.1
theorem zF_nmC : ∀ ci, ci < 9 → (zTb ci).1 = zcn ci := by decide +kernel
theorem zc_hi {k : Nat} (h : 90 ≤ k) : zc k = 99 := by
  unfold zc
  split <;> first | omega | rfl
theorem zF_n0 : ∀ k, k < 90 → zc k < 20 → zn k = (zTb (zc k)).2.2 ∧ zc k < 9 := by decide +kernel
theorem zF_n {k : Nat} (h : zc k < 20) : zn k = (zTb (zc k)).2.2 := by
  by_cases hk : k < 90
  · exact (zF_n0 k hk h).1
  · rw [zc_hi (by omega)] at h; omega
def zftC (own : Nat) (q : Nat × (Nat × Nat × Nat)) : Bool := decide (q.2.1 < 9) && (decide (q.2.2.1 < (zTb q.2.1).2.2) && zgd q.2.2.2 (.fieldLink (zcn own) q.1 (zcn q.2.1) ((zTb q.2.1).2.1 q.2.2.1).2.1 ((zTb q.2.1).2.1 q.2.2.1).2.2.1))
theorem zft_0 : ((zftL 0).all (zftC 0)) = true := by decide +kernel
theorem zft_1 : ((zftL 1).all (zftC 1)) = true := by decide +kernel
theorem zft_2 : ((zftL 2).all (zftC 2)) = true := by decide +kernel
theorem zft_3 : ((zftL 3).all (zftC 3)) = true := by decide +kernel
theorem zft_4 : ((zftL 4).all (zftC 4)) = true := by decide +kernel
theorem zft_5 : ((zftL 5).all (zftC 5)) = true := by decide +kernel
theorem zft_6 : ((zftL 6).all (zftC 6)) = true := by decide +kernel
theorem zft_7 : ((zftL 7).all (zftC 7)) = true := by decide +kernel
theorem zft_8 : ((zftL 8).all (zftC 8)) = true := by decide +kernel
theorem zft_9 : ((zftL 9).all (zftC 9)) = true := by decide +kernel
theorem zft_10 : ((zftL 10).all (zftC 10)) = true := by decide +kernel
theorem zlt11 {P : Nat → Prop} (h0 : P 0) (h1 : P 1) (h2 : P 2) (h3 : P 3) (h4 : P 4) (h5 : P 5) (h6 : P 6) (h7 : P 7) (h8 : P 8) (h9 : P 9) (h10 : P 10) {n : Nat} (h : n < 11) : P n := by
  match n, h with
  | 0, _ => exact h0
  | 1, _ => exact h1
  | 2, _ => exact h2
  | 3, _ => exact h3
  | 4, _ => exact h4
  | 5, _ => exact h5
  | 6, _ => exact h6
  | 7, _ => exact h7
  | 8, _ => exact h8
  | 9, _ => exact h9
  | 10, _ => exact h10
theorem zF_ft {own j ci f pl : Nat} (h : zft own j = some (ci, f, pl)) : ci < 9 ∧ f < (zTb ci).2.2 ∧ Cond.fieldLink (zcn own) j (zcn ci) ((zTb ci).2.1 f).2.1 ((zTb ci).2.1 f).2.2.1 ∈ gW := by
  have ho : own < 11 := by
    by_cases q : own < 11
    · exact q
    · exfalso
      have e : zftL own = [] := by
        unfold zftL
        split <;> first | omega | rfl
      unfold zft at h
      rw [e] at h
      cases h
  have hm := zlk_mem h
  have hall := List.all_eq_true.mp (zlt11 (P := fun o => ((zftL o).all (zftC o)) = true) zft_0 zft_1 zft_2 zft_3 zft_4 zft_5 zft_6 zft_7 zft_8 zft_9 zft_10 ho) _ hm
  simp only [zftC, Bool.and_eq_true, decide_eq_true_eq] at hall
  exact ⟨hall.1, hall.2.1, zgd_in hall.2.2⟩
def zbadW (w : Cond) : Bool := match w with
  | .methodLinkNest _ _ _ _ => true
  | .castable _ _ => true
  | .declares _ => true
  | .arrayOver (.object _) => true
  | .arrayOver (.array .int) => true
  | _ => false
def nW : List Cond := lw_tbl.filter zbadW
def zstrL : List (Nat × String) := [(62, "there is no such terminal"), (71, "there is no such guarantee or weight"), (89, "there is no such drift"), (94, "a datagram has 1 to 6 cells"), (107, "too many cells or datagrams"), (118, "there is no such slot"), (127, "all superframes were played"), (176, "a terminal has nothing of that kind"), (194, "the centre knows nothing of that kind"), (199, "there is no such plan")]
theorem zbit_or {x : Int32} (h : zbit x = true) : x = 0 ∨ x = 1 := by
  simpa [zbit] using h
theorem zbit_nar {x : Int32} (h : zbit x = true) : narrow .boolean (.int x) = .int x := by
  rcases zbit_or h with q | q <;> rw [q] <;> rfl
theorem zob1 : zgd 68 (.instanceMethod Lib.objectInit) = true ∧ zgd 69 (.code Lib.objectInit ⟨#[0xb1]⟩ 1 none) = true := by decide +kernel
theorem zob2 : ∀ own, own < 11 → ((zobjL own).all (fun q => zgd q.2 (.methodLink (zcn own) q.1 Lib.objectInit))) = true := by decide +kernel
theorem zF_obj {own j pl : Nat} (h : zlk (zobjL own) j = some pl) : Cond.methodLink (zcn own) j Lib.objectInit ∈ gW ∧ Cond.instanceMethod Lib.objectInit ∈ gW ∧ Cond.code Lib.objectInit ⟨#[0xb1]⟩ 1 none ∈ gW := by
  have ho : own < 11 := by
    by_cases q : own < 11
    · exact q
    · exfalso
      have e : zobjL own = [] := by
        unfold zobjL
        split <;> first | omega | rfl
      rw [e] at h
      cases h
  exact ⟨zgd_in (List.all_eq_true.mp (zob2 own ho) _ (zlk_mem h)), zgd_in zob1.1, zgd_in zob1.2⟩
theorem zmt1 : zgd 589 (.static Lib.Math.max.name) = true ∧ zgd 61 (.initialized "java/lang/Math") = true ∧ zgd 590 (.code Lib.Math.max.name Lib.Math.max.code 2 (some .int)) = true := by decide +kernel
theorem zmt2 : ∀ own, own < 11 → ((zmthL own).all (fun q => zgd q.2 (.methodLink (zcn own) q.1 Lib.Math.max.name))) = true := by decide +kernel
theorem zF_mth {own j pl : Nat} (h : zlk (zmthL own) j = some pl) : Cond.methodLink (zcn own) j Lib.Math.max.name ∈ gW ∧ Cond.static Lib.Math.max.name ∈ gW ∧ Cond.initialized "java/lang/Math" ∈ gW ∧ Cond.code Lib.Math.max.name Lib.Math.max.code 2 (some .int) ∈ gW := by
  have ho : own < 11 := by
    by_cases q : own < 11
    · exact q
    · exfalso
      have e : zmthL own = [] := by
        unfold zmthL
        split <;> first | omega | rfl
      rw [e] at h
      cases h
  exact ⟨zgd_in (List.all_eq_true.mp (zmt2 own ho) _ (zlk_mem h)), zgd_in zmt1.1, zgd_in zmt1.2.1, zgd_in zmt1.2.2⟩
