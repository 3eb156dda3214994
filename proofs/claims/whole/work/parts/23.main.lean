/-! The machine is sound -/
/-- what is still owed of throws, catches and new int[2][30] -/
def zOwe (l : Launch) (sc : zC) : Prop :=
  (∀ μ i n is pc lv st h e N x, zkd μ i = 7 → zth μ pc = some (e, N, x) → 258 ≤ h.1 → zcat st ≤ 8 → zbk (zby μ) pc ((i, n) :: is) = true → zSok l sc μ pc true lv st h (.inr (e, (99, h.1, 0)), zal h N)) ∧
  (∀ μ i n pc cl lv st h r y x, zkd μ i = 6 → decode (zby μ) pc = .ok (i, n) → zln i n = true → zmok h = true → x = nI 2 → y = nI 30 → zSok l sc μ (pc + n) false lv (.inr (.inl (znm h.1)) :: st) (zmul h) r → (zmul h).1 ≤ r.2.1 → (zmul h).2.1 ≤ r.2.2.1 → zSok l sc μ pc cl lv (.inl y :: .inl x :: st) h r) ∧
  (∀ μ i n pc cl lv st h r y na pl e a h1 hp, zkd μ i = 5 → decode (zby μ) pc = .ok (i, n) → zln i n = true → zcs (zown μ) i = some (y, na, pl) → zcok μ i y na st = true → zSok l sc y 0 true ((st.take na).reverse.map some) [] h (.inr (e, a), h1) → h.1 ≤ h1.1 → h.2.1 ≤ h1.2.1 → zhd μ pc e = some hp → zSok l sc μ hp false lv [.inr (.inl a)] h1 r → h1.1 ≤ r.2.1 → h1.2.1 ≤ r.2.2.1 → zSok l sc μ pc cl lv st h r) ∧
  (∀ μ i n pc cl lv st h r y na pl v h1, zkd μ i = 5 → decode (zby μ) pc = .ok (i, n) → zln i n = true → zcs (zown μ) i = some (y, na, pl) → zmy y = false → zcok μ i y na st = true → zSok l sc y 0 true ((st.take na).reverse.map some) [] h (.inl v, h1) → h.1 ≤ h1.1 → h.2.1 ≤ h1.2.1 → zSok l sc μ (pc + n) (cl && zpu y) lv (v.toList ++ st.drop na) h1 r → h1.1 ≤ r.2.1 → h1.2.1 ≤ r.2.2.1 → zSok l sc μ pc cl lv st h r)
theorem z_rest {na : Nat} {st : List zV} : (st.take na).reverse.reverse ++ st.drop na = st := by
  rw [List.reverse_reverse, List.take_append_drop]
theorem zSok_call {l : Launch} {sc : zC} {μ : Nat} {i : Instr} {n pc : Nat} {cl : Bool} {lv : zL} {st : List zV} {h h1 : zS} {r : zR} {y na pl : Nat} {nest : Bool} {v : Option zV} (hz : zkd μ i = 5) (d : decode (zby μ) pc = .ok (i, n)) (hl : zln i n = true) (hcs : zcs (zown μ) i = some (y, na, pl, nest)) (hy : zmy y = true) (hok : zcok μ i y na st = true)
    (S1 : zSok l sc y 0 true ((st.take na).reverse.map some) [] h (.inl v, h1)) (m1 : h.1 ≤ h1.1) (m2 : h.2.1 ≤ h1.2.1) (S : zSok l sc μ (pc + n) (cl && zpu y) lv (v.toList ++ st.drop na) h1 r) (m3 : h1.1 ≤ r.2.1) (m4 : h1.2.1 ≤ r.2.2.1) : zSok l sc μ pc cl lv st h r := by
  intro p e R s m args below meth c b sa D G n0 s0 X q0 q1 q2 q3 q4 H locs ls g1 g2 g3 g4
  simp only [zcok, Bool.and_eq_true] at hok
  obtain ⟨o1, o2, o3, o4, o5, o6⟩ := hok
  have hn : n = 3 := by
    have := zln_n hl (fun _ _ _ _ q => by rw [q] at hcs; cases hcs)
    rw [this]
    cases i <;> first | rfl | (cases hcs; done)
  subst hn
  have hal : (st.take na).reverse.length = na := by
    rw [List.length_reverse, List.length_take]
    have := Nat.le_of_ble_eq_true o1
    omega
  have hM := z_met (l := l) (sc := sc) hy o4 (by rw [hal]; exact zF_ar hcs) m1 m2 S1 b sa D G
  have hst : zst h.1 (st.take na).reverse := fun w hw => g4 w (List.mem_of_mem_take (List.mem_reverse.mp hw))
  have hrun := z_run (rest := st.drop na) X hcs hy hal o3 (Nat.le_of_ble_eq_true o2) (Nat.le_of_ble_eq_true o5) (Nat.le_of_ble_eq_true o6) hM g1 g2 g3.1 hst (e := e) (below := below) (cells := h.1 - n0) (slots := h.2.1 - s0) (ls := ls) (by constructor <;> omega) d
  rw [z_rest] at hrun
  refine z_go hrun g2 fun H1 locs1 k1 k2 k3 => ?_
  have hw := S p e R s m args below meth c b sa D G n0 s0 X q0 (by omega) (by omega) q3 q4 H1 locs1 ls k1 k3 (g3.up m1) (fun w hw => by
    rcases List.mem_append.mp hw with q | q
    · exact k2 w (by cases v with
        | none => cases q
        | some u => rw [Option.toList_some, List.mem_singleton] at q; rw [q])
    · exact zvk_up m1 (g4 w (List.mem_of_mem_drop q)))
  have e1 : h.1 - n0 + (h1.1 - h.1) = h1.1 - n0 := by omega
  have e2 : h.2.1 - s0 + (h1.2.1 - h.2.1) = h1.2.1 - s0 := by omega
  rw [e1, e2]
  have e3 : (v.toList ++ st.drop na).map (zvl b sa) = (v.map (zvl b sa)).toList ++ (st.drop na).map (zvl b sa) := by
    cases v <;> simp
  rw [e3] at hw
  exact hw
/-- a way to go on that is sound -/
def zsnd (l : Launch) (sc : zC) (rec : Nat → Nat → Bool → zL → List zV → zS → (zR → Prop) → Prop) : Prop := ∀ μ pc cl lv st h K, rec μ pc cl lv st h K → ∃ r, K r ∧ h.1 ≤ r.2.1 ∧ h.2.1 ≤ r.2.2.1 ∧ zSok l sc μ pc cl lv st h r
theorem zx_sound {l : Launch} {sc : zC} (O : zOwe l sc) {rec : Nat → Nat → Bool → zL → List zV → zS → (zR → Prop) → Prop} (hrec : zsnd l sc rec) {μ : Nat} : ∀ (is : List (Instr × Nat)) (pc : Nat) (cl : Bool) (lv : zL) (st : List zV) (h : zS) (K : zR → Prop), zbk (zby μ) pc is = true → zx False sc rec μ is pc cl lv st h K → ∃ r, K r ∧ h.1 ≤ r.2.1 ∧ h.2.1 ≤ r.2.2.1 ∧ zSok l sc μ pc cl lv st h r := by
  intro is
  induction is with
  | nil => exact fun pc cl lv st h K _ hk => hrec μ pc cl lv st h K hk
  | cons q is ih =>
    obtain ⟨i, n⟩ := q
    intro pc cl lv st h K hb hk
    have hb0 := hb
    simp only [zbk, Bool.and_eq_true, decide_eq_true_eq] at hb
    obtain ⟨d, hl, hj, hb⟩ := hb
    match hz : zkd μ i with
    | 0 =>
      rw [zx0 hz] at hk
      obtain ⟨lv', st', h1, h2⟩ := zopA_pick hk
      obtain ⟨r, k1, k2, k3, S⟩ := ih _ _ _ _ _ _ hb h1
      refine ⟨r, k1, k2, k3, fun p e R s m args below meth c b sa D G n0 s0 X q0 q1 q2 q3 q4 => ?_⟩
      exact zopA_sound X d hl (by omega) (by omega) (h2 (fun a b => a = lv' ∧ b = st') ⟨rfl, rfl⟩) (S p e R s m args below meth c b sa D G n0 s0 X q0 q1 q2 q3 q4)
    | 1 =>
      rw [zx1 hz] at hk
      obtain ⟨st', h1, h2⟩ := zopB_pick hk
      obtain ⟨r, k1, k2, k3, S⟩ := ih _ _ _ _ _ _ hb h1
      refine ⟨r, k1, k2, k3, fun p e R s m args below meth c b sa D G n0 s0 X q0 q1 q2 q3 q4 => ?_⟩
      exact zopB_sound X d hl (h2 (fun b => b = st') rfl) (S p e R s m args below meth c b sa D G n0 s0 X q0 q1 q2 q3 q4)
    | 2 =>
      rw [zx2 hz] at hk
      obtain ⟨st', h', h1, h2⟩ := zopC_pick hk
      have h3 := h2 (fun a b => a = st' ∧ b = h') ⟨rfl, rfl⟩
      obtain ⟨u1, u2⟩ := zopC_up h3
      obtain ⟨r, k1, k2, k3, S⟩ := ih _ _ _ _ _ _ hb h1
      refine ⟨r, k1, by omega, by omega, fun p e R s m args below meth c b sa D G n0 s0 X q0 q1 q2 q3 q4 => ?_⟩
      exact zopC_sound X d hl q1 q2 (by omega) (by omega) h3 (S p e R s m args below meth c b sa D G n0 s0 X q0 (by omega) (by omega) q3 q4)
    | 3 =>
      rw [zx3 hz] at hk
      rcases zjp_pick hk with ⟨o, st', h1, h2⟩ | ⟨st', h1, h2⟩
      · obtain ⟨r, k1, k2, k3, S⟩ := hrec _ _ _ _ _ _ _ h1
        refine ⟨r, k1, k2, k3, fun p e R s m args below meth c b sa D G n0 s0 X q0 q1 q2 q3 q4 => ?_⟩
        refine zjp_sound (J := fun t a => t = ((pc : Int) + o).toNat ∧ a = st') (F := fun _ => False) X d hl hj (h2 _ _ ⟨rfl, rfl⟩) (fun t a q => ?_) (fun _ q => q.elim)
        obtain ⟨rfl, rfl⟩ := q
        exact S p e R s m args below meth c b sa D G n0 s0 X q0 q1 q2 q3 q4
      · obtain ⟨r, k1, k2, k3, S⟩ := ih _ _ _ _ _ _ hb h1
        refine ⟨r, k1, k2, k3, fun p e R s m args below meth c b sa D G n0 s0 X q0 q1 q2 q3 q4 => ?_⟩
        refine zjp_sound (J := fun _ _ => False) (F := fun a => a = st') X d hl hj (h2 _ _ rfl) (fun _ _ q => q.elim) (fun a q => ?_)
        subst q
        exact S p e R s m args below meth c b sa D G n0 s0 X q0 q1 q2 q3 q4
    | 4 =>
      rw [zx4 hz] at hk
      obtain ⟨v, h1, h2⟩ := zrt_pick hk
      obtain ⟨e1, h1⟩ := zbif h1
      refine ⟨_, h1, Nat.le_refl _, Nat.le_refl _, fun p e R s m args below meth c b sa D G n0 s0 X q0 q1 q2 q3 q4 => ?_⟩
      exact zrt_sound X d hl e1 (h2 (fun w => w = v) rfl)
    | 5 =>
      rw [zx5 hz] at hk
      match hc : zcs (zown μ) i with
      | some (y, na, pl, nest) =>
        simp only [hc] at hk
        obtain ⟨e1, hk⟩ := zbif hk
        obtain ⟨r1, k1, k2, k3, S1⟩ := hrec _ _ _ _ _ _ _ hk
        match r1, k1, k2, k3, S1 with
        | (.inl v, h1), k1, k2, k3, S1 =>
          have k4 : zx False sc rec μ is (pc + n) (cl && zpu y) lv (v.toList ++ st.drop na) h1 K := by
            cases v <;> exact k1
          obtain ⟨r, j1, j2, j3, S⟩ := ih _ _ _ _ _ _ hb k4
          refine ⟨r, j1, Nat.le_trans k2 j2, Nat.le_trans k3 j3, ?_⟩
          cases hmy : zmy y with
          | true => exact zSok_call hz d hl hc hmy e1 S1 k2 k3 S j2 j3
          | false => exact O.2.2.2 μ i n pc cl lv st h r y na (pl, nest) v h1 hz d hl hc hmy e1 S1 k2 k3 S j2 j3
        | (.inr (e, a), h1), k1, k2, k3, S1 =>
          simp only [zbh] at k1
          match hh : zhd μ pc e with
          | some hp =>
            simp only [hh] at k1
            obtain ⟨r, j1, j2, j3, S⟩ := hrec _ _ _ _ _ _ _ k1
            exact ⟨r, j1, Nat.le_trans k2 j2, Nat.le_trans k3 j3, O.2.2.1 μ i n pc cl lv st h r y na (pl, nest) e a h1 hp hz d hl hc e1 S1 k2 k3 hh S j2 j3⟩
          | none =>
            simp only [hh] at k1
      | none =>
        simp only [hc] at hk
    | 6 =>
      rw [zx6 hz] at hk
      split at hk
      · next y x st0 =>
        obtain ⟨e1, hk⟩ := zbif hk
        simp only [Bool.and_eq_true, decide_eq_true_eq] at e1
        obtain ⟨r, k1, k2, k3, S⟩ := ih _ _ _ _ _ _ hb hk
        have u1 : h.1 ≤ (zmul h).1 := by show h.1 ≤ h.1 + 1 + 1 + 1; omega
        have u2 : h.2.1 ≤ (zmul h).2.1 := by show h.2.1 ≤ h.2.1 + 2 + 30 + 30; omega
        exact ⟨r, k1, Nat.le_trans u1 k2, Nat.le_trans u2 k3, O.2.1 μ i n pc cl lv st0 h r y x hz d hl e1.1 e1.2.1 e1.2.2 S k2 k3⟩
      · exact hk.elim
    | 7 =>
      rw [zx7 hz] at hk
      split at hk
      · next e N x et =>
        obtain ⟨e1, hk2⟩ := zbif hk
        clear hk
        rw [Bool.and_eq_true] at e1
        obtain ⟨e1, e2⟩ := e1
        rw [Bool.and_eq_true] at e2
        subst e1
        exact ⟨_, hk2, Nat.le_succ _, Nat.le_add_right _ _, O.1 μ i n is pc lv st h e N x hz et (Nat.le_of_ble_eq_true e2.1) (Nat.le_of_ble_eq_true e2.2) hb0⟩
      · exact hk.elim
    | k + 8 =>
      rw [zx8 hz] at hk
      exact hk.elim
theorem z_sound {l : Launch} {sc : zC} (O : zOwe l sc) : ∀ N : Nat, zsnd l sc (zt False sc N)
  | 0 => fun _ _ _ _ _ _ _ hk => hk.elim
  | N + 1 => fun μ pc cl lv st h K hk => zx_sound O (z_sound O N) (zcode μ pc) pc cl lv st h K (zF_code μ pc) hk
theorem zT_sound {l : Launch} {sc : zC} (O : zOwe l sc) : zsnd l sc (zT sc) := fun μ pc cl lv st h K ⟨N, hk⟩ => z_sound O N μ pc cl lv st h K hk
/-- h' says no more than h of every heap -/
def zsim (h h' : zS) : Prop := h'.1 = h.1 ∧ h'.2.1 = h.2.1 ∧ ∀ (b sa : Nat) (D : va_G) (G : Nat → ClassId) (H : Heap), zP b sa D G h H → zP b sa D G h' H
theorem zSok_weak {l : Launch} {sc : zC} {μ pc : Nat} {cl : Bool} {lv : zL} {st : List zV} {h h' : zS} {r : zR} (hs : zsim h h') (S : zSok l sc μ pc cl lv st h' r) : zSok l sc μ pc cl lv st h r := by
  obtain ⟨e1, e2, e3⟩ := hs
  intro p e R s m args below meth c b sa D G n0 s0 X q0 q1 q2 q3 q4 H locs ls g1 g2 g3 g4
  have hw := S p e R s m args below meth c b sa D G n0 s0 X q0 (by omega) (by omega) q3 q4 H locs ls (e3 b sa D G H g1) g2 (by rw [e1]; exact g3) (by rw [e1]; exact g4)
  rw [e1, e2] at hw
  exact hw
/-- the machine, or the machine after less was said of the heap -/
def zJ (sc : zC) (m pc : Nat) (cl : Bool) (lv : zL) (st : List zV) (h : zS) (K : zR → Prop) : Prop := ∃ h', zsim h h' ∧ zT sc m pc cl lv st h' K
theorem zsim_rf (h : zS) : zsim h h := ⟨rfl, rfl, fun _ _ _ _ _ q => q⟩
theorem zJ_sound {l : Launch} {sc : zC} (O : zOwe l sc) : zsnd l sc (zJ sc) := fun μ pc cl lv st h K ⟨h', hs, hk⟩ => by
  obtain ⟨r, k1, k2, k3, S⟩ := zT_sound O μ pc cl lv st h' K hk
  exact ⟨r, k1, by rw [← hs.1]; exact k2, by rw [← hs.2.1]; exact k3, zSok_weak hs S⟩
