/-! References stored into arrays; new cells -/
section ROWS3
variable {p : Program} {l : Launch} {e : Env} {R : Room} {s : State} {m : MethodId} {args : Array Value} {below : List Frame} {meth : Method} {c : Code} {Q : State → Prop}
variable {b sa : Nat} {D : va_G} {G : Nat → ClassId} {sc : zC} {n0 s0 μ : Nat} {cl : Bool} {h : zS} {pc : Nat} {lv : zL} {st : List zV}
theorem zisO_or {t : Nat} (h : zisO t = true) : t = 23 ∨ t = 24 ∨ t = 25 ∨ t = 26 := by
  simp only [zisO, Bool.and_eq_true] at h
  have c1 := Nat.le_of_ble_eq_true h.1
  have c2 : t < 27 := Nat.le_of_ble_eq_true h.2
  omega
theorem z_comp (hK : va_K D z_cl (ztys G) s) {t : Nat} (ht : zisO t = true) : zel t < 9 ∧ ∃ (kA : Class) (comp : ClassId), s.vm.classes[G t]? = some kA ∧ kA.kind = .array comp (.object (zcn (zel t))) ∧ s.vm.findClass (zcn (zel t)) = some comp ∧ s.vm.findClass ("[" ++ (FieldType.object (zcn (zel t))).toString) = some (G t) := by
  rcases zisO_or ht with q | q | q | q <;> subst q
  · exact ⟨by decide, (hK.2 3 _ rfl).2⟩
  · exact ⟨by decide, (hK.2 4 _ rfl).2⟩
  · exact ⟨by decide, (hK.2 5 _ rfl).2⟩
  · exact ⟨by decide, (hK.2 6 _ rfl).2⟩
theorem zsk_O {t k : Nat} (h : zisO t = true) : zsk t k = 2 := by
  rcases zisO_or h with q | q | q | q <;> subst q <;> rfl
theorem z_aast (X : zX p R s m args meth c μ b sa D G sc) {a y : zA} {x : Int32} (hc : zisO (zc a.1) = true) (hy : zc y.1 = zel (zc a.1)) (hx : ¬ (x < 0 ∨ zn a.1 ≤ x.toNatClampNeg)) (hrf : zrf a x.toNatClampNeg (zcd a x.toNatClampNeg y) = y) (d : decode (zby μ) pc = .ok (.aastore, 1)) (k : zq p l e R s m args below meth c b sa D G n0 s0 μ Q false (zwr h a x.toNatClampNeg (zcd a x.toNatClampNeg y)) (pc + 1) lv (st)) : zq p l e R s m args below meth c b sa D G n0 s0 μ Q cl h (pc) lv (.inr (.inl y) :: .inl x :: .inr (.inl a) :: st) := by
  intro H locs ls h1 h2 h3 h4
  have hcc := zisO_or hc
  obtain ⟨hel, kA, comp, k1, k2, k3, -⟩ := z_comp X.2.2.2.2.2.1 hc
  have ha := z_cell (zst_h (zst_t (zst_t h4))) (by omega)
  have hly := z_cell (zst_h h4) (by omega)
  have hcell := z_arr h1 ha (by omega)
  have hcy := h1.2.2.1 y hly
  unfold zce at hcy
  rw [if_pos (by omega)] at hcy
  obtain ⟨cy, y1, y2, y3, -⟩ := hcy
  have hcls := (X.2.2.2.2.2.1.1 (zel (zc a.1)) _ (zF_cl hel)).2
  rw [zF_nmC _ hel] at hcls
  have hcomp : comp = D.1 (zel (zc a.1)) := Option.some.inj (k3.symm.trans hcls.1)
  subst hcomp
  rw [hy] at y2
  obtain ⟨kC, hkC, -⟩ := hcls.2
  have w : zwrote b sa h (zwr h a x.toNatClampNeg (zcd a x.toNatClampNeg y)) a x.toNatClampNeg (.inr (.inl y)) := zwrote_r (zsk_O hc) hrf hly.1
  show W p l e R s m args below meth c H locs (h.1 - n0) (h.2.1 - s0) Q (F0 m pc ls (.ref (zad b sa y) :: .int x :: .ref (zad b sa a) :: st.map (zvl b sa)))
  rw [zad_lv ha, zad_lv hly]
  refine W.aast X.1 X.2.1 hcell (fun q h => by cases h) (fun h => by cases h) k1 k2 rfl hkC ⟨fun q => hx (Or.inl q), by rw [arrV_size]; exact zin_lt hx⟩ y1 (fun q h => by rw [y3] at h; cases h) (by rw [y2]; exact hkC) (by rw [y2]; exact va_assign hcls) rfl rfl d fun H' e1 e2 e3 => ?_
  refine k H' (locs ++ [⟨b + znum a, x.toNatClampNeg⟩]) ls (w.P h1 ha (zst_h h4) e2 e3 ?_) ⟨h2.1.put e2 e3 (Nat.le_add_right _ _), fun q => by cases q⟩ h3 (zst_t (zst_t (zst_t h4)))
  unfold zce
  rw [if_neg (by omega), e1, arrV_store]
  congr 2
  funext i
  rw [w.2.2.2.2.1 i]
  show updV _ _ _ i = if i = x.toNatClampNeg then Value.ref (zad b sa y) else _
  rw [zad_lv hly]
  rfl
theorem znext_of {ty : Nat} (hx : znext h ty = true) : h.2.2.1 = false ∧ znum (znm h.1) = h.1 ∧ zc (znm h.1).1 = ty ∧ (znm h.1).1 < 90 := by
  simp only [znext, Bool.and_eq_true, Bool.not_eq_true'] at hx
  exact ⟨hx.1, Nat.eq_of_beq_eq_true hx.2.1, Nat.eq_of_beq_eq_true hx.2.2.1, Nat.le_of_ble_eq_true hx.2.2.2⟩
theorem z_push (X : zX p R s m args meth c μ b sa D G sc) {ty N : Nat} {H H1 : Heap} {locs : List Loc} (h1 : zP b sa D G h H) (h2 : zSl b s cl H locs) (hx : znext h ty = true) (z1 : H1.size = b + h.1 + 1) (o1 : ∀ q, q < b + h.1 → H1[q]? = H[q]?) (hc : zce b sa D G h (znm h.1) H1) :
    zP b sa D G (zal h N) H1 ∧ zlv (h.1 + 1) (znm h.1) ∧ zSl b s false H1 locs ∧ zad b sa (znm h.1) = b + h.1 := by
  obtain ⟨x1, x2, x3, x4⟩ := znext_of hx
  have hz := h1.1
  obtain ⟨g1, g2⟩ := h1.push (N := N) x1 x2 x4 (by omega) (fun q hq => o1 q (by omega)) hc
  refine ⟨g1, g2, ⟨⟨Nat.le_trans h2.1.1 (by omega), fun q q1 q2 => (o1 q (by have := h2.1.1; omega)).trans (h2.1.2.1 q q1 q2), h2.1.2.2⟩, fun q => by cases q⟩, ?_⟩
  rw [zad_lv g2, x2]
theorem zsv_new (h1 : znew h) (hb : h.2.2.1 = false) (hnum : znum (znm h.1) = h.1) (k : Nat) : zsv b sa h (znm h.1) k = if zsk (zc (znm h.1).1) k = 2 then .null else if zsk (zc (znm h.1).1) k = 3 then .long 0 else .int 0 := by
  obtain ⟨f1, f2, f3⟩ := h1 hb (znm h.1) (fun q => znum_ne q hnum) k
  unfold zsv
  rw [f1, f2, f3]
  rfl
theorem z_new (X : zX p R s m args meth c μ b sa D G sc) {j ci pl : Nat} (hn : znw (zown μ) j = some (ci, pl)) (hx : znext h ci = true) (hn0 : n0 ≤ h.1) (hs0 : s0 ≤ h.2.1) (hcells : h.1 + 1 - n0 ≤ R.cells) (hslots : h.2.1 + zn (znm h.1).1 - s0 ≤ R.slots) (d : decode (zby μ) pc = .ok (.new j, 3))
    (k : zq p l e R s m args below meth c b sa D G n0 s0 μ Q false (zal h (zn (znm h.1).1)) (pc + 3) lv (.inr (.inl (znm h.1)) :: st)) : zq p l e R s m args below meth c b sa D G n0 s0 μ Q cl h (pc) lv (st) := by
  intro H locs ls h1 h2 h3 h4
  obtain ⟨x1, x2, x3, x4⟩ := znext_of hx
  obtain ⟨f1, f2, f3, f4⟩ := zF_nw hn
  have hN : zn (znm h.1).1 = (zTb ci).2.2 := by rw [← x3]; exact zF_n (by omega)
  have hKn := X.2.2.2.2.2.1.1 ci _ (zF_cl f1)
  refine W.newcK X.1 X.2.1 X.2.2.2.1 (X.2.2.2.2.1 _ f2) (X.2.2.2.2.1 _ f3) (X.2.2.2.2.1 _ f4) rfl d (n := (zTb ci).2.2) (by omega) (by omega) (by rw [← zF_nmC _ f1]; exact hKn.2.1) h1.1 fun H1 kC hkC e1 z1 o1 => ?_
  have hcell : zce b sa D G h (znm h.1) H1 := by
    unfold zce
    rw [if_pos (by omega), x2, x3, hN]
    refine (u_born (zty ci) X.2.2.2.2.1 (zF_ws f1) hKn hkC e1 (fun k hk => zF_ty f1 hk)).to (fun k hk => ?_)
    rw [zsv_new h1.2.2.2.2 x1 x2 k, x3]
    obtain ⟨g1, -, -, -, g5⟩ := zF_all ci f1 k hk
    have e : zsk ci k = zkOf (zty ci k) := by
      unfold zsk
      rw [show Nat.blt ci 20 = true from Nat.ble_eq_true_of_le (by omega)]
      exact g1
    rw [e]
    cases hty : zty ci k <;> rw [hty] at g5 <;> first | rfl | (simp [zkOf] at g5)
  obtain ⟨g1, g2, g3, g4⟩ := z_push (N := zn (znm h.1).1) X h1 h2 hx z1 o1 hcell
  have hw := k H1 locs ls g1 g3 (h3.up (Nat.le_succ _)) (zst_c (Or.inl g2) (zst_up (Nat.le_succ _) h4))
  have e1 : h.1 - n0 + 1 = (zal h (zn (znm h.1).1)).1 - n0 := by show _ = h.1 + 1 - n0; omega
  have e2 : h.2.1 - s0 + (zTb ci).2.2 = (zal h (zn (znm h.1).1)).2.1 - s0 := by show _ = h.2.1 + zn (znm h.1).1 - s0; omega
  rw [e1, e2]
  show W p l e R s m args below meth c H1 locs _ _ Q (F0 m (pc + 3) ls (.ref (b + h.1) :: st.map (zvl b sa)))
  rw [← g4]
  exact hw
theorem z_newa (X : zX p R s m args meth c μ b sa D G sc) {t : ArrayType} {x : Int32} (hx : znext h (zat t) = true) (ht : zat t < 90) (hx2 : ¬ (x < 0 ∨ x.toNatClampNeg ≠ zn (znm h.1).1)) (hn0 : n0 ≤ h.1) (hs0 : s0 ≤ h.2.1) (hcells : h.1 + 1 - n0 ≤ R.cells) (hslots : h.2.1 + zn (znm h.1).1 - s0 ≤ R.slots) (d : decode (zby μ) pc = .ok (.newarray t, 2))
    (k : zq p l e R s m args below meth c b sa D G n0 s0 μ Q false (zal h (zn (znm h.1).1)) (pc + 2) lv (.inr (.inl (znm h.1)) :: st)) : zq p l e R s m args below meth c b sa D G n0 s0 μ Q cl h (pc) lv (.inl x :: st) := by
  intro H locs ls h1 h2 h3 h4
  obtain ⟨x1, x2, x3, x4⟩ := znext_of hx
  have hN : x.toNatClampNeg = zn (znm h.1).1 := Classical.byContradiction fun q => hx2 (Or.inr q)
  have hbig := zF_len (k := (znm h.1).1) x4
  obtain ⟨c0, c1, c2, c3⟩ : (zat t = 20 ∨ zat t = 21 ∨ zat t = 22) ∧ (Cond.arrayClass (newarray.typeOf t)) ∈ gW ∧ s.vm.findClass ("[" ++ (newarray.typeOf t).toString) = some (G (zat t)) ∧ (componentBytes (newarray.typeOf t) ≤ 8 ∧ ∀ k, defaultValue (newarray.typeOf t) = if zsk (zat t) k = 2 then .null else if zsk (zat t) k = 3 then .long 0 else .int 0) := by
    have hK := X.2.2.2.2.2.1
    cases t
    case int => exact ⟨Or.inl rfl, zF_acI, (hK.2 0 _ rfl).2, by decide, fun k => rfl⟩
    case boolean => exact ⟨Or.inr (Or.inl rfl), zF_acZ, (hK.2 1 _ rfl).2, by decide, fun k => rfl⟩
    case long => exact ⟨Or.inr (Or.inr rfl), zF_acJ, (hK.2 2 _ rfl).2, by decide, fun k => rfl⟩
    all_goals exact absurd ht (by decide)
  refine va_newaK X.1 X.2.1 (X.2.2.2.2.1 _ c1) rfl d rfl (fun q => hx2 (Or.inl q)) hN (by have := Nat.mul_le_mul hbig c3.1; omega) (by omega) (by omega) h1.1 fun H1 cA e1 z1 o1 hAr hNm => ?_
  have hcA : cA = G (zat t) := Option.some.inj (hNm.symm.trans c2)
  subst hcA
  have hcell : zce b sa D G h (znm h.1) H1 := by
    unfold zce
    rw [if_neg (by omega), x2, x3, e1]
    congr 2
    funext i
    rw [zsv_new h1.2.2.2.2 x1 x2 i, x3]
    exact c3.2 i
  obtain ⟨g1, g2, g3, g4⟩ := z_push (N := zn (znm h.1).1) X h1 h2 hx z1 o1 hcell
  have hw := k H1 locs ls g1 g3 (h3.up (Nat.le_succ _)) (zst_c (Or.inl g2) (zst_up (Nat.le_succ _) (zst_t h4)))
  have e1 : h.1 - n0 + 1 = (zal h (zn (znm h.1).1)).1 - n0 := by show _ = h.1 + 1 - n0; omega
  have e2 : h.2.1 - s0 + zn (znm h.1).1 = (zal h (zn (znm h.1).1)).2.1 - s0 := by show _ = h.2.1 + zn (znm h.1).1 - s0; omega
  rw [e1, e2]
  show W p l e R s m args below meth c H1 locs _ _ Q (F0 m (pc + 2) ls (.ref (b + h.1) :: st.map (zvl b sa)))
  rw [← g4]
  exact hw
theorem z_anewa (X : zX p R s m args meth c μ b sa D G sc) {j ty pl : Nat} {x : Int32} (hn : zna (zown μ) j = some (ty, pl)) (hx : znext h ty = true) (hO : zisO ty = true) (hx2 : ¬ (x < 0 ∨ x.toNatClampNeg ≠ zn (znm h.1).1)) (hn0 : n0 ≤ h.1) (hs0 : s0 ≤ h.2.1) (hcells : h.1 + 1 - n0 ≤ R.cells) (hslots : h.2.1 + zn (znm h.1).1 - s0 ≤ R.slots) (d : decode (zby μ) pc = .ok (.anewarray j, 3))
    (k : zq p l e R s m args below meth c b sa D G n0 s0 μ Q false (zal h (zn (znm h.1).1)) (pc + 3) lv (.inr (.inl (znm h.1)) :: st)) : zq p l e R s m args below meth c b sa D G n0 s0 μ Q cl h (pc) lv (.inl x :: st) := by
  intro H locs ls h1 h2 h3 h4
  obtain ⟨x1, x2, x3, x4⟩ := znext_of hx
  have hN : x.toNatClampNeg = zn (znm h.1).1 := Classical.byContradiction fun q => hx2 (Or.inr q)
  have hbig := zF_len (k := (znm h.1).1) x4
  obtain ⟨f1, f2⟩ := zF_na hn
  obtain ⟨hel, kA, comp, k1, k2, k3, k4⟩ := z_comp X.2.2.2.2.2.1 hO
  refine W.anew X.1 X.2.1 X.2.2.2.1 (X.2.2.2.2.1 _ f1) (va_AO.use (va_AO.of (X.2.2.2.2.2.2.2.2.2.2 _ f2))) rfl d rfl (fun q => hx2 (Or.inl q)) (by rw [hN]; omega) (by omega) (by rw [hN]; omega) fun cA kA' comp' q1 q2 q3 q4 => ?_
  have hcA : cA = G ty := Option.some.inj (q1.symm.trans k4)
  subst hcA
  rw [hN]
  generalize hH1 : H.push ({ cls := G ty, slots := Array.replicate (zn (znm h.1).1) .null, vm := .none } : Cell) = H1
  have z1 : H1.size = b + h.1 + 1 := by rw [← hH1, Array.size_push, h1.1]
  have e1 : H1[b + h.1]? = some (arrV (G ty) (zn (znm h.1).1) (fun _ => .null)) := by rw [← h1.1, ← hH1, Array.getElem?_push_size, ← arrV_new]
  have o1 : ∀ q : Nat, q < b + h.1 → H1[q]? = H[q]? := fun q hq => by rw [← hH1, Array.getElem?_push, if_neg (by rw [h1.1]; omega)]
  have hcell : zce b sa D G h (znm h.1) H1 := by
    have := zisO_or hO
    unfold zce
    rw [if_neg (by omega), x2, x3, e1]
    congr 2
    funext i
    rw [zsv_new h1.2.2.2.2 x1 x2 i, x3, zsk_O hO]
    rfl
  obtain ⟨g1, g2, g3, g4⟩ := z_push (N := zn (znm h.1).1) X h1 h2 hx z1 o1 hcell
  have hw := k H1 locs ls g1 g3 (h3.up (Nat.le_succ _)) (zst_c (Or.inl g2) (zst_up (Nat.le_succ _) (zst_t h4)))
  have e1 : h.1 - n0 + 1 = (zal h (zn (znm h.1).1)).1 - n0 := by show _ = h.1 + 1 - n0; omega
  have e2 : h.2.1 - s0 + zn (znm h.1).1 = (zal h (zn (znm h.1).1)).2.1 - s0 := by show _ = h.2.1 + zn (znm h.1).1 - s0; omega
  rw [e1, e2]
  show W p l e R s m args below meth c H1 locs _ _ Q (F0 m (pc + 3) ls (.ref H.size :: st.map (zvl b sa)))
  rw [h1.1, ← g4]
  exact hw
end ROWS3
