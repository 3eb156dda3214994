/-! plans = new int[2][30] -/
theorem zmok_of {h : zS} (hz : zmok h = true) : h.2.2.1 = false ∧ h.1 = 186 := by
  simp only [zmok, Bool.and_eq_true, Bool.not_eq_true'] at hz
  obtain ⟨z1, z2, z3, -⟩ := hz
  have e := zeq_eq z2
  have n := Nat.eq_of_beq_eq_true z3
  rw [e] at n
  exact ⟨z1, n.symm⟩
theorem zmul_hn (h : zS) (x : zA) (k : Nat) (hx : x ≠ znm h.1) : (zmul h).2.2.2.1 x k = h.2.2.2.1 x k := by
  unfold zmul zwr
  simp only [zal]
  cases h.2.2.2.1 (znm h.1) 0 <;> simp only [cond_true, cond_false]
  · cases zup h.2.2.2.1 (znm h.1) 0 true (znm h.1) 1 <;> simp only [cond_true, cond_false]
    · rw [zup_at, if_neg (fun q => hx q.1), zup_at, if_neg (fun q => hx q.1)]
    · rw [zup_at, if_neg (fun q => hx q.1)]
  · cases h.2.2.2.1 (znm h.1) 1 <;> simp only [cond_true, cond_false]
    · rw [zup_at, if_neg (fun q => hx q.1)]
theorem zmul_hi (h : zS) (x : zA) (k : Nat) (hx : x ≠ znm h.1) : (zmul h).2.2.2.2.1 x k = h.2.2.2.2.1 x k := by
  unfold zmul zwr
  simp only [zal]
  rw [zup_at, if_neg (fun q => hx q.1), zup_at, if_neg (fun q => hx q.1)]
theorem zmul_at {h : zS} (hf : ∀ k, h.2.2.2.1 (znm h.1) k = false) {k : Nat} (hk : k < 2) : (zmul h).2.2.2.1 (znm h.1) k = true := by
  unfold zmul zwr
  simp only [zal, hf, cond_false]
  rw [zup_at, if_neg (fun q => by have := q.2; omega)]
  simp only [hf, cond_false]
  rw [zup_at, zup_at]
  by_cases q : k = 1
  · rw [if_pos ⟨rfl, q⟩]
  · rw [if_neg (fun w => q w.2), if_pos ⟨rfl, by omega⟩]
section MNA
variable {p : Program} {l : Launch} {e : Env} {R : Room} {s : State} {m : MethodId} {args : Array Value} {below : List Frame} {meth : Method} {c : Code} {Q : State → Prop}
variable {b sa : Nat} {D : va_G} {G : Nat → ClassId} {sc : zC} {n0 s0 μ : Nat} {cl : Bool} {h : zS} {pc : Nat} {lv : zL} {st : List zV}
theorem zmul_P {H H1 : Heap} (h1 : zP b sa D G h H) (hz : zmok h = true) (z1 : H1.size = b + 186 + 1 + 2) (o1 : ∀ q, q < b + 186 → H1[q]? = H[q]?)
    (e0 : H1[b + 186]? = some (arrV (G 27) 2 (fun k => .ref (b + 187 + k)))) (e1 : ∀ j, j < 2 → H1[b + 186 + 1 + j]? = some (arrV (G 20) 30 (fun _ => .int 0))) : zP b sa D G (zmul h) H1 := by
  obtain ⟨hb, hn⟩ := zmok_of hz
  obtain ⟨p1, p2, p3, p4, p5⟩ := h1
  have hN : znm h.1 = (16, 0, 0) := by rw [hn]; rfl
  have hsz : (zmul h).1 = 189 := by show h.1 + 1 + 1 + 1 = 189; omega
  have hcase : ∀ x, zlv 189 x → zlv h.1 x ∨ x = (16, 0, 0) ∨ x = (17, 0, 0) ∨ x = (17, 1, 0) := fun x hx => by
    by_cases q : znum x < h.1
    · exact Or.inl ⟨hx.1, hx.2.1, q⟩
    · have h3 : znum x = 186 ∨ znum x = 187 ∨ znum x = 188 := by have := hx.2.2; omega
      right
      rcases h3 with w | w | w
      · left; rw [← hx.2.1, w]; rfl
      · right; left; rw [← hx.2.1, w]; rfl
      · right; right; rw [← hx.2.1, w]; rfl
  have hnl : ¬ zlv h.1 (znm h.1) := by
    rw [hN, hn]
    exact fun q => absurd q.2.2 (by decide)
  have hnl0 : ¬ zlv h.1 (17, 0, 0) := by rw [hn]; exact fun q => absurd q.2.2 (by decide)
  have hnl1 : ¬ zlv h.1 (17, 1, 0) := by rw [hn]; exact fun q => absurd q.2.2 (by decide)
  have hset : ∀ k, k < 2 → (zmul h).2.2.2.1 (16, 0, 0) k = true := fun k hk => by
    rw [← hN]
    exact zmul_at (fun k => (p5 hb _ hnl k).1) hk
  have hne : ∀ i, ((17, i, 0) : zA) ≠ znm h.1 := fun i => by rw [hN]; intro q; cases q
  have hrow : ∀ i, ¬ zlv h.1 (17, i, 0) → i < 2 → zce b sa D G (zmul h) (17, i, 0) H1 := fun i hi h2 => by
    show H1[b + (187 + i)]? = some (arrV (G 20) 30 (zsv b sa (zmul h) (17, i, 0)))
    rw [show b + (187 + i) = b + 186 + 1 + i by omega, e1 i h2]
    congr 2
    funext k
    show Value.int 0 = Value.int ((zmul h).2.2.2.2.1 (17, i, 0) k)
    rw [zmul_hi h _ k (hne i), (p5 hb _ hi k).2.1]
  refine ⟨by rw [z1, hsz], p2, fun x hx => ?_, fun x hx k hk hr hs => ?_, fun _ x hx k => ?_⟩
  · rw [hsz] at hx
    rcases hcase x hx with w | w | w | w
    · have hxn : x ≠ znm h.1 := fun q => hnl (q ▸ w)
      refine (p3 x w).kept (o1 _ (by have := w.2.2; omega)) (fun k _ => ?_)
      unfold zsv
      rw [zmul_hn h x k hxn, zmul_hi h x k hxn]
      rfl
    · subst w
      show H1[b + 186]? = some (arrV (G 27) 2 (zsv b sa (zmul h) (16, 0, 0)))
      rw [e0]
      congr 1
      unfold arrV
      congr 2
      funext k
      have hk := k.isLt
      show Value.ref (b + 187 + k.val) = bif (zmul h).2.2.2.1 (16, 0, 0) k.val then Value.ref (zad b sa (17, k.val, 0)) else Value.null
      rw [hset k.val hk]
      show Value.ref (b + 187 + k.val) = Value.ref (b + (187 + k.val))
      rw [Nat.add_assoc]
    · subst w
      exact hrow 0 hnl0 (by decide)
    · subst w
      exact hrow 1 hnl1 (by decide)
  · rw [hsz] at hx ⊢
    rcases hcase x hx with w | w | w | w
    · have hxn : x ≠ znm h.1 := fun q => hnl (q ▸ w)
      rw [zmul_hn h x k hxn] at hs
      rw [zmul_hi h x k hxn]
      exact zlv_up (by omega) (p4 x w k hk hr hs)
    · subst w
      have hk : k < 2 := hk
      show zlv 189 (17, k, 0)
      have hk2 : k = 0 ∨ k = 1 := by omega
      rcases hk2 with q | q <;> subst q <;> exact ⟨by decide, rfl, by decide⟩
    · subst w
      cases hr
    · subst w
      cases hr
  · rw [hsz] at hx
    have hxn : x ≠ znm h.1 := fun q => hx (by rw [q, hN]; exact ⟨by decide, rfl, by decide⟩)
    rw [zmul_hn h x k hxn, zmul_hi h x k hxn]
    exact p5 hb x (fun q => hx (zlv_up (by omega) q)) k
theorem z_out (cA : ClassId) (h0 : Nat) : Jvm.Free.Multi.outerC cA 2 h0 2 = arrV cA 2 (fun k => .ref (h0 + 1 + k)) := by
  show (({ cls := cA, slots := Array.replicate 2 .null, vm := .none } : Cell).setSlot 0 (.ref (h0 + 1 + 0))).setSlot 1 (.ref (h0 + 1 + 1)) = _
  rw [arrV_new, arrV_store, arrV_store]
  unfold arrV
  congr 2
  funext k
  have hk := k.isLt
  have hk2 : k.val = 0 ∨ k.val = 1 := by omega
  rcases hk2 with q | q <;> simp [updV, q]
theorem z_mna (X : zX p R s m args meth c μ b sa D G sc) {j : Nat} (hz : zmok h = true) (hcl : Cond.classLink (zcn (zown μ)) j "[[I" ∈ gW) (hn0 : n0 ≤ h.1) (hs0 : s0 ≤ h.2.1) (hcells : (zmul h).1 - n0 ≤ R.cells) (hslots : (zmul h).2.1 - s0 ≤ R.slots) (d : decode (zby μ) pc = .ok (.multianewarray j 2, 4))
    (k : zq p l e R s m args below meth c b sa D G n0 s0 μ Q false (zmul h) (pc + 4) lv (.inr (.inl (znm h.1)) :: st)) : zq p l e R s m args below meth c b sa D G n0 s0 μ Q cl h pc lv (.inl (nI 30) :: .inl (nI 2) :: st) := by
  intro H locs ls h1 h2 h3 h4 T hT Xs
  obtain ⟨hb, hn⟩ := zmok_of hz
  have e1 : (zmul h).1 = h.1 + 3 := rfl
  have e2 : (zmul h).2.1 = h.2.1 + 62 := rfl
  have n30 : (nI 30).toNatClampNeg = 30 := by decide +kernel
  have n2 : (nI 2).toNatClampNeg = 2 := by decide +kernel
  obtain ⟨vm₁, cA, comp, -, fA, fC, -, -, X', step⟩ := Xs.multianewarray2F X.1 X.2.2.2.1 (ty := .int) (X.2.2.2.2.1 _ hcl) (zAOA_use (X.2.2.2.2.2.2.2.2.2.2 _ zF_aoI)) (X.2.2.2.2.1 _ zF_acI) (g := F0 m pc ls ((.inl (nI 30) :: .inl (nI 2) :: st : List zV).map (zvl b sa))) rfl (by rw [X.2.1]; exact d) (n := nI 2) (k := nI 30) rfl (by decide +kernel) (by decide +kernel) (by decide +kernel) (by decide +kernel) (by decide +kernel) rfl rfl (by rw [n2]; omega) (by rw [n2, n30]; omega)
  rw [n2, n30] at X' step
  have hA : cA = G 27 := Option.some.inj (fA.symm.trans (X.2.2.2.2.2.1.2 7 _ rfl).2)
  have hC : comp = G 20 := Option.some.inj (fC.symm.trans (X.2.2.2.2.2.1.2 0 _ rfl).2)
  subst hA
  subst hC
  have hTh : (T.setVm vm₁).heap = H := hT
  have hsz := h1.1
  generalize hF : Jvm.Free.Multi.fill (T.setVm vm₁) (G 27) (G 20) 2 30 (defaultValue .int) 2 = F at X' step
  obtain ⟨f1, f2, -, -⟩ := Jvm.Free.Multi.fill_facts (T.setVm vm₁) (G 27) (G 20) 2 30 (defaultValue .int) 2
  rw [hF, hTh] at f1 f2
  have hold : ∀ x : Nat, x < H.size → F.heap[x]? = H[x]? := fun x hx => by
    have := Jvm.Free.Multi.fill_old (T.setVm vm₁) (G 27) (G 20) 2 30 (defaultValue .int) (a := x) (by rw [hTh]; exact hx) 2
    rw [hF, hTh] at this
    exact this
  have hrow : ∀ j : Nat, j < 2 → F.heap[H.size + 1 + j]? = some (arrV (G 20) 30 (fun _ => .int 0)) := fun j hj => by
    have := Jvm.Free.Multi.fill_inner (T.setVm vm₁) (G 27) (G 20) 2 30 (defaultValue .int) 2 j hj
    rw [hF, hTh] at this
    rw [this]
    show some ({ cls := G 20, slots := Array.replicate 30 (.int 0), vm := .none } : Cell) = _
    rw [arrV_new]
  rw [z_out] at f2
  have hH : H.size = b + 186 := by rw [hsz, hn]
  rw [hH] at f1 f2
  have hP' : zP b sa D G (zmul h) F.heap := zmul_P h1 hz f1 (fun q hq => hold q (by omega)) (by rw [f2]) (fun j hj => by rw [← hH]; exact hrow j hj)
  have hS' : zSl b s false F.heap locs := ⟨⟨Nat.le_trans h2.1.1 (by omega), fun q q1 q2 => (hold q (by have := h2.1.1; omega)).trans (h2.1.2.1 q q1 q2), h2.1.2.2⟩, fun q => by cases q⟩
  have hlive : zlv (zmul h).1 (znm h.1) := by
    rw [e1, hn]
    exact ⟨by decide, rfl, by decide⟩
  obtain ⟨t, a1, b1⟩ := k F.heap locs ls hP' hS' (h3.up (by omega)) (zst_c (Or.inl hlive) (zst_up (by omega) (zst_t (zst_t h4)))) F rfl (by
    have c1 : h.1 - n0 + 1 + 2 = (zmul h).1 - n0 := by omega
    have c2 : h.2.1 - s0 + 2 + 2 * 30 = (zmul h).2.1 - s0 := by omega
    rw [← c1, ← c2]
    exact X')
  refine ⟨t, step t ?_, b1⟩
  have c3 : ((.inr (.inl (znm h.1)) :: st : List zV).map (zvl b sa)) = .ref T.heap.size :: st.map (zvl b sa) := by
    show Value.ref (zad b sa (znm h.1)) :: _ = _
    rw [hT, hH, zad_lv hlive, hn]
    rfl
  rw [c3] at a1
  exact a1
end MNA
theorem zkd6 {μ : Nat} {i : Instr} (h : zkd μ i = 6) : μ = 0 ∧ i = .multianewarray 30 2 := by
  cases i
  case multianewarray j d =>
    simp only [zkd] at h
    cases hb : Nat.beq μ 0 && (Nat.beq j 30 && Nat.beq d 2) with
    | false => rw [hb] at h; cases h
    | true =>
      simp only [Bool.and_eq_true] at hb
      have h1 := Nat.eq_of_beq_eq_true hb.1
      have h2 := Nat.eq_of_beq_eq_true hb.2.1
      have h3 := Nat.eq_of_beq_eq_true hb.2.2
      subst h1 h2 h3
      exact ⟨rfl, rfl⟩
  case new j =>
    simp only [zkd] at h
    split at h <;> cases h
  case invokespecial j =>
    simp only [zkd] at h
    cases hb : zobj (zown μ) j <;> rw [hb] at h <;> cases h
  case invokestatic j =>
    simp only [zkd] at h
    cases hb : zmth (zown μ) j <;> rw [hb] at h <;> cases h
  all_goals cases h
theorem z_owe2 {l : Launch} {sc : zC} : ∀ μ i n pc cl lv st h r y x, zkd μ i = 6 → decode (zby μ) pc = .ok (i, n) → zln i n = true → zmok h = true → x = nI 2 → y = nI 30 → zSok l sc μ (pc + n) false lv (.inr (.inl (znm h.1)) :: st) (zmul h) r → (zmul h).1 ≤ r.2.1 → (zmul h).2.1 ≤ r.2.2.1 → zSok l sc μ pc cl lv (.inl y :: .inl x :: st) h r := by
  intro μ i n pc cl lv st h r y x hz d hl hm hx hy S m1 m2 p e R s m args below meth c b sa D G n0 s0 X q0 q1 q2 q3 q4
  obtain ⟨rfl, rfl⟩ := zkd6 hz
  subst hx
  subst hy
  obtain rfl := zln_n hl (fun _ _ _ _ q => by cases q)
  have u1 : (zmul h).1 = h.1 + 3 := rfl
  have u2 : (zmul h).2.1 = h.2.1 + 62 := rfl
  exact z_mna X hm zF_clI q1 q2 (by omega) (by omega) d (S p e R s m args below meth c b sa D G n0 s0 X q0 (by omega) (by omega) q3 q4)
