/-! The machine's operations are the instructions' -/
theorem zln_n {i : Instr} {n : Nat} (h : zln i n = true) (ht : ∀ d lo hi os, i ≠ .tableswitch d lo hi os) : n = zlen i := by
  cases i
  case tableswitch d lo hi os => exact absurd rfl (ht d lo hi os)
  case bipush k =>
    simp only [zln, Bool.and_eq_true] at h
    exact Nat.eq_of_beq_eq_true h.1
  case sipush k =>
    simp only [zln, Bool.and_eq_true] at h
    exact Nat.eq_of_beq_eq_true h.1
  all_goals exact Nat.eq_of_beq_eq_true h
theorem znar_i {t : FieldType} {x : Int32} (h : zfit (zkOf t) x = true) (h3 : zkOf t < 3) : narrow t (.int x) = .int x ∧ fits t (.int x) = true ∧ (zkOf t = 0 ∨ zkOf t = 1) := by
  cases t
  case int => exact ⟨rfl, rfl, Or.inl rfl⟩
  case boolean =>
    have hb : zbit x = true := by
      simpa [zfit, zkOf] using h
    refine ⟨zbit_nar hb, ?_, Or.inr rfl⟩
    rcases zbit_or hb with q | q <;> subst q <;> rfl
  case object C => exact absurd h (by simp [zfit, zkOf])
  case array t => exact absurd h (by simp [zfit, zkOf])
  all_goals exact absurd h3 (by decide)
theorem znar_r {t : FieldType} {a : Nat} (h : zkOf t = 2) : narrow t (.ref a) = .ref a ∧ fits t (.ref a) = true := by
  cases t
  case object C => exact ⟨rfl, rfl⟩
  case array t => exact ⟨rfl, rfl⟩
  all_goals exact absurd h (by decide)
section OPS
variable {p : Program} {l : Launch} {e : Env} {R : Room} {s : State} {m : MethodId} {args : Array Value} {below : List Frame} {meth : Method} {c : Code} {Q : State → Prop}
variable {b sa : Nat} {D : va_G} {G : Nat → ClassId} {sc : zC} {n0 s0 μ : Nat} {cl : Bool} {h : zS} {pc : Nat} {lv : zL} {st : List zV}
theorem zopA_sound (X : zX p R s m args meth c μ b sa D G sc) {i : Instr} {n : Nat} {lv' : zL} {st' : List zV} (d : decode (zby μ) pc = .ok (i, n)) (hl : zln i n = true) (hc : h.1 - n0 ≤ R.cells) (hs : h.2.1 - s0 ≤ R.slots) (hk : zopA False μ i lv st (fun a b => a = lv' ∧ b = st')) (k : zq p l e R s m args below meth c b sa D G n0 s0 μ Q cl h (pc + n) lv' (st')) : zq p l e R s m args below meth c b sa D G n0 s0 μ Q cl h (pc) lv (st) := by
  cases i
  case iconst a =>
    obtain rfl := zln_n hl (fun _ _ _ _ q => by cases q)
    obtain ⟨rfl, rfl⟩ := hk
    exact z_iconst X d k
  case lconst a =>
    obtain rfl := zln_n hl (fun _ _ _ _ q => by cases q)
    obtain ⟨rfl, rfl⟩ := hk
    exact z_lconst X d k
  case bipush a =>
    obtain rfl := zln_n hl (fun _ _ _ _ q => by cases q)
    obtain ⟨rfl, rfl⟩ := hk
    simp only [zln, Bool.and_eq_true, decide_eq_true_eq] at hl
    exact z_bipush X hl.2 d k
  case sipush a =>
    obtain rfl := zln_n hl (fun _ _ _ _ q => by cases q)
    obtain ⟨rfl, rfl⟩ := hk
    simp only [zln, Bool.and_eq_true, decide_eq_true_eq] at hl
    exact z_sipush X hl.2 d k
  case iload j =>
    obtain rfl := zln_n hl (fun _ _ _ _ q => by cases q)
    simp only [zopA] at hk
    split at hk
    · next x ex =>
      obtain ⟨rfl, rfl⟩ := hk
      exact z_iload X ex d k
    · exact hk.elim
  case iload_n j =>
    obtain rfl := zln_n hl (fun _ _ _ _ q => by cases q)
    simp only [zopA] at hk
    split at hk
    · next x ex =>
      obtain ⟨rfl, rfl⟩ := hk
      exact z_iload_n X ex d k
    · exact hk.elim
  case aload j =>
    obtain rfl := zln_n hl (fun _ _ _ _ q => by cases q)
    simp only [zopA] at hk
    split at hk
    · next x ex =>
      obtain ⟨rfl, rfl⟩ := hk
      exact z_aload X ex d k
    · exact hk.elim
  case aload_n j =>
    obtain rfl := zln_n hl (fun _ _ _ _ q => by cases q)
    simp only [zopA] at hk
    split at hk
    · next x ex =>
      obtain ⟨rfl, rfl⟩ := hk
      exact z_aload_n X ex d k
    · exact hk.elim
  case istore j =>
    obtain rfl := zln_n hl (fun _ _ _ _ q => by cases q)
    simp only [zopA] at hk
    split at hk
    · obtain ⟨e1, hk⟩ := zbif hk
      obtain ⟨rfl, rfl⟩ := hk
      exact z_istore X (Nat.le_of_ble_eq_true e1) d k
    · exact hk.elim
  case istore_n j =>
    obtain rfl := zln_n hl (fun _ _ _ _ q => by cases q)
    simp only [zopA] at hk
    split at hk
    · obtain ⟨e1, hk⟩ := zbif hk
      obtain ⟨rfl, rfl⟩ := hk
      exact z_istore_n X (Nat.le_of_ble_eq_true e1) d k
    · exact hk.elim
  case astore j =>
    obtain rfl := zln_n hl (fun _ _ _ _ q => by cases q)
    simp only [zopA] at hk
    split at hk
    · obtain ⟨e1, hk⟩ := zbif hk
      obtain ⟨rfl, rfl⟩ := hk
      exact z_astore X (Nat.le_of_ble_eq_true e1) d k
    · exact hk.elim
  case astore_n j =>
    obtain rfl := zln_n hl (fun _ _ _ _ q => by cases q)
    simp only [zopA] at hk
    split at hk
    · obtain ⟨e1, hk⟩ := zbif hk
      obtain ⟨rfl, rfl⟩ := hk
      exact z_astore_n X (Nat.le_of_ble_eq_true e1) d k
    · exact hk.elim
  case iinc j a =>
    obtain rfl := zln_n hl (fun _ _ _ _ q => by cases q)
    simp only [zopA] at hk
    split at hk
    · next x ex =>
      obtain ⟨e1, hk⟩ := zbif hk
      obtain ⟨rfl, rfl⟩ := hk
      exact z_iinc X ex (Nat.le_of_ble_eq_true e1) d k
    · exact hk.elim
  case iadd =>
    obtain rfl := zln_n hl (fun _ _ _ _ q => by cases q)
    simp only [zopA] at hk
    split at hk
    · obtain ⟨rfl, rfl⟩ := hk
      exact z_iadd X d k
    · exact hk.elim
  case isub =>
    obtain rfl := zln_n hl (fun _ _ _ _ q => by cases q)
    simp only [zopA] at hk
    split at hk
    · obtain ⟨rfl, rfl⟩ := hk
      exact z_isub X d k
    · exact hk.elim
  case imul =>
    obtain rfl := zln_n hl (fun _ _ _ _ q => by cases q)
    simp only [zopA] at hk
    split at hk
    · obtain ⟨rfl, rfl⟩ := hk
      exact z_imul X d k
    · exact hk.elim
  case iand =>
    obtain rfl := zln_n hl (fun _ _ _ _ q => by cases q)
    simp only [zopA] at hk
    split at hk
    · obtain ⟨rfl, rfl⟩ := hk
      exact z_iand X d k
    · exact hk.elim
  case ior =>
    obtain rfl := zln_n hl (fun _ _ _ _ q => by cases q)
    simp only [zopA] at hk
    split at hk
    · obtain ⟨rfl, rfl⟩ := hk
      exact z_ior X d k
    · exact hk.elim
  case ishl =>
    obtain rfl := zln_n hl (fun _ _ _ _ q => by cases q)
    simp only [zopA] at hk
    split at hk
    · obtain ⟨rfl, rfl⟩ := hk
      exact z_ishl X d k
    · exact hk.elim
  case ishr =>
    obtain rfl := zln_n hl (fun _ _ _ _ q => by cases q)
    simp only [zopA] at hk
    split at hk
    · obtain ⟨rfl, rfl⟩ := hk
      exact z_ishr X d k
    · exact hk.elim
  case ineg =>
    obtain rfl := zln_n hl (fun _ _ _ _ q => by cases q)
    simp only [zopA] at hk
    split at hk
    · obtain ⟨rfl, rfl⟩ := hk
      exact z_ineg X d k
    · exact hk.elim
  case i2l =>
    obtain rfl := zln_n hl (fun _ _ _ _ q => by cases q)
    simp only [zopA] at hk
    split at hk
    · obtain ⟨rfl, rfl⟩ := hk
      exact z_i2l X d k
    · exact hk.elim
  case lcmp =>
    obtain rfl := zln_n hl (fun _ _ _ _ q => by cases q)
    simp only [zopA] at hk
    split at hk
    · obtain ⟨rfl, rfl⟩ := hk
      exact z_lcmp X d k
    · exact hk.elim
  case idiv =>
    obtain rfl := zln_n hl (fun _ _ _ _ q => by cases q)
    simp only [zopA] at hk
    split at hk
    · obtain ⟨e1, hk⟩ := zite hk
      obtain ⟨rfl, rfl⟩ := hk
      exact z_idiv X e1 d k
    · exact hk.elim
  case irem =>
    obtain rfl := zln_n hl (fun _ _ _ _ q => by cases q)
    simp only [zopA] at hk
    split at hk
    · obtain ⟨e1, hk⟩ := zite hk
      obtain ⟨rfl, rfl⟩ := hk
      exact z_irem X e1 d k
    · exact hk.elim
  case dup =>
    obtain rfl := zln_n hl (fun _ _ _ _ q => by cases q)
    simp only [zopA] at hk
    split at hk <;> first | exact hk.elim | (obtain ⟨rfl, rfl⟩ := hk; exact z_dup X (fun _ q => by cases q) d k)
  case pop =>
    obtain rfl := zln_n hl (fun _ _ _ _ q => by cases q)
    simp only [zopA] at hk
    split at hk <;> first | exact hk.elim | (obtain ⟨rfl, rfl⟩ := hk; exact z_pop X (fun _ q => by cases q) d k)
  case dup_x1 =>
    obtain rfl := zln_n hl (fun _ _ _ _ q => by cases q)
    simp only [zopA] at hk
    split at hk <;> first | exact hk.elim | (obtain ⟨rfl, rfl⟩ := hk; exact z_dup_x1 X (fun _ q => by cases q) (fun _ q => by cases q) d k)
  case dup_x2 =>
    obtain rfl := zln_n hl (fun _ _ _ _ q => by cases q)
    simp only [zopA] at hk
    split at hk <;> first | exact hk.elim | (obtain ⟨rfl, rfl⟩ := hk; exact z_dup_x2 X (fun _ q => by cases q) (fun _ q => by cases q) (fun _ q => by cases q) d k)
  case dup2 =>
    obtain rfl := zln_n hl (fun _ _ _ _ q => by cases q)
    simp only [zopA] at hk
    split at hk <;> first | exact hk.elim | (obtain ⟨rfl, rfl⟩ := hk; exact z_dup2 X (fun _ q => by cases q) (fun _ q => by cases q) d k)
  case invokespecial j =>
    obtain rfl := zln_n hl (fun _ _ _ _ q => by cases q)
    simp only [zopA] at hk
    obtain ⟨e1, hk⟩ := zbif hk
    obtain ⟨pl, e1⟩ := Option.isSome_iff_exists.mp e1
    split at hk
    · obtain ⟨e2, hk⟩ := zbif hk
      simp only [Bool.and_eq_true] at e2
      obtain ⟨rfl, rfl⟩ := hk
      exact z_obj X e1 (Nat.le_of_ble_eq_true e2.1) (Nat.le_of_ble_eq_true e2.2) d k
    · exact hk.elim
  case invokestatic j =>
    obtain rfl := zln_n hl (fun _ _ _ _ q => by cases q)
    simp only [zopA] at hk
    obtain ⟨e1, hk⟩ := zbif hk
    obtain ⟨pl, e1⟩ := Option.isSome_iff_exists.mp e1
    split at hk
    · obtain ⟨e2, hk⟩ := zbif hk
      simp only [Bool.and_eq_true] at e2
      obtain ⟨rfl, rfl⟩ := hk
      exact z_mmax X e1 (Nat.le_of_ble_eq_true e2.1) (Nat.le_of_ble_eq_true e2.2) hc hs d k
    · exact hk.elim
  all_goals exact hk.elim
theorem zopB_sound (X : zX p R s m args meth c μ b sa D G sc) {i : Instr} {n : Nat} {st' : List zV} (d : decode (zby μ) pc = .ok (i, n)) (hl : zln i n = true) (hk : zopB False μ sc i st h (fun b => b = st')) (k : zq p l e R s m args below meth c b sa D G n0 s0 μ Q cl h (pc + n) lv (st')) : zq p l e R s m args below meth c b sa D G n0 s0 μ Q cl h (pc) lv (st) := by
  cases i
  case getfield j =>
    obtain rfl := zln_n hl (fun _ _ _ _ q => by cases q)
    simp only [zopB] at hk
    split at hk
    · next a st0 =>
      split at hk
      · next ci f pl ef =>
        obtain ⟨e1, hk⟩ := zbif hk
        have e1 := Nat.eq_of_beq_eq_true e1
        obtain ⟨f1, f2, -⟩ := zF_ft ef
        have hblt : Nat.blt ci 20 = true := Nat.ble_eq_true_of_le (by omega)
        have hsk : zsk (zc a.1) f = zfk ci f := by
          unfold zsk
          rw [e1, hblt]
          rfl
        have hlt := (zF_all ci f1 f f2).2.2.2.2
        rw [← zF_fk f1 f2] at hlt
        cases e2 : Nat.beq (zfk ci f) 2 with
        | true =>
          rw [e2] at hk
          obtain ⟨e3, hk⟩ := zbif hk
          subst hk
          have e2 := Nat.eq_of_beq_eq_true e2
          refine z_getF X ef e1 d (v := .inr (.inl (zrf a f (h.2.2.2.2.1 a f)))) ?_ (fun hcl ha hf => Or.inl (hcl a ha f hf (by rw [hsk, e2]) e3)) k
          unfold zsv
          rw [hsk, if_pos e2, e3]
          rfl
        | false =>
          rw [e2] at hk
          have hk : (.inl (h.2.2.2.2.1 a f) :: st0 : List zV) = st' := hk
          subst hk
          have e2 : zfk ci f ≠ 2 := Nat.ne_of_beq_eq_false e2
          refine z_getF X ef e1 d (v := .inl (h.2.2.2.2.1 a f)) ?_ (fun _ _ _ => trivial) k
          unfold zsv
          rw [hsk, if_neg e2, if_neg (by omega)]
          rfl
      · exact hk.elim
    · exact hk.elim
  case aaload =>
    obtain rfl := zln_n hl (fun _ _ _ _ q => by cases q)
    simp only [zopB] at hk
    split at hk
    · obtain ⟨e1, hk⟩ := zbif hk
      obtain ⟨e2, hk⟩ := zite hk
      obtain ⟨e3, hk⟩ := zbif hk
      subst hk
      exact z_aald X e1 e2 e3 d k
    · exact hk.elim
  case iaload =>
    obtain rfl := zln_n hl (fun _ _ _ _ q => by cases q)
    simp only [zopB] at hk
    split at hk
    · next x a st0 =>
      cases e1 : Nat.beq (zc a.1) 20 with
      | true =>
        rw [e1] at hk
        obtain ⟨e2, hk⟩ := zite hk
        subst hk
        exact z_iald X (Nat.eq_of_beq_eq_true e1) e2 d k
      | false =>
        rw [e1] at hk
        obtain ⟨e2, hk⟩ := zbif hk
        split at hk
        · obtain ⟨e3, hk⟩ := zite hk
          subst hk
          exact z_sld X rfl (Nat.eq_of_beq_eq_true e2) e3 d k
        · exact hk.elim
    · exact hk.elim
  case baload =>
    obtain rfl := zln_n hl (fun _ _ _ _ q => by cases q)
    simp only [zopB] at hk
    split at hk
    · obtain ⟨e1, hk⟩ := zbif hk
      obtain ⟨e2, hk⟩ := zite hk
      subst hk
      exact z_bald X (Nat.eq_of_beq_eq_true e1) e2 d k
    · exact hk.elim
  case laload =>
    obtain rfl := zln_n hl (fun _ _ _ _ q => by cases q)
    simp only [zopB] at hk
    split at hk
    · obtain ⟨e1, hk⟩ := zbif hk
      obtain ⟨e2, hk⟩ := zite hk
      subst hk
      exact z_lald X (Nat.eq_of_beq_eq_true e1) e2 d k
    · exact hk.elim
  case arraylength =>
    obtain rfl := zln_n hl (fun _ _ _ _ q => by cases q)
    simp only [zopB] at hk
    split at hk
    · next a st0 =>
      cases e1 : Nat.beq (zc a.1) 20 with
      | true =>
        rw [e1] at hk
        have hk : (.inl (nI (zn a.1)) :: st0 : List zV) = st' := hk
        subst hk
        exact z_alen X (Nat.eq_of_beq_eq_true e1) d k
      | false =>
        rw [e1] at hk
        obtain ⟨e2, hk⟩ := zbif hk
        split at hk
        · subst hk
          exact z_slen X rfl (Nat.eq_of_beq_eq_true e2) d k
        · exact hk.elim
    · exact hk.elim
  all_goals exact hk.elim
theorem zopC_sound (X : zX p R s m args meth c μ b sa D G sc) {i : Instr} {n : Nat} {st' : List zV} {h' : zS} (d : decode (zby μ) pc = .ok (i, n)) (hl : zln i n = true) (hn0 : n0 ≤ h.1) (hs0 : s0 ≤ h.2.1) (hc : h'.1 - n0 ≤ R.cells) (hs : h'.2.1 - s0 ≤ R.slots) (hk : zopC False μ i st h (fun a b => a = st' ∧ b = h')) (k : zq p l e R s m args below meth c b sa D G n0 s0 μ Q false h' (pc + n) lv (st')) : zq p l e R s m args below meth c b sa D G n0 s0 μ Q cl h (pc) lv (st) := by
  cases i
  case putfield j =>
    obtain rfl := zln_n hl (fun _ _ _ _ q => by cases q)
    simp only [zopC] at hk
    split at hk
    · next x a st0 =>
      split at hk
      · next ci f pl ef =>
        obtain ⟨e1, hk⟩ := zbif hk
        simp only [Bool.and_eq_true, Bool.or_eq_true, Bool.not_eq_true'] at e1
        obtain ⟨rfl, rfl⟩ := hk
        have c1 := Nat.eq_of_beq_eq_true e1.1
        obtain ⟨f1, f2, -⟩ := zF_ft ef
        have hfk := zF_fk f1 f2
        have hblt : Nat.blt ci 20 = true := Nat.ble_eq_true_of_le (by omega)
        have hsk : zsk (zc a.1) f = zfk ci f := by
          unfold zsk
          rw [c1, hblt]
          rfl
        have e2 := e1.2.1
        rw [hfk] at e2
        obtain ⟨g1, g2, g3⟩ := znar_i e2 (zF_all ci f1 f f2).2.2.2.2
        exact z_putF X ef c1 (e1.2.2.imp id (fun q => ⟨q.1, Nat.eq_of_beq_eq_true q.2⟩)) g1 g2 (zwrote_i (by rw [hsk, hfk]; exact g3)) d k
      · exact hk.elim
    · next y a st0 =>
      split at hk
      · next ci f pl ef =>
        obtain ⟨e1, hk⟩ := zbif hk
        simp only [Bool.and_eq_true, Bool.or_eq_true, Bool.not_eq_true'] at e1
        obtain ⟨rfl, rfl⟩ := hk
        have c1 := Nat.eq_of_beq_eq_true e1.1
        obtain ⟨f1, f2, -⟩ := zF_ft ef
        have hfk := zF_fk f1 f2
        have hblt : Nat.blt ci 20 = true := Nat.ble_eq_true_of_le (by omega)
        have hsk : zsk (zc a.1) f = zfk ci f := by
          unfold zsk
          rw [c1, hblt]
          rfl
        have e2 := Nat.eq_of_beq_eq_true e1.2.1
        obtain ⟨g1, g2⟩ := znar_r (a := zad b sa y) (by rw [← hfk]; exact e2)
        exact z_putF X ef c1 (e1.2.2.2.2.imp id (fun q => ⟨q.1, Nat.eq_of_beq_eq_true q.2⟩)) g1 g2 (zwrote_r (by rw [hsk]; exact e2) (zeq_eq e1.2.2.1) (Nat.le_of_ble_eq_true e1.2.2.2.1)) d k
      · exact hk.elim
    · exact hk.elim
  case iastore =>
    obtain rfl := zln_n hl (fun _ _ _ _ q => by cases q)
    simp only [zopC] at hk
    split at hk
    · obtain ⟨e1, hk⟩ := zbif hk
      obtain ⟨e2, hk⟩ := zite hk
      obtain ⟨rfl, rfl⟩ := hk
      exact z_iast X (Nat.eq_of_beq_eq_true e1) e2 d k
    · exact hk.elim
  case bastore =>
    obtain rfl := zln_n hl (fun _ _ _ _ q => by cases q)
    simp only [zopC] at hk
    split at hk
    · obtain ⟨e1, hk⟩ := zbif hk
      simp only [Bool.and_eq_true] at e1
      obtain ⟨e2, hk⟩ := zite hk
      obtain ⟨rfl, rfl⟩ := hk
      exact z_bast X e1.2 (Nat.eq_of_beq_eq_true e1.1) e2 d k
    · exact hk.elim
  case lastore =>
    obtain rfl := zln_n hl (fun _ _ _ _ q => by cases q)
    simp only [zopC] at hk
    split at hk
    · obtain ⟨e1, hk⟩ := zbif hk
      obtain ⟨e2, hk⟩ := zite hk
      obtain ⟨rfl, rfl⟩ := hk
      exact z_last X (Nat.eq_of_beq_eq_true e1) e2 d k
    · exact hk.elim
  case aastore =>
    obtain rfl := zln_n hl (fun _ _ _ _ q => by cases q)
    simp only [zopC] at hk
    split at hk
    · obtain ⟨e1, hk⟩ := zbif hk
      simp only [Bool.and_eq_true] at e1
      obtain ⟨e2, hk⟩ := zite hk
      obtain ⟨rfl, rfl⟩ := hk
      exact z_aast X e1.1 (Nat.eq_of_beq_eq_true e1.2) (fun q => e2 (q.imp id Or.inl)) (Classical.byContradiction fun q => e2 (Or.inr (Or.inr q))) d k
    · exact hk.elim
  case new j =>
    obtain rfl := zln_n hl (fun _ _ _ _ q => by cases q)
    simp only [zopC] at hk
    split at hk
    · next ci pl ef =>
      obtain ⟨e1, hk⟩ := zbif hk
      simp only [Bool.and_eq_true] at e1
      obtain ⟨rfl, rfl⟩ := hk
      exact z_new X ef e1.1 hn0 hs0 hc hs d k
    · exact hk.elim
  case newarray t =>
    obtain rfl := zln_n hl (fun _ _ _ _ q => by cases q)
    simp only [zopC] at hk
    split at hk
    · obtain ⟨e1, hk⟩ := zbif hk
      simp only [Bool.and_eq_true] at e1
      obtain ⟨e2, hk⟩ := zite hk
      obtain ⟨rfl, rfl⟩ := hk
      exact z_newa X e1.1 (Nat.le_of_ble_eq_true e1.2) e2 hn0 hs0 hc hs d k
    · exact hk.elim
  case anewarray j =>
    obtain rfl := zln_n hl (fun _ _ _ _ q => by cases q)
    simp only [zopC] at hk
    split at hk
    · split at hk
      · next ty pl ef =>
        obtain ⟨e1, hk⟩ := zbif hk
        simp only [Bool.and_eq_true] at e1
        obtain ⟨e2, hk⟩ := zite hk
        obtain ⟨rfl, rfl⟩ := hk
        exact z_anewa X ef e1.1 e1.2 e2 hn0 hs0 hc hs d k
      · exact hk.elim
    · exact hk.elim
  all_goals exact hk.elim
theorem zopC_up {i : Instr} {st' : List zV} {h' : zS} (hk : zopC False μ i st h (fun a b => a = st' ∧ b = h')) : h.1 ≤ h'.1 ∧ h.2.1 ≤ h'.2.1 := by
  cases i
  case putfield j =>
    simp only [zopC] at hk
    split at hk
    · split at hk
      · obtain ⟨e1, hk⟩ := zbif hk
        obtain ⟨rfl, rfl⟩ := hk
        exact ⟨Nat.le_refl _, Nat.le_refl _⟩
      · exact hk.elim
    · split at hk
      · obtain ⟨e1, hk⟩ := zbif hk
        obtain ⟨rfl, rfl⟩ := hk
        exact ⟨Nat.le_refl _, Nat.le_refl _⟩
      · exact hk.elim
    · exact hk.elim
  case new j =>
    simp only [zopC] at hk
    split at hk
    · obtain ⟨e1, hk⟩ := zbif hk
      obtain ⟨rfl, rfl⟩ := hk
      exact ⟨Nat.le_succ _, Nat.le_add_right _ _⟩
    · exact hk.elim
  case anewarray j =>
    simp only [zopC] at hk
    split at hk
    · split at hk
      · obtain ⟨e1, hk⟩ := zbif hk
        obtain ⟨e2, hk⟩ := zite hk
        obtain ⟨rfl, rfl⟩ := hk
        exact ⟨Nat.le_succ _, Nat.le_add_right _ _⟩
      · exact hk.elim
    · exact hk.elim
  case newarray t =>
    simp only [zopC] at hk
    split at hk
    · obtain ⟨e1, hk⟩ := zbif hk
      obtain ⟨e2, hk⟩ := zite hk
      obtain ⟨rfl, rfl⟩ := hk
      exact ⟨Nat.le_succ _, Nat.le_add_right _ _⟩
    · exact hk.elim
  case iastore =>
    simp only [zopC] at hk
    split at hk
    · obtain ⟨e1, hk⟩ := zbif hk
      obtain ⟨e2, hk⟩ := zite hk
      obtain ⟨rfl, rfl⟩ := hk
      exact ⟨Nat.le_refl _, Nat.le_refl _⟩
    · exact hk.elim
  case bastore =>
    simp only [zopC] at hk
    split at hk
    · obtain ⟨e1, hk⟩ := zbif hk
      obtain ⟨e2, hk⟩ := zite hk
      obtain ⟨rfl, rfl⟩ := hk
      exact ⟨Nat.le_refl _, Nat.le_refl _⟩
    · exact hk.elim
  case lastore =>
    simp only [zopC] at hk
    split at hk
    · obtain ⟨e1, hk⟩ := zbif hk
      obtain ⟨e2, hk⟩ := zite hk
      obtain ⟨rfl, rfl⟩ := hk
      exact ⟨Nat.le_refl _, Nat.le_refl _⟩
    · exact hk.elim
  case aastore =>
    simp only [zopC] at hk
    split at hk
    · obtain ⟨e1, hk⟩ := zbif hk
      obtain ⟨e2, hk⟩ := zite hk
      obtain ⟨rfl, rfl⟩ := hk
      exact ⟨Nat.le_refl _, Nat.le_refl _⟩
    · exact hk.elim
  all_goals exact hk.elim
theorem zjp_sound (X : zX p R s m args meth c μ b sa D G sc) {i : Instr} {n : Nat} {J : Nat → List zV → Prop} {F : List zV → Prop} (d : decode (zby μ) pc = .ok (i, n)) (hl : zln i n = true) (hj : zjok i pc = true) (hk : zjp False i st (fun o st => J ((pc : Int) + o).toNat st) F) (hJ : ∀ t st, J t st → zq p l e R s m args below meth c b sa D G n0 s0 μ Q cl h (t) lv (st)) (hF : ∀ st, F st → zq p l e R s m args below meth c b sa D G n0 s0 μ Q cl h (pc + n) lv (st)) : zq p l e R s m args below meth c b sa D G n0 s0 μ Q cl h (pc) lv (st) := by
  have ht : ∀ o : Int, 0 ≤ (pc : Int) + o → (pc : Int) + o = (((pc : Int) + o).toNat : Int) := fun o q => (Int.toNat_of_nonneg q).symm
  cases i
  case goto o =>
    obtain rfl := zln_n hl (fun _ _ _ _ q => by cases q)
    exact z_goto X (ht o (of_decide_eq_true hj)) d (hJ _ _ hk)
  case ifCond cc o =>
    obtain rfl := zln_n hl (fun _ _ _ _ q => by cases q)
    have ho := ht o (of_decide_eq_true hj)
    simp only [zjp] at hk
    split at hk
    · cases cc
      case eq =>
        simp only at hk
        exact z_if_eq X ho d (fun q => hJ _ _ (by rw [if_pos q] at hk; exact hk)) (fun q => hF _ (by rw [if_neg q] at hk; exact hk))
      case ne =>
        simp only at hk
        exact z_if_ne X ho d (fun q => hJ _ _ (by rw [if_neg q] at hk; exact hk)) (fun q => hF _ (by rw [if_pos q] at hk; exact hk))
      case lt =>
        simp only at hk
        exact z_if_lt X ho d (fun q => hJ _ _ (by rw [if_pos q] at hk; exact hk)) (fun q => hF _ (by rw [if_neg q] at hk; exact hk))
      case ge =>
        simp only at hk
        exact z_if_ge X ho d (fun q => hJ _ _ (by rw [if_pos q] at hk; exact hk)) (fun q => hF _ (by rw [if_neg q] at hk; exact hk))
      case gt =>
        simp only at hk
        exact z_if_gt X ho d (fun q => hJ _ _ (by rw [if_pos q] at hk; exact hk)) (fun q => hF _ (by rw [if_neg q] at hk; exact hk))
      case le =>
        simp only at hk
        exact z_if_le X ho d (fun q => hJ _ _ (by rw [if_pos q] at hk; exact hk)) (fun q => hF _ (by rw [if_neg q] at hk; exact hk))
    · exact hk.elim
  case if_icmp cc o =>
    obtain rfl := zln_n hl (fun _ _ _ _ q => by cases q)
    have ho := ht o (of_decide_eq_true hj)
    simp only [zjp] at hk
    split at hk
    · cases cc
      case eq =>
        simp only at hk
        exact z_icmp_eq X ho d (fun q => hJ _ _ (by rw [if_pos q] at hk; exact hk)) (fun q => hF _ (by rw [if_neg q] at hk; exact hk))
      case ne =>
        simp only at hk
        exact z_icmp_ne X ho d (fun q => hJ _ _ (by rw [if_neg q] at hk; exact hk)) (fun q => hF _ (by rw [if_pos q] at hk; exact hk))
      case lt =>
        simp only at hk
        exact z_icmp_lt X ho d (fun q => hJ _ _ (by rw [if_pos q] at hk; exact hk)) (fun q => hF _ (by rw [if_neg q] at hk; exact hk))
      case ge =>
        simp only at hk
        exact z_icmp_ge X ho d (fun q => hJ _ _ (by rw [if_pos q] at hk; exact hk)) (fun q => hF _ (by rw [if_neg q] at hk; exact hk))
      case gt =>
        simp only at hk
        exact z_icmp_gt X ho d (fun q => hJ _ _ (by rw [if_pos q] at hk; exact hk)) (fun q => hF _ (by rw [if_neg q] at hk; exact hk))
      case le =>
        simp only at hk
        exact z_icmp_le X ho d (fun q => hJ _ _ (by rw [if_pos q] at hk; exact hk)) (fun q => hF _ (by rw [if_neg q] at hk; exact hk))
    · exact hk.elim
  case tableswitch dd lo hi os =>
    simp only [zjok, Bool.and_eq_true, decide_eq_true_eq] at hj
    simp only [zjp] at hk
    split at hk
    · split at hk
      · next q => exact z_tabOut X q (ht dd hj.1) d (hJ _ _ hk)
      · next q =>
        split at hk
        · next o eo =>
          have ho : 0 ≤ (pc : Int) + o := by
            have hm := List.all_eq_true.mp hj.2 o (by
              have := Array.mem_of_getElem? eo
              exact Array.mem_toList_iff.mpr this)
            exact of_decide_eq_true hm
          exact z_tabIn X q eo (ht o ho) d (hJ _ _ hk)
        · exact hk.elim
    · exact hk.elim
  all_goals exact hk.elim
end OPS
