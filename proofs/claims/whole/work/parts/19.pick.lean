/-! An operation goes on in one way -/
theorem zbif {c : Bool} {A : Prop} (h : bif c then A else False) : c = true ∧ A := by
  cases c
  · exact h.elim
  · exact ⟨rfl, h⟩
theorem zbif' {c : Bool} {A B : Prop} (hc : c = true) (a : A) : (bif c then A else B) := by
  rw [hc]; exact a
theorem zite {c A : Prop} [Decidable c] (h : if c then False else A) : ¬ c ∧ A := by
  by_cases hc : c
  · rw [if_pos hc] at h; exact h.elim
  · rw [if_neg hc] at h; exact ⟨hc, h⟩
theorem zite' {c A B : Prop} [Decidable c] (hc : ¬ c) (a : A) : (if c then B else A) := by
  rw [if_neg hc]; exact a
theorem zit {c A B : Prop} [Decidable c] (hc : c) (a : A) : (if c then A else B) := by
  rw [if_pos hc]; exact a
theorem zopA_pick {m : Nat} {i : Instr} {lv : zL} {st : List zV} {k : zL → List zV → Prop} (h : zopA False m i lv st k) : ∃ lv' st', k lv' st' ∧ ∀ k' : zL → List zV → Prop, k' lv' st' → zopA False m i lv st k' := by
  cases i
  case iconst n => exact ⟨_, _, h, fun _ q => q⟩
  case bipush n => exact ⟨_, _, h, fun _ q => q⟩
  case sipush n => exact ⟨_, _, h, fun _ q => q⟩
  case lconst n => exact ⟨_, _, h, fun _ q => q⟩
  case iload j =>
    simp only [zopA] at h ⊢
    split at h
    · next x e => exact ⟨_, _, h, fun _ q => by first | exact q | (simp only [e]; exact q)⟩
    · exact h.elim
  case iload_n j =>
    simp only [zopA] at h ⊢
    split at h
    · next x e => exact ⟨_, _, h, fun _ q => by first | exact q | (simp only [e]; exact q)⟩
    · exact h.elim
  case aload j =>
    simp only [zopA] at h ⊢
    split at h
    · next x e => exact ⟨_, _, h, fun _ q => by first | exact q | (simp only [e]; exact q)⟩
    · exact h.elim
  case aload_n j =>
    simp only [zopA] at h ⊢
    split at h
    · next x e => exact ⟨_, _, h, fun _ q => by first | exact q | (simp only [e]; exact q)⟩
    · exact h.elim
  case istore j =>
    simp only [zopA] at h ⊢
    split at h
    · obtain ⟨e, h⟩ := zbif h
      exact ⟨_, _, h, fun _ q => zbif' e q⟩
    · exact h.elim
  case istore_n j =>
    simp only [zopA] at h ⊢
    split at h
    · obtain ⟨e, h⟩ := zbif h
      exact ⟨_, _, h, fun _ q => zbif' e q⟩
    · exact h.elim
  case astore j =>
    simp only [zopA] at h ⊢
    split at h
    · obtain ⟨e, h⟩ := zbif h
      exact ⟨_, _, h, fun _ q => zbif' e q⟩
    · exact h.elim
  case astore_n j =>
    simp only [zopA] at h ⊢
    split at h
    · obtain ⟨e, h⟩ := zbif h
      exact ⟨_, _, h, fun _ q => zbif' e q⟩
    · exact h.elim
  case iinc j n =>
    simp only [zopA] at h ⊢
    split at h
    · next x e =>
      obtain ⟨e2, h⟩ := zbif h
      exact ⟨_, _, h, fun _ q => by first | exact zbif' e2 q | (simp only [e]; exact zbif' e2 q)⟩
    · exact h.elim
  case iadd =>
    simp only [zopA] at h ⊢
    split at h <;> first | exact ⟨_, _, h, fun _ q => q⟩ | exact h.elim
  case isub =>
    simp only [zopA] at h ⊢
    split at h <;> first | exact ⟨_, _, h, fun _ q => q⟩ | exact h.elim
  case imul =>
    simp only [zopA] at h ⊢
    split at h <;> first | exact ⟨_, _, h, fun _ q => q⟩ | exact h.elim
  case iand =>
    simp only [zopA] at h ⊢
    split at h <;> first | exact ⟨_, _, h, fun _ q => q⟩ | exact h.elim
  case ior =>
    simp only [zopA] at h ⊢
    split at h <;> first | exact ⟨_, _, h, fun _ q => q⟩ | exact h.elim
  case ishl =>
    simp only [zopA] at h ⊢
    split at h <;> first | exact ⟨_, _, h, fun _ q => q⟩ | exact h.elim
  case ishr =>
    simp only [zopA] at h ⊢
    split at h <;> first | exact ⟨_, _, h, fun _ q => q⟩ | exact h.elim
  case ineg =>
    simp only [zopA] at h ⊢
    split at h <;> first | exact ⟨_, _, h, fun _ q => q⟩ | exact h.elim
  case i2l =>
    simp only [zopA] at h ⊢
    split at h <;> first | exact ⟨_, _, h, fun _ q => q⟩ | exact h.elim
  case lcmp =>
    simp only [zopA] at h ⊢
    split at h <;> first | exact ⟨_, _, h, fun _ q => q⟩ | exact h.elim
  case dup =>
    simp only [zopA] at h ⊢
    split at h <;> first | exact ⟨_, _, h, fun _ q => q⟩ | exact h.elim
  case pop =>
    simp only [zopA] at h ⊢
    split at h <;> first | exact ⟨_, _, h, fun _ q => q⟩ | exact h.elim
  case dup_x1 =>
    simp only [zopA] at h ⊢
    split at h <;> first | exact ⟨_, _, h, fun _ q => q⟩ | exact h.elim
  case dup_x2 =>
    simp only [zopA] at h ⊢
    split at h <;> first | exact ⟨_, _, h, fun _ q => q⟩ | exact h.elim
  case dup2 =>
    simp only [zopA] at h ⊢
    split at h <;> first | exact ⟨_, _, h, fun _ q => q⟩ | exact h.elim
  case idiv =>
    simp only [zopA] at h ⊢
    split at h
    · obtain ⟨e, h⟩ := zite h
      exact ⟨_, _, h, fun _ q => zite' e q⟩
    · exact h.elim
  case irem =>
    simp only [zopA] at h ⊢
    split at h
    · obtain ⟨e, h⟩ := zite h
      exact ⟨_, _, h, fun _ q => zite' e q⟩
    · exact h.elim
  case invokespecial j =>
    simp only [zopA] at h ⊢
    obtain ⟨e, h⟩ := zbif h
    split at h
    · obtain ⟨e2, h⟩ := zbif h
      exact ⟨_, _, h, fun _ q => zbif' e (zbif' e2 q)⟩
    · exact h.elim
  case invokestatic j =>
    simp only [zopA] at h ⊢
    obtain ⟨e, h⟩ := zbif h
    split at h
    · obtain ⟨e2, h⟩ := zbif h
      exact ⟨_, _, h, fun _ q => zbif' e (zbif' e2 q)⟩
    · exact h.elim
  all_goals exact h.elim
theorem zopB_pick {m : Nat} {sc : zC} {i : Instr} {st : List zV} {h : zS} {k : List zV → Prop} (hh : zopB False m sc i st h k) : ∃ st', k st' ∧ ∀ k' : List zV → Prop, k' st' → zopB False m sc i st h k' := by
  cases i
  case getfield j =>
    simp only [zopB] at hh ⊢
    split at hh
    · split at hh
      · next e =>
        obtain ⟨e1, hh⟩ := zbif hh
        cases e2 : Nat.beq (zfk _ _) 2 with
        | true =>
          rw [e2] at hh
          obtain ⟨e3, hh⟩ := zbif hh
          exact ⟨_, hh, fun _ q => zbif' e1 (by simp only [cond_true]; exact zbif' e3 q)⟩
        | false =>
          rw [e2] at hh
          exact ⟨_, hh, fun _ q => zbif' e1 (by simp only [cond_false]; exact q)⟩
      · exact hh.elim
    · exact hh.elim
  case aaload =>
    simp only [zopB] at hh ⊢
    split at hh
    · obtain ⟨e1, hh⟩ := zbif hh
      obtain ⟨e2, hh⟩ := zite hh
      obtain ⟨e3, hh⟩ := zbif hh
      exact ⟨_, hh, fun _ q => zbif' e1 (zite' e2 (zbif' e3 q))⟩
    · exact hh.elim
  case iaload =>
    simp only [zopB] at hh ⊢
    split at hh
    · next x a st =>
      cases e1 : Nat.beq (zc a.1) 20 with
      | true =>
        rw [e1] at hh
        obtain ⟨e2, hh⟩ := zite hh
        exact ⟨_, hh, fun _ q => by exact zite' e2 q⟩
      | false =>
        rw [e1] at hh
        obtain ⟨e2, hh⟩ := zbif hh
        split at hh
        · obtain ⟨e3, hh⟩ := zite hh
          exact ⟨_, hh, fun _ q => by simp only [cond_false]; exact zbif' e2 (zite' e3 q)⟩
        · exact hh.elim
    · exact hh.elim
  case baload =>
    simp only [zopB] at hh ⊢
    split at hh
    · obtain ⟨e1, hh⟩ := zbif hh
      obtain ⟨e2, hh⟩ := zite hh
      exact ⟨_, hh, fun _ q => zbif' e1 (zite' e2 q)⟩
    · exact hh.elim
  case laload =>
    simp only [zopB] at hh ⊢
    split at hh
    · obtain ⟨e1, hh⟩ := zbif hh
      obtain ⟨e2, hh⟩ := zite hh
      exact ⟨_, hh, fun _ q => zbif' e1 (zite' e2 q)⟩
    · exact hh.elim
  case arraylength =>
    simp only [zopB] at hh ⊢
    split at hh
    · next a st =>
      cases e1 : Nat.beq (zc a.1) 20 with
      | true =>
        rw [e1] at hh
        exact ⟨_, hh, fun _ q => by exact q⟩
      | false =>
        rw [e1] at hh
        obtain ⟨e2, hh⟩ := zbif hh
        split at hh
        · exact ⟨_, hh, fun _ q => by simp only [cond_false]; exact zbif' e2 q⟩
        · exact hh.elim
    · exact hh.elim
  all_goals exact hh.elim
theorem zopC_pick {m : Nat} {i : Instr} {st : List zV} {h : zS} {k : List zV → zS → Prop} (hh : zopC False m i st h k) : ∃ st' h', k st' h' ∧ ∀ k' : List zV → zS → Prop, k' st' h' → zopC False m i st h k' := by
  cases i
  case putfield j =>
    simp only [zopC] at hh ⊢
    split at hh
    · split at hh
      · next e =>
        obtain ⟨e1, hh⟩ := zbif hh
        exact ⟨_, _, hh, fun _ q => by first | exact zbif' e1 q | (simp only [e]; exact zbif' e1 q)⟩
      · exact hh.elim
    · split at hh
      · next e =>
        obtain ⟨e1, hh⟩ := zbif hh
        exact ⟨_, _, hh, fun _ q => by first | exact zbif' e1 q | (simp only [e]; exact zbif' e1 q)⟩
      · exact hh.elim
    · exact hh.elim
  case new j =>
    simp only [zopC] at hh ⊢
    split at hh
    · next e =>
      obtain ⟨e1, hh⟩ := zbif hh
      exact ⟨_, _, hh, fun _ q => by first | exact zbif' e1 q | (simp only [e]; exact zbif' e1 q)⟩
    · exact hh.elim
  case anewarray j =>
    simp only [zopC] at hh ⊢
    split at hh
    · split at hh
      · next e =>
        obtain ⟨e1, hh⟩ := zbif hh
        obtain ⟨e2, hh⟩ := zite hh
        exact ⟨_, _, hh, fun _ q => by first | exact zbif' e1 (zite' e2 q) | (simp only [e]; exact zbif' e1 (zite' e2 q))⟩
      · exact hh.elim
    · exact hh.elim
  case iastore =>
    simp only [zopC] at hh ⊢
    split at hh
    · obtain ⟨e1, hh⟩ := zbif hh
      obtain ⟨e2, hh⟩ := zite hh
      exact ⟨_, _, hh, fun _ q => zbif' e1 (zite' e2 q)⟩
    · exact hh.elim
  case bastore =>
    simp only [zopC] at hh ⊢
    split at hh
    · obtain ⟨e1, hh⟩ := zbif hh
      obtain ⟨e2, hh⟩ := zite hh
      exact ⟨_, _, hh, fun _ q => zbif' e1 (zite' e2 q)⟩
    · exact hh.elim
  case lastore =>
    simp only [zopC] at hh ⊢
    split at hh
    · obtain ⟨e1, hh⟩ := zbif hh
      obtain ⟨e2, hh⟩ := zite hh
      exact ⟨_, _, hh, fun _ q => zbif' e1 (zite' e2 q)⟩
    · exact hh.elim
  case aastore =>
    simp only [zopC] at hh ⊢
    split at hh
    · obtain ⟨e1, hh⟩ := zbif hh
      obtain ⟨e2, hh⟩ := zite hh
      exact ⟨_, _, hh, fun _ q => zbif' e1 (zite' e2 q)⟩
    · exact hh.elim
  case newarray t =>
    simp only [zopC] at hh ⊢
    split at hh
    · obtain ⟨e1, hh⟩ := zbif hh
      obtain ⟨e2, hh⟩ := zite hh
      exact ⟨_, _, hh, fun _ q => zbif' e1 (zite' e2 q)⟩
    · exact hh.elim
  all_goals exact hh.elim
/-- a jump goes on at an offset, or behind -/
theorem zjp_pick {i : Instr} {st : List zV} {jk : Int → List zV → Prop} {fk : List zV → Prop} (h : zjp False i st jk fk) :
    (∃ o st', jk o st' ∧ ∀ (jk' : Int → List zV → Prop) (fk' : List zV → Prop), jk' o st' → zjp False i st jk' fk') ∨ (∃ st', fk st' ∧ ∀ (jk' : Int → List zV → Prop) (fk' : List zV → Prop), fk' st' → zjp False i st jk' fk') := by
  cases i
  case goto o => exact Or.inl ⟨_, _, h, fun _ _ q => q⟩
  case ifCond c o =>
    simp only [zjp] at h ⊢
    split at h
    · cases c <;> simp only at h ⊢ <;> split at h <;> rename_i e <;> first
        | exact Or.inl ⟨_, _, h, fun _ _ q => by rw [if_pos e]; exact q⟩
        | exact Or.inr ⟨_, h, fun _ _ q => by rw [if_neg e]; exact q⟩
        | exact Or.inr ⟨_, h, fun _ _ q => by rw [if_pos e]; exact q⟩
        | exact Or.inl ⟨_, _, h, fun _ _ q => by rw [if_neg e]; exact q⟩
    · exact h.elim
  case if_icmp c o =>
    simp only [zjp] at h ⊢
    split at h
    · cases c <;> simp only at h ⊢ <;> split at h <;> rename_i e <;> first
        | exact Or.inl ⟨_, _, h, fun _ _ q => by rw [if_pos e]; exact q⟩
        | exact Or.inr ⟨_, h, fun _ _ q => by rw [if_neg e]; exact q⟩
        | exact Or.inr ⟨_, h, fun _ _ q => by rw [if_pos e]; exact q⟩
        | exact Or.inl ⟨_, _, h, fun _ _ q => by rw [if_neg e]; exact q⟩
    · exact h.elim
  case tableswitch d lo hi os =>
    simp only [zjp] at h ⊢
    split at h
    · split at h
      · next e => exact Or.inl ⟨_, _, h, fun _ _ q => by rw [if_pos e]; exact q⟩
      · next e =>
        split at h
        · next o e2 => exact Or.inl ⟨_, _, h, fun _ _ q => by rw [if_neg e]; first | exact q | (simp only [e2]; exact q)⟩
        · exact h.elim
    · exact h.elim
  all_goals exact h.elim
theorem zrt_pick {m : Nat} {i : Instr} {st : List zV} {k : Option zV → Prop} (h : zrt False m i st k) : ∃ v, k v ∧ ∀ k' : Option zV → Prop, k' v → zrt False m i st k' := by
  cases i
  case ireturn =>
    simp only [zrt] at h ⊢
    split at h
    · obtain ⟨e, h⟩ := zbif h
      exact ⟨_, h, fun _ q => zbif' e q⟩
    · exact h.elim
  case areturn =>
    simp only [zrt] at h ⊢
    split at h
    · obtain ⟨e, h⟩ := zbif h
      exact ⟨_, h, fun _ q => zbif' e q⟩
    · exact h.elim
  case return_ =>
    simp only [zrt] at h ⊢
    split at h
    · obtain ⟨e, h⟩ := zbif h
      exact ⟨_, h, fun _ q => zbif' e q⟩
    · exact h.elim
  all_goals exact h.elim
