/-! What the machine answers at Bool, it answers at Prop -/
section NT
variable {α β : Type} {bot : α} {m : Nat} {sc : zC} (φ : α → β)
theorem zn_c {c : Bool} {a b : α} : φ (bif c then a else b) = bif c then φ a else φ b := by cases c <;> rfl
theorem zn_i {c : Prop} [Decidable c] {a b : α} : φ (if c then a else b) = if c then φ a else φ b := by
  by_cases q : c
  · rw [if_pos q, if_pos q]
  · rw [if_neg q, if_neg q]
theorem zopA_nat {i : Instr} {lv : zL} {st : List zV} {k : zL → List zV → α} : φ (zopA bot m i lv st k) = zopA (φ bot) m i lv st (fun lv st => φ (k lv st)) := by
  cases i
  case iload j => simp only [zopA]; rcases zget lv j with _ | (x | (a | w)) <;> rfl
  case iload_n j => simp only [zopA]; rcases zget lv j.val with _ | (x | (a | w)) <;> rfl
  case aload j => simp only [zopA]; rcases zget lv j with _ | (x | (a | w)) <;> rfl
  case aload_n j => simp only [zopA]; rcases zget lv j.val with _ | (x | (a | w)) <;> rfl
  case iinc j n => simp only [zopA]; rcases zget lv j with _ | (x | (a | w)) <;> first | rfl | exact zn_c φ
  case invokespecial j =>
    simp only [zopA]
    rw [zn_c φ]
    rcases st with _ | ⟨x | (a | w), st⟩ <;> first | rfl | (simp only; rw [zn_c φ])
  case invokestatic j =>
    simp only [zopA]
    rw [zn_c φ]
    rcases st with _ | ⟨x | (a | w), _ | ⟨y | (b | v), st⟩⟩ <;> first | rfl | (simp only; rw [zn_c φ])
  all_goals first
    | rfl
    | (simp only [zopA]
       rcases st with _ | ⟨x | (a | w), _ | ⟨y | (b | v), _ | ⟨z | (e | u), st⟩⟩⟩ <;> first | rfl | exact zn_c φ | exact zn_i φ)
theorem zopB_nat {i : Instr} {st : List zV} {h : zS} {k : List zV → α} : φ (zopB bot m sc i st h k) = zopB (φ bot) m sc i st h (fun st => φ (k st)) := by
  cases i
  case getfield j =>
    simp only [zopB]
    rcases st with _ | ⟨x | (a | w), st⟩
    · rfl
    · rfl
    · simp only
      rcases zft (zown m) j with _ | ⟨ci, f, q⟩
      · rfl
      · simp only [zn_c φ]
    · rfl
  case aaload =>
    simp only [zopB]
    rcases st with _ | ⟨x | (a | w), _ | ⟨y | (b | v), st⟩⟩ <;> first | rfl | simp only [zn_c φ, zn_i φ]
  case iaload =>
    simp only [zopB]
    rcases st with _ | ⟨x | (a | w), _ | ⟨y | (b | v), st⟩⟩ <;> first | rfl | (rcases sc with _ | ⟨L, xs⟩ <;> simp only [zn_c φ, zn_i φ])
  case baload =>
    simp only [zopB]
    rcases st with _ | ⟨x | (a | w), _ | ⟨y | (b | v), st⟩⟩ <;> first | rfl | simp only [zn_c φ, zn_i φ]
  case laload =>
    simp only [zopB]
    rcases st with _ | ⟨x | (a | w), _ | ⟨y | (b | v), st⟩⟩ <;> first | rfl | simp only [zn_c φ, zn_i φ]
  case arraylength =>
    simp only [zopB]
    rcases st with _ | ⟨x | (a | w), st⟩ <;> first | rfl | (rcases sc with _ | ⟨L, xs⟩ <;> simp only [zn_c φ])
  all_goals rfl
theorem zopC_nat {i : Instr} {st : List zV} {h : zS} {k : List zV → zS → α} : φ (zopC bot m i st h k) = zopC (φ bot) m i st h (fun st h => φ (k st h)) := by
  cases i
  case putfield j =>
    simp only [zopC]
    rcases st with _ | ⟨x | (a | w), _ | ⟨y | (b | v), st⟩⟩ <;> first | rfl | (rcases zft (zown m) j with _ | ⟨ci, f, q⟩ <;> first | rfl | simp only [zn_c φ])
  case new j =>
    simp only [zopC]
    rcases znw (zown m) j with _ | ⟨ci, q⟩ <;> first | rfl | simp only [zn_c φ]
  case anewarray j =>
    simp only [zopC]
    rcases st with _ | ⟨x | (a | w), st⟩ <;> first | rfl | (rcases zna (zown m) j with _ | ⟨ci, q⟩ <;> first | rfl | simp only [zn_c φ, zn_i φ])
  case newarray t =>
    simp only [zopC]
    rcases st with _ | ⟨x | (a | w), st⟩ <;> first | rfl | simp only [zn_c φ, zn_i φ]
  case iastore =>
    simp only [zopC]
    rcases st with _ | ⟨x | (a | w), _ | ⟨y | (b | v), _ | ⟨z | (e | u), st⟩⟩⟩ <;> first | rfl | simp only [zn_c φ, zn_i φ]
  case bastore =>
    simp only [zopC]
    rcases st with _ | ⟨x | (a | w), _ | ⟨y | (b | v), _ | ⟨z | (e | u), st⟩⟩⟩ <;> first | rfl | simp only [zn_c φ, zn_i φ]
  case lastore =>
    simp only [zopC]
    rcases st with _ | ⟨x | (a | w), _ | ⟨y | (b | v), _ | ⟨z | (e | u), st⟩⟩⟩ <;> first | rfl | simp only [zn_c φ, zn_i φ]
  case aastore =>
    simp only [zopC]
    rcases st with _ | ⟨x | (a | w), _ | ⟨y | (b | v), _ | ⟨z | (e | u), st⟩⟩⟩ <;> first | rfl | simp only [zn_c φ, zn_i φ]
  all_goals rfl
theorem zjp_nat {i : Instr} {st : List zV} {jk : Int → List zV → α} {fk : List zV → α} : φ (zjp bot i st jk fk) = zjp (φ bot) i st (fun o st => φ (jk o st)) (fun st => φ (fk st)) := by
  cases i
  case ifCond c o =>
    simp only [zjp]
    rcases st with _ | ⟨x | (a | w), st⟩ <;> first | rfl | (cases c <;> simp only [zn_i φ])
  case if_icmp c o =>
    simp only [zjp]
    rcases st with _ | ⟨x | (a | w), _ | ⟨y | (b | v), st⟩⟩ <;> first | rfl | (cases c <;> simp only [zn_i φ])
  case tableswitch d lo hi os =>
    simp only [zjp]
    rcases st with _ | ⟨x | (a | w), st⟩
    · rfl
    · simp only [zn_i φ]
      rcases os[(x.toInt - lo).toNat]? with _ | o <;> rfl
    · rfl
    · rfl
  all_goals rfl
theorem zrt_nat {i : Instr} {st : List zV} {k : Option zV → α} : φ (zrt bot m i st k) = zrt (φ bot) m i st (fun v => φ (k v)) := by
  cases i
  case ireturn =>
    simp only [zrt]
    rcases st with _ | ⟨x | (a | w), _ | ⟨y, st⟩⟩ <;> first | rfl | simp only [zn_c φ]
  case areturn =>
    simp only [zrt]
    rcases st with _ | ⟨x | (a | w), _ | ⟨y, st⟩⟩ <;> first | rfl | simp only [zn_c φ]
  case return_ =>
    simp only [zrt]
    rcases st with _ | ⟨x, st⟩ <;> first | rfl | simp only [zn_c φ]
  all_goals rfl
theorem zx_nat {rec : Nat → Nat → Bool → zL → List zV → zS → (zR → α) → α} {rec' : Nat → Nat → Bool → zL → List zV → zS → (zR → β) → β} (hr : ∀ m pc cl lv st h K, φ (rec m pc cl lv st h K) = rec' m pc cl lv st h (fun r => φ (K r))) : ∀ (is : List (Instr × Nat)) (pc : Nat) (cl : Bool) (lv : zL) (st : List zV) (h : zS) (K : zR → α), φ (zx bot sc rec m is pc cl lv st h K) = zx (φ bot) sc rec' m is pc cl lv st h (fun r => φ (K r))
  | [], pc, cl, lv, st, h, K => hr m pc cl lv st h K
  | (i, n) :: is, pc, cl, lv, st, h, K => by
    have ih := zx_nat hr is
    match hz : zkd m i with
    | 0 =>
      rw [zx0 hz, zx0 hz, zopA_nat φ]
      simp only [ih]
    | 1 =>
      rw [zx1 hz, zx1 hz, zopB_nat φ]
      simp only [ih]
    | 2 =>
      rw [zx2 hz, zx2 hz, zopC_nat φ]
      simp only [ih]
    | 3 =>
      rw [zx3 hz, zx3 hz, zjp_nat φ]
      simp only [ih, hr]
    | 4 =>
      rw [zx4 hz, zx4 hz, zrt_nat φ]
      simp only [zn_c φ]
    | 5 =>
      rw [zx5 hz, zx5 hz]
      match hc : zcs (zown m) i with
      | some (y, na, pl) =>
        simp only [zn_c φ, hr]
        congr 2
        funext r
        match r with
        | (.inl (some v), h) => exact ih _ _ _ _ _ _
        | (.inl none, h) => exact ih _ _ _ _ _ _
        | (.inr (e, a), h) =>
          simp only [zbh]
          rcases zhd m pc e with _ | hp
          · rfl
          · exact hr _ _ _ _ _ _ _
      | none => rfl
    | 6 =>
      rw [zx6 hz, zx6 hz]
      rcases st with _ | ⟨x | (a | w), _ | ⟨y | (b | v), st⟩⟩ <;> first | rfl | (simp only [zn_c φ, ih])
    | 7 =>
      rw [zx7 hz, zx7 hz]
      rcases zth m pc with _ | ⟨e, N, q⟩
      · rfl
      · simp only [zn_c φ]
    | k + 8 =>
      rw [zx8 hz, zx8 hz]
theorem zt_nat : ∀ (n m pc : Nat) (cl : Bool) (lv : zL) (st : List zV) (h : zS) (K : zR → α), φ (zt bot sc n m pc cl lv st h K) = zt (φ bot) sc n m pc cl lv st h (fun r => φ (K r))
  | 0, _, _, _, _, _, _, _ => rfl
  | n + 1, _, _, _, _, _, _, _ => zx_nat φ (zt_nat n) _ _ _ _ _ _ _
end NT
/-- without a script, and with one -/
theorem zopB_sc {m : Nat} {sc : zC} {i : Instr} {st : List zV} {h : zS} {k : List zV → Prop} (hh : zopB False m none i st h k) : zopB False m sc i st h k := by
  cases i
  case iaload =>
    simp only [zopB] at hh ⊢
    rcases st with _ | ⟨x | (a | w), _ | ⟨y | (b | v), st⟩⟩ <;> first | exact hh.elim | skip
    simp only at hh ⊢
    cases e1 : Nat.beq (zc b.1) 20 with
    | true => rw [e1] at hh; exact hh
    | false =>
      rw [e1] at hh
      exact (zbif hh).2.elim
  case arraylength =>
    simp only [zopB] at hh ⊢
    rcases st with _ | ⟨x | (a | w), st⟩ <;> first | exact hh.elim | skip
    simp only at hh ⊢
    cases e1 : Nat.beq (zc a.1) 20 with
    | true => rw [e1] at hh; exact hh
    | false =>
      rw [e1] at hh
      exact (zbif hh).2.elim
  all_goals exact hh
theorem zx_sc {m : Nat} {sc : zC} {rec rec' : Nat → Nat → Bool → zL → List zV → zS → (zR → Prop) → Prop} (hp : zpk rec) (hle : zle rec rec') : ∀ (is : List (Instr × Nat)) (pc : Nat) (cl : Bool) (lv : zL) (st : List zV) (h : zS) (K : zR → Prop), zx False none rec m is pc cl lv st h K → zx False sc rec' m is pc cl lv st h K
  | [], pc, cl, lv, st, h, K, hk => hle m pc cl lv st h K hk
  | (i, n) :: is, pc, cl, lv, st, h, K, hk => by
    have ih := zx_sc (m := m) (sc := sc) hp hle is
    match hz : zkd m i with
    | 0 =>
      rw [zx0 hz] at hk ⊢
      obtain ⟨lv', st', h1, h2⟩ := zopA_pick hk
      exact h2 _ (ih _ _ _ _ _ _ h1)
    | 1 =>
      rw [zx1 hz] at hk ⊢
      obtain ⟨st', h1, h2⟩ := zopB_pick hk
      exact zopB_sc (h2 _ (ih _ _ _ _ _ _ h1))
    | 2 =>
      rw [zx2 hz] at hk ⊢
      obtain ⟨st', h', h1, h2⟩ := zopC_pick hk
      exact h2 _ (ih _ _ _ _ _ _ h1)
    | 3 =>
      rw [zx3 hz] at hk ⊢
      rcases zjp_pick hk with ⟨o, st', h1, h2⟩ | ⟨st', h1, h2⟩
      · exact h2 _ _ (hle _ _ _ _ _ _ _ h1)
      · exact h2 _ _ (ih _ _ _ _ _ _ h1)
    | 4 =>
      rw [zx4 hz] at hk ⊢
      exact hk
    | 5 =>
      rw [zx5 hz] at hk ⊢
      match hc : zcs (zown m) i with
      | some (y, na, pl) =>
        simp only [hc] at hk ⊢
        obtain ⟨e1, hk⟩ := zbif hk
        obtain ⟨r1, h1, h2⟩ := hp _ _ _ _ _ _ _ hk
        refine zbif' e1 (hle _ _ _ _ _ _ _ (h2 _ ?_))
        match r1, h1 with
        | (.inl (some v), h), h1 => exact ih _ _ _ _ _ _ h1
        | (.inl none, h), h1 => exact ih _ _ _ _ _ _ h1
        | (.inr (e, a), h), h1 =>
          simp only [zbh] at h1 ⊢
          split at h1
          · exact hle _ _ _ _ _ _ _ h1
          · exact h1.elim
      | none =>
        simp only [hc] at hk
    | 6 =>
      rw [zx6 hz] at hk ⊢
      split at hk
      · obtain ⟨e1, hk⟩ := zbif hk
        exact zbif' e1 (ih _ _ _ _ _ _ hk)
      · exact hk.elim
    | 7 =>
      rw [zx7 hz] at hk ⊢
      exact hk
    | k + 8 =>
      rw [zx8 hz] at hk
      exact hk.elim
theorem zt_sc {sc : zC} : ∀ n, zle (zt False none n) (zt False sc n)
  | 0 => fun _ _ _ _ _ _ _ h => h.elim
  | n + 1 => fun m pc cl lv st h K hk => zx_sc (zt_pick n) (zt_sc n) (zcode m pc) pc cl lv st h K hk
/-- a closed run, decided at Bool -/
theorem zB_T {sc : zC} {n m pc : Nat} {cl : Bool} {lv : zL} {st : List zV} {h : zS} {K : zR → Bool} (hb : zt false none n m pc cl lv st h K = true) : ∃ r, K r = true ∧ ∀ K' : zR → Prop, K' r → zT sc m pc cl lv st h K' := by
  have e := zt_nat (sc := none) (bot := false) (fun b : Bool => b = true) n m pc cl lv st h K
  rw [show (zt false none n m pc cl lv st h K = true) = True from eq_true hb, show (false = true) = False from eq_false (by decide)] at e
  have e2 : zt False none n m pc cl lv st h (fun r => K r = true) := by rw [← e]; trivial
  obtain ⟨r, h1, h2⟩ := zt_pick n _ _ _ _ _ _ _ e2
  exact ⟨r, h1, fun K' hk => ⟨n, zt_sc n _ _ _ _ _ _ _ (h2 K' hk)⟩⟩
