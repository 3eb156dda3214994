/-! One step of the machine, by what the instruction is -/
section ZX
variable {α : Type} {bot : α} {sc : zC} {rec : Nat → Nat → Bool → zL → List zV → zS → (zR → α) → α} {m : Nat} {i : Instr} {n : Nat} {is : List (Instr × Nat)} {pc : Nat} {cl : Bool} {lv : zL} {st : List zV} {h : zS} {K : zR → α}
theorem zx0 (hz : zkd m i = 0) : zx bot sc rec m ((i, n) :: is) pc cl lv st h K = zopA bot m i lv st (fun lv st => zx bot sc rec m is (pc + n) cl lv st h K) := by
  simp only [zx, hz]
theorem zx1 (hz : zkd m i = 1) : zx bot sc rec m ((i, n) :: is) pc cl lv st h K = zopB bot m sc i st h (fun st => zx bot sc rec m is (pc + n) cl lv st h K) := by
  simp only [zx, hz]
theorem zx2 (hz : zkd m i = 2) : zx bot sc rec m ((i, n) :: is) pc cl lv st h K = zopC bot m i st h (fun st h => zx bot sc rec m is (pc + n) false lv st h K) := by
  simp only [zx, hz]
theorem zx3 (hz : zkd m i = 3) : zx bot sc rec m ((i, n) :: is) pc cl lv st h K = zjp bot i st (fun o st => rec m ((pc : Int) + o).toNat cl lv st h K) (fun st => zx bot sc rec m is (pc + n) cl lv st h K) := by
  simp only [zx, hz]
theorem zx4 (hz : zkd m i = 4) : zx bot sc rec m ((i, n) :: is) pc cl lv st h K = zrt bot m i st (fun v => bif !zpu m || cl then K (.inl v, h) else bot) := by
  simp only [zx, hz]
/-- behind a call -/
def zbh (bot : α) (sc : zC) (rec : Nat → Nat → Bool → zL → List zV → zS → (zR → α) → α) (m : Nat) (is : List (Instr × Nat)) (pc n : Nat) (cl : Bool) (lv : zL) (rest : List zV) (K : zR → α) (r : zR) : α := match r with
  | (.inl (some v), h) => zx bot sc rec m is (pc + n) cl lv (v :: rest) h K
  | (.inl none, h) => zx bot sc rec m is (pc + n) cl lv rest h K
  | (.inr (e, a), h) => (match zhd m pc e with
    | some hp => rec m hp false lv [.inr (.inl a)] h K
    | none => bot)
theorem zx5 (hz : zkd m i = 5) : zx bot sc rec m ((i, n) :: is) pc cl lv st h K = (match zcs (zown m) i with
    | some (y, na, _) => bif zcok m i y na st then rec y 0 true ((st.take na).reverse.map some) [] h (zbh bot sc rec m is pc n (cl && zpu y) lv (st.drop na) K) else bot
    | none => bot) := by
  simp only [zx, hz]
  rfl
theorem zx6 (hz : zkd m i = 6) : zx bot sc rec m ((i, n) :: is) pc cl lv st h K = (match st with
      | .inl y :: .inl x :: st => bif zmok h && (decide (x = nI 2) && decide (y = nI 30)) then zx bot sc rec m is (pc + n) false lv (.inr (.inl (znm h.1)) :: st) (zmul h) K else bot
      | _ => bot) := by
  simp only [zx, hz]
  rfl
theorem zx7 (hz : zkd m i = 7) : zx bot sc rec m ((i, n) :: is) pc cl lv st h K = (match zth m pc with
      | some (e, N, _) => bif cl && (Nat.ble 258 h.1 && Nat.ble (zcat st) 8) then K (.inr (e, (99, h.1, 0)), zal h N) else bot
      | none => bot) := by
  simp only [zx, hz]
  rfl
theorem zx8 {k : Nat} (hz : zkd m i = k + 8) : zx bot sc rec m ((i, n) :: is) pc cl lv st h K = bot := by
  simp only [zx, hz]
end ZX
section PICK
variable {sc : zC} {m : Nat}
def zpk (rec : Nat → Nat → Bool → zL → List zV → zS → (zR → Prop) → Prop) : Prop := ∀ m pc cl lv st h K, rec m pc cl lv st h K → ∃ r, K r ∧ ∀ K' : zR → Prop, K' r → rec m pc cl lv st h K'
theorem zbh_pick {rec : Nat → Nat → Bool → zL → List zV → zS → (zR → Prop) → Prop} (hrec : zpk rec) {is : List (Instr × Nat)} (ih : ∀ pc cl lv st h K, zx False sc rec m is pc cl lv st h K → ∃ r, K r ∧ ∀ K' : zR → Prop, K' r → zx False sc rec m is pc cl lv st h K')
    {pc n : Nat} {cl : Bool} {lv : zL} {rest : List zV} {K : zR → Prop} {r1 : zR} (hk : zbh False sc rec m is pc n cl lv rest K r1) : ∃ r, K r ∧ ∀ K' : zR → Prop, K' r → zbh False sc rec m is pc n cl lv rest K' r1 := by
  match r1, hk with
  | (.inl (some v), h), hk => exact ih _ _ _ _ _ _ hk
  | (.inl none, h), hk => exact ih _ _ _ _ _ _ hk
  | (.inr (e, a), h), hk =>
    simp only [zbh] at hk ⊢
    split at hk
    · next hp eh =>
      obtain ⟨r, h1, h2⟩ := hrec _ _ _ _ _ _ _ hk
      exact ⟨r, h1, fun K' q => h2 K' q⟩
    · exact hk.elim
theorem zx_pick {rec : Nat → Nat → Bool → zL → List zV → zS → (zR → Prop) → Prop} (hrec : zpk rec) : ∀ (is : List (Instr × Nat)) (pc : Nat) (cl : Bool) (lv : zL) (st : List zV) (h : zS) (K : zR → Prop), zx False sc rec m is pc cl lv st h K → ∃ r, K r ∧ ∀ K' : zR → Prop, K' r → zx False sc rec m is pc cl lv st h K'
  | [], pc, cl, lv, st, h, K, hk => hrec m pc cl lv st h K hk
  | (i, n) :: is, pc, cl, lv, st, h, K, hk => by
    have ih := zx_pick hrec is
    match hz : zkd m i with
    | 0 =>
      rw [zx0 hz] at hk
      obtain ⟨lv', st', h1, h2⟩ := zopA_pick hk
      obtain ⟨r, h3, h4⟩ := ih _ _ _ _ _ _ h1
      exact ⟨r, h3, fun K' q => by rw [zx0 hz]; exact h2 _ (h4 K' q)⟩
    | 1 =>
      rw [zx1 hz] at hk
      obtain ⟨st', h1, h2⟩ := zopB_pick hk
      obtain ⟨r, h3, h4⟩ := ih _ _ _ _ _ _ h1
      exact ⟨r, h3, fun K' q => by rw [zx1 hz]; exact h2 _ (h4 K' q)⟩
    | 2 =>
      rw [zx2 hz] at hk
      obtain ⟨st', h', h1, h2⟩ := zopC_pick hk
      obtain ⟨r, h3, h4⟩ := ih _ _ _ _ _ _ h1
      exact ⟨r, h3, fun K' q => by rw [zx2 hz]; exact h2 _ (h4 K' q)⟩
    | 3 =>
      rw [zx3 hz] at hk
      rcases zjp_pick hk with ⟨o, st', h1, h2⟩ | ⟨st', h1, h2⟩
      · obtain ⟨r, h3, h4⟩ := hrec _ _ _ _ _ _ _ h1
        exact ⟨r, h3, fun K' q => by rw [zx3 hz]; exact h2 _ _ (h4 K' q)⟩
      · obtain ⟨r, h3, h4⟩ := ih _ _ _ _ _ _ h1
        exact ⟨r, h3, fun K' q => by rw [zx3 hz]; exact h2 _ _ (h4 K' q)⟩
    | 4 =>
      rw [zx4 hz] at hk
      obtain ⟨v, h1, h2⟩ := zrt_pick hk
      obtain ⟨e1, h1⟩ := zbif h1
      exact ⟨_, h1, fun K' q => by rw [zx4 hz]; exact h2 _ (zbif' e1 q)⟩
    | 5 =>
      rw [zx5 hz] at hk
      match hc : zcs (zown m) i with
      | some (y, na, pl) =>
        simp only [hc] at hk
        obtain ⟨e1, hk⟩ := zbif hk
        obtain ⟨r1, h1, h2⟩ := hrec _ _ _ _ _ _ _ hk
        obtain ⟨r, h3, h4⟩ := zbh_pick hrec ih h1
        exact ⟨r, h3, fun K' q => by rw [zx5 hz]; simp only [hc]; exact zbif' e1 (h2 _ (h4 K' q))⟩
      | none =>
        simp only [hc] at hk
    | 6 =>
      rw [zx6 hz] at hk
      split at hk
      · obtain ⟨e1, hk⟩ := zbif hk
        obtain ⟨r, h3, h4⟩ := ih _ _ _ _ _ _ hk
        exact ⟨r, h3, fun K' q => by rw [zx6 hz]; exact zbif' e1 (h4 K' q)⟩
      · exact hk.elim
    | 7 =>
      rw [zx7 hz] at hk
      split at hk
      · next e N x et =>
        obtain ⟨e1, hk⟩ := zbif hk
        exact ⟨_, hk, fun K' q => by rw [zx7 hz]; simp only [et]; exact zbif' e1 q⟩
      · exact hk.elim
    | k + 8 =>
      rw [zx8 hz] at hk
      exact hk.elim
theorem zt_pick : ∀ n, zpk (zt False sc n)
  | 0 => fun _ _ _ _ _ _ _ h => h.elim
  | n + 1 => fun m pc cl lv st h K hk => zx_pick (zt_pick n) (zcode m pc) pc cl lv st h K hk
/-- more steps do as well -/
def zle (rec rec' : Nat → Nat → Bool → zL → List zV → zS → (zR → Prop) → Prop) : Prop := ∀ m pc cl lv st h K, rec m pc cl lv st h K → rec' m pc cl lv st h K
theorem zx_mono {rec rec' : Nat → Nat → Bool → zL → List zV → zS → (zR → Prop) → Prop} (hp : zpk rec) (hle : zle rec rec') : ∀ (is : List (Instr × Nat)) (pc : Nat) (cl : Bool) (lv : zL) (st : List zV) (h : zS) (K : zR → Prop), zx False sc rec m is pc cl lv st h K → zx False sc rec' m is pc cl lv st h K
  | [], pc, cl, lv, st, h, K, hk => hle m pc cl lv st h K hk
  | (i, n) :: is, pc, cl, lv, st, h, K, hk => by
    have ih := zx_mono hp hle is
    match hz : zkd m i with
    | 0 =>
      rw [zx0 hz] at hk ⊢
      obtain ⟨lv', st', h1, h2⟩ := zopA_pick hk
      exact h2 _ (ih _ _ _ _ _ _ h1)
    | 1 =>
      rw [zx1 hz] at hk ⊢
      obtain ⟨st', h1, h2⟩ := zopB_pick hk
      exact h2 _ (ih _ _ _ _ _ _ h1)
    | 2 =>
      rw [zx2 hz] at hk ⊢
      obtain ⟨st', h', h1, h2⟩ := zopC_pick hk
      exact h2 _ (ih _ _ _ _ _ _ h1)
    | 3 =>
      rw [zx3 hz] at hk ⊢
      rcases zjp_pick hk with ⟨o, st', h1, h2⟩ | ⟨st', h1, h2⟩
      · exact h2 _ _ (hle _ _ _ _ _ _ _ h1)
      · exact h2 _ _ (ih _ _ _ _ _ _ h1)
    | 4 =>
      rw [zx4 hz] at hk ⊢
      exact hk
    | 5 =>
      rw [zx5 hz] at hk ⊢
      match hc : zcs (zown m) i with
      | some (y, na, pl) =>
        simp only [hc] at hk ⊢
        obtain ⟨e1, hk⟩ := zbif hk
        obtain ⟨r1, h1, h2⟩ := hp _ _ _ _ _ _ _ hk
        refine zbif' e1 (hle _ _ _ _ _ _ _ (h2 _ ?_))
        match r1, h1 with
        | (.inl (some v), h), h1 => exact ih _ _ _ _ _ _ h1
        | (.inl none, h), h1 => exact ih _ _ _ _ _ _ h1
        | (.inr (e, a), h), h1 =>
          simp only [zbh] at h1 ⊢
          split at h1
          · exact hle _ _ _ _ _ _ _ h1
          · exact h1.elim
      | none =>
        simp only [hc] at hk
    | 6 =>
      rw [zx6 hz] at hk ⊢
      split at hk
      · obtain ⟨e1, hk⟩ := zbif hk
        exact zbif' e1 (ih _ _ _ _ _ _ hk)
      · exact hk.elim
    | 7 =>
      rw [zx7 hz] at hk ⊢
      exact hk
    | k + 8 =>
      rw [zx8 hz] at hk
      exact hk.elim
theorem zt_succ : ∀ n, zle (zt False sc n) (zt False sc (n + 1))
  | 0 => fun _ _ _ _ _ _ _ h => h.elim
  | n + 1 => fun m pc cl lv st h K hk => zx_mono (zt_pick n) (zt_succ n) (zcode m pc) pc cl lv st h K hk
theorem zt_le {n n' : Nat} (hn : n ≤ n') : zle (zt False sc n) (zt False sc n') := by
  induction hn with
  | refl => exact fun _ _ _ _ _ _ _ h => h
  | step _ ih => exact fun _ _ _ _ _ _ _ h => zt_succ _ _ _ _ _ _ _ _ (ih _ _ _ _ _ _ _ h)
/-- the machine comes to an end with K -/
def zT (sc : zC) (m pc : Nat) (cl : Bool) (lv : zL) (st : List zV) (h : zS) (K : zR → Prop) : Prop := ∃ n, zt False sc n m pc cl lv st h K
theorem zT_pick : zpk (zT sc) := fun m pc cl lv st h K ⟨n, hn⟩ => by
  obtain ⟨r, h1, h2⟩ := zt_pick n m pc cl lv st h K hn
  exact ⟨r, h1, fun K' q => ⟨n, h2 K' q⟩⟩
theorem zT_mono {m pc : Nat} {cl : Bool} {lv : zL} {st : List zV} {h : zS} {K K' : zR → Prop} (hk : zT sc m pc cl lv st h K) (hi : ∀ r, K r → K' r) : zT sc m pc cl lv st h K' := by
  obtain ⟨r, h1, h2⟩ := zT_pick _ _ _ _ _ _ _ hk
  exact h2 _ (hi r h1)
/-- a block over zT: a number of steps serves -/
theorem zx_T : ∀ (is : List (Instr × Nat)) (pc : Nat) (cl : Bool) (lv : zL) (st : List zV) (h : zS) (K : zR → Prop), zx False sc (zT sc) m is pc cl lv st h K → ∃ n, zx False sc (zt False sc n) m is pc cl lv st h K
  | [], pc, cl, lv, st, h, K, hk => hk
  | (i, n) :: is, pc, cl, lv, st, h, K, hk => by
    have ih := zx_T is
    match hz : zkd m i with
    | 0 =>
      rw [zx0 hz] at hk
      obtain ⟨lv', st', h1, h2⟩ := zopA_pick hk
      obtain ⟨N, h3⟩ := ih _ _ _ _ _ _ h1
      exact ⟨N, by rw [zx0 hz]; exact h2 _ h3⟩
    | 1 =>
      rw [zx1 hz] at hk
      obtain ⟨st', h1, h2⟩ := zopB_pick hk
      obtain ⟨N, h3⟩ := ih _ _ _ _ _ _ h1
      exact ⟨N, by rw [zx1 hz]; exact h2 _ h3⟩
    | 2 =>
      rw [zx2 hz] at hk
      obtain ⟨st', h', h1, h2⟩ := zopC_pick hk
      obtain ⟨N, h3⟩ := ih _ _ _ _ _ _ h1
      exact ⟨N, by rw [zx2 hz]; exact h2 _ h3⟩
    | 3 =>
      rw [zx3 hz] at hk
      rcases zjp_pick hk with ⟨o, st', h1, h2⟩ | ⟨st', h1, h2⟩
      · obtain ⟨N, h3⟩ := h1
        exact ⟨N, by rw [zx3 hz]; exact h2 _ _ h3⟩
      · obtain ⟨N, h3⟩ := ih _ _ _ _ _ _ h1
        exact ⟨N, by rw [zx3 hz]; exact h2 _ _ h3⟩
    | 4 =>
      rw [zx4 hz] at hk
      exact ⟨0, by rw [zx4 hz]; exact hk⟩
    | 5 =>
      rw [zx5 hz] at hk
      match hc : zcs (zown m) i with
      | some (y, na, pl) =>
        simp only [hc] at hk
        obtain ⟨e1, hk⟩ := zbif hk
        obtain ⟨r1, h1, h2⟩ := zT_pick _ _ _ _ _ _ _ hk
        have hb : ∃ N, zbh False sc (zt False sc N) m is pc n (cl && zpu y) lv (st.drop na) K r1 := by
          match r1, h1 with
          | (.inl (some v), h), h1 => exact ih _ _ _ _ _ _ h1
          | (.inl none, h), h1 => exact ih _ _ _ _ _ _ h1
          | (.inr (e, a), h), h1 =>
            simp only [zbh] at h1 ⊢
            split at h1
            · exact h1
            · exact h1.elim
        obtain ⟨N1, hb⟩ := hb
        obtain ⟨N2, h4⟩ := h2 (· = r1) rfl
        refine ⟨max N1 N2, ?_⟩
        rw [zx5 hz]
        simp only [hc]
        refine zbif' e1 ?_
        obtain ⟨r2, h5, h6⟩ := zt_pick _ _ _ _ _ _ _ _ (zt_le (Nat.le_max_right N1 N2) _ _ _ _ _ _ _ h4)
        subst h5
        refine h6 _ ?_
        match r2, hb with
        | (.inl (some v), h), hb => exact zx_mono (zt_pick N1) (zt_le (Nat.le_max_left N1 N2)) _ _ _ _ _ _ _ hb
        | (.inl none, h), hb => exact zx_mono (zt_pick N1) (zt_le (Nat.le_max_left N1 N2)) _ _ _ _ _ _ _ hb
        | (.inr (e, a), h), hb =>
          simp only [zbh] at hb ⊢
          split at hb
          · exact zt_le (Nat.le_max_left N1 N2) _ _ _ _ _ _ _ hb
          · exact hb.elim
      | none =>
        simp only [hc] at hk
    | 6 =>
      rw [zx6 hz] at hk
      split at hk
      · obtain ⟨e1, hk⟩ := zbif hk
        obtain ⟨N, h3⟩ := ih _ _ _ _ _ _ hk
        exact ⟨N, by rw [zx6 hz]; exact zbif' e1 h3⟩
      · exact hk.elim
    | 7 =>
      rw [zx7 hz] at hk
      exact ⟨0, by rw [zx7 hz]; exact hk⟩
    | k + 8 =>
      rw [zx8 hz] at hk
      exact hk.elim
theorem zT_blk {m pc : Nat} {cl : Bool} {lv : zL} {st : List zV} {h : zS} {K : zR → Prop} (is : List (Instr × Nat)) (hc : zcode m pc = is) (hk : zx False sc (zT sc) m is pc cl lv st h K) : zT sc m pc cl lv st h K := by
  subst hc
  obtain ⟨n, hn⟩ := zx_T _ _ _ _ _ _ _ hk
  exact ⟨n + 1, hn⟩
end PICK
