/-! The law: power; its loop -/
section LW3
variable {L : Nat} {xs : Nat → Int32} {c s i : Nat} {f : zM} {g : zW} {K : zR → Prop} {cl : Bool} {tl : zL}
theorem zpw {c A A' B : Prop} [Decidable c] {y : Int32} (hy : (y = nI 0 ∧ c) ∨ (y = nI 1 ∧ ¬ c)) (h : (y = nI 1 → B) ∧ (y = nI 0 → A')) (hA : A' → A) : if c then A else B := by
  rcases hy with ⟨e, q⟩ | ⟨e, q⟩
  · rw [if_pos q]; exact hA (h.2 e)
  · rw [if_neg q]; exact h.1 e
theorem J_pw {y : Int32} {tl' : zL} (hL : L ≤ 2048) (hi : i + 4 ≤ L) (hc : 258 ≤ c) (hI : zIv f) (htl : zt2 tl) (hnx : zNx L xs c s i K) (hy : (y = nI 0 ∧ xs (nI i + nI 2).toNatClampNeg = 0) ∨ (y = nI 1 ∧ ¬ xs (nI i + nI 2).toNatClampNeg = 0)) : zT (some (L, xs)) 124 185 cl (zLL i tl) [.inl y, .inl (xs (nI i + nI 1).toNatClampNeg), .inr (.inl (0, 0, 0))] (zN c s f g) K := by
  obtain ⟨N, l, α, M, Z, W, Q, hI⟩ := hI
  have e1 := zrd (L := L) (i := i) hL (k := 1) (by omega)
  have e2 := zrd (L := L) (i := i) hL (k := 2) (by omega)
  have hy01 : y = nI 0 ∨ y = nI 1 := hy.elim (fun w => Or.inl w.1) (fun w => Or.inr w.1)
  have h3 : ∀ t, t < 5 → f (3, t, 0) 4 = f (31, 0, 0) t := fun t ht => (hI.1 t ht).1.1.2.2.2.1
  -- behind both calls
  have h228 : ∀ (k b : Int32) (v : Int64) (c' s' : Nat) (f' : zM) cl, zIv f' → c ≤ c' → c' ≤ c + 1 → s' ≤ s + 6 → ((¬ k = 0) ∨ (k = nI 0 ∧ ((b = nI 0 ∧ v = Int64.ofNat 0) ∨ (b = nI 1 ∧ v = Int64.ofNat 1)))) → zT (some (L, xs)) 124 228 cl (zLL i [some (.inl k), some (.inl b)]) [] (zN c' s' f' (zup g (70, 0, 0) 0 v)) K := fun k b v c' s' f' cl hf a1 a2 a3 hk => by
    have h252 : ∀ cl, zT (some (L, xs)) 124 252 cl (zLL i [some (.inl k), some (.inl b)]) [] (zN c' s' f' (zup g (70, 0, 0) 0 v)) K := fun cl => by
      refine zb ?_
      exact hnx _ _ _ _ _ _ hf a1 a2 a3 (Or.inr (Or.inr ⟨_, _, rfl⟩))
    rcases hk with hk | ⟨rfl, ⟨rfl, rfl⟩ | ⟨rfl, rfl⟩⟩
    · refine zb ?_
      refine zin (show ¬ k = 0 from hk) ?_
      exact h252 _
    · refine zb ?_
      refine zb ?_
      refine zb ?_
      exact h252 _
    · refine zb ?_
      refine zb ?_
      exact h252 _
  have h228' : ∀ (k b : Int32) (c' s' : Nat) (f' : zM) cl, zIv f' → c ≤ c' → c' ≤ c + 1 → s' ≤ s + 6 → (¬ k = 0) → zT (some (L, xs)) 124 228 cl (zLL i [some (.inl k), some (.inl b)]) [] (zN c' s' f' g) K := fun k b c' s' f' cl hf a1 a2 a3 hk => by
    refine zb ?_
    refine zin (show ¬ k = 0 from hk) ?_
    refine zb ?_
    exact hnx _ _ _ _ _ _ hf a1 a2 a3 (Or.inr (Or.inr ⟨_, _, rfl⟩))
  -- the reference's call
  have h212 : ∀ (k : Int32) (c' s' : Nat) (f1 : zM) (g1 : zW) cl {tl : zL}, (tl = [some (.inl k)] ∨ ∃ b, tl = [some (.inl k), b]) → zT (some (L, xs)) 56 0 true [zmo, some (.inl (xs (nI i + nI 1).toNatClampNeg)), some (.inl y)] [] (zN c' s' f1 g1) (fun r => match r with
      | (.inl (some (.inl b)), h) => h.2.2.2.2.1 (30, 0, 0) 0 = k ∧ (∃ f', h = zN c' s' f' g1 ∧ ∀ cl, zT (some (L, xs)) 124 228 cl (zLL i [some (.inl k), some (.inl b)]) [] (zN c' s' f' g1) K)
      | _ => False) → zT (some (L, xs)) 124 212 cl (zLL i tl) [.inl y, .inl (xs (nI i + nI 1).toNatClampNeg), .inr (.inl (30, 0, 0))] (zN c' s' f1 g1) K := fun k c' s' f1 g1 cl tl htl h => by
    rcases htl with rfl | ⟨b0, rfl⟩
    all_goals
      refine zb ?_
      refine zT_mono h (fun r hr => ?_)
      match r, hr with
      | (.inl (some (.inl b)), hh), hr =>
        obtain ⟨q1, f', rfl, q2⟩ := hr
        refine q_thrown ?_
        refine zip (show f' (30, 0, 0) 0 = k from q1) ?_
        exact q2 _
  have h185 : ∀ (k : Int32) (c' s' : Nat) (f1 : zM) (g1 : zW) cl {tl : zL}, (tl = [some (.inl k)] ∨ ∃ b, tl = [some (.inl k), b]) → zT (some (L, xs)) 56 0 true [zmo, some (.inl (xs (nI i + nI 1).toNatClampNeg)), some (.inl y)] [] (zN c' s' f1 g1) (fun r => match r with
      | (.inl (some (.inl b)), h) => h.2.2.2.2.1 (30, 0, 0) 0 = k ∧ (∃ f', h = zN c' s' f' g1 ∧ ∀ cl, zT (some (L, xs)) 124 228 cl (zLL i [some (.inl k), some (.inl b)]) [] (zN c' s' f' g1) K)
      | _ => False) → (y = nI 1 → zT (some (L, xs)) 124 212 cl (zLL i tl) [.inl (nI 1), .inl (xs (nI i + nI 1).toNatClampNeg), .inr (.inl (30, 0, 0))] (zN c' s' f1 g1) K) ∧ (y = nI 0 → zT (some (L, xs)) 124 212 cl (zLL i tl) [.inl (nI 0), .inl (xs (nI i + nI 1).toNatClampNeg), .inr (.inl (30, 0, 0))] (zN c' s' f1 g1) K) := fun k c' s' f1 g1 cl tl htl h => by
    have := h212 k c' s' f1 g1 cl htl h
    exact ⟨fun e => by rw [e] at this; exact this, fun e => by rw [e] at this; exact this⟩
  have hy0 : y = 0 → y = nI 0 := fun w => w.trans nI_0.symm
  rcases htl with rfl | ⟨a, rfl⟩ | ⟨a, b, rfl⟩
  all_goals
    refine zb ?_
    refine h_power (l := l) (α := α) (md := fun t => nI (M t)) hc (fun t ht => (hI.1 t ht).1.2.2.2.2.2) hy01 (fun hno => ?_) (fun t ht ex hq => ?_) (fun t ht ex hs hq => ?_) (fun t f' ht ex hs hq hF hB => ?_)
    · refine zin e1 ?_
      refine zin e2 ?_
      refine zpw hy (h185 (nI 1) _ _ _ _ _ (by first | exact Or.inl rfl | exact Or.inr ⟨_, rfl⟩) ?_) (fun w => zb w)
      refine q_power hy01 (fun _ => ?_) (fun t ht ex _ => absurd (by rw [ex]; exact zter_of ht) hno) (fun t ht ex _ _ => absurd (by rw [ex]; exact zter_of ht) hno) (fun t ht ex _ _ => absurd (by rw [ex]; exact zter_of ht) hno)
      exact ⟨rfl, _, rfl, fun cl => h228' _ _ _ _ _ _ ⟨_, _, _, _, _, _, _, hI.thr⟩ (by omega) (by omega) (by omega) (by decide)⟩
    · refine zin e1 ?_
      refine zin e2 ?_
      refine zpw hy (h185 (nI 0) _ _ _ _ _ (by first | exact Or.inl rfl | exact Or.inr ⟨_, rfl⟩) ?_) (fun w => zb w)
      refine q_power hy01 (fun hno => absurd (by rw [ex]; exact zter_of ht) hno) (fun t' ht' ex' _ => ?_) (fun t' ht' ex' hs' hq' => ?_) (fun t' ht' ex' hs' hq' => ?_)
      · exact ⟨rfl, _, rfl, fun cl => h228 _ _ _ _ _ _ _ ⟨_, _, _, _, _, _, _, hI.thr⟩ (by omega) (by omega) (by omega) (Or.inr ⟨rfl, Or.inl ⟨rfl, rfl⟩⟩)⟩
      · have et : t' = t := (nI_eq (by omega) (by omega)).mp (ex'.symm.trans ex)
        subst et
        rw [h3 t' ht, if_pos hs', hq'] at hq
        exact absurd hq (by decide)
      · have et : t' = t := (nI_eq (by omega) (by omega)).mp (ex'.symm.trans ex)
        subst et
        rw [h3 t' ht, if_neg hs', hq'] at hq
        exact absurd hq (by decide)
    · have hy1 : y = nI 1 := hy01.resolve_left (fun w => hq (w.trans nI_0))
      have key := u_on hI ht
      refine zin e1 ?_
      refine zin e2 ?_
      refine zpw hy (h185 (nI 0) _ _ _ _ _ (by first | exact Or.inl rfl | exact Or.inr ⟨_, rfl⟩) ?_) (fun w => zb w)
      have e31 : zup (zup f (3, t, 0) 4 (nI 1)) (3, t, 0) 5 (nI 0) (31, 0, 0) t = f (31, 0, 0) t := (zup_nk (fun w => by cases w)).trans (zup_nk (fun w => by cases w))
      refine q_power hy01 (fun hno => absurd (by rw [ex]; exact zter_of ht) hno) (fun t' ht' ex' hq' => ?_) (fun t' ht' ex' hs' hq' => ?_) (fun t' ht' ex' hs' hq' => ?_)
      · have et : t' = t := (nI_eq (by omega) (by omega)).mp (ex'.symm.trans ex)
        subst et
        rw [e31, ← h3 t' ht, if_pos hs, hy1] at hq'
        exact absurd hq' (by decide)
      · have et : t' = t := (nI_eq (by omega) (by omega)).mp (ex'.symm.trans ex)
        subst et
        exact ⟨by show zup (zup (zup _ (30, 0, 0) 0 (nI 0)) (31, 0, 0) t' (nI 1)) (32, 0, 0) t' (nI 0) (30, 0, 0) 0 = nI 0; rw [zup_nk (by decide), zup_nk (by decide), zup_eq], _, rfl, fun cl => h228 _ _ _ _ _ _ _ ⟨_, _, _, _, _, _, _, key⟩ (by omega) (by omega) (by omega) (Or.inr ⟨rfl, Or.inr ⟨rfl, rfl⟩⟩)⟩
      · rw [hy1] at hq'
        exact absurd hq' (by decide)
    · obtain ⟨α2, key⟩ := u_off hI ht hF hB
      refine zin e1 ?_
      refine zin e2 ?_
      refine zpw hy (h185 (nI 0) _ _ _ _ _ (by first | exact Or.inl rfl | exact Or.inr ⟨_, rfl⟩) ?_) (fun w => zb w)
      have e31 : f' (31, 0, 0) t = f (31, 0, 0) t := (hF _ _ (by rintro ⟨-, w⟩; simp at w)).trans (zup_nk (fun w => by cases w))
      refine q_power hy01 (fun hno => absurd (by rw [ex]; exact zter_of ht) hno) (fun t' ht' ex' hq' => ?_) (fun t' ht' ex' hs' hq' => ?_) (fun t' ht' ex' hs' hq' => ?_)
      · have et : t' = t := (nI_eq (by omega) (by omega)).mp (ex'.symm.trans ex)
        subst et
        rw [e31, ← h3 t' ht, if_neg hs, hy0 hq] at hq'
        exact absurd hq' (by decide)
      · rw [hy0 hq] at hq'
        exact absurd hq' (by decide)
      · have et : t' = t := (nI_eq (by omega) (by omega)).mp (ex'.symm.trans ex)
        subst et
        exact ⟨by show zpo (zup (zup (zup f' (30, 0, 0) 0 (nI 0)) (31, 0, 0) t' (nI 0)) (32, 0, 0) t' (nI 0)) (366 * t') 366 (30, 0, 0) 0 = nI 0; rw [zpo_ne (by decide) (by decide), zup_nk (by decide), zup_nk (by decide), zup_eq], _, rfl, fun cl => h228 _ _ _ _ _ _ _ ⟨_, _, _, _, _, _, _, key⟩ (by omega) (by omega) (by omega) (Or.inr ⟨rfl, Or.inr ⟨rfl, rfl⟩⟩)⟩
theorem J_power (hL : L ≤ 2048) (hi : i + 4 ≤ L) (hc : 258 ≤ c) (hI : zIv f) (htl : zt2 tl) (hnx : zNx L xs c s i K) : zT (some (L, xs)) 124 164 cl (zLL i tl) [] (zN c s f g) K := by
  have e1 := zrd (L := L) (i := i) hL (k := 1) (by omega)
  have e2 := zrd (L := L) (i := i) hL (k := 2) (by omega)
  have h0 := fun ex => J_pw (cl := cl) (g := g) (y := nI 0) (tl' := []) hL hi hc hI htl hnx (Or.inl ⟨rfl, ex⟩)
  have h1 := fun ex => J_pw (cl := cl) (g := g) (y := nI 1) (tl' := []) hL hi hc hI htl hnx (Or.inr ⟨rfl, ex⟩)
  rcases htl with rfl | ⟨a, rfl⟩ | ⟨a, b, rfl⟩
  all_goals
    refine zb ?_
    refine zin e1 ?_
    refine zin e2 ?_
    refine zif (fun q => ?_) (fun q => ?_)
    · refine zb ?_
      exact h0 q
    · exact h1 q
end LW3
