/-! How the pure heap stands to the machine's heap -/
def zad (b sa : Nat) (a : zA) : Nat := if a.1 = 98 then sa else b + znum a
def zvl (b sa : Nat) : zV → Value
  | .inl x => .int x
  | .inr (.inl a) => .ref (zad b sa a)
  | .inr (.inr w) => .long w
/-- a slot's kind: 0 int, 1 boolean, 2 reference, 3 long -/
def zsk (t k : Nat) : Nat := bif Nat.blt t 20 then zfk t k else bif Nat.beq t 22 then 3 else bif zisR t then 2 else 0
def zsv (b sa : Nat) (h : zS) (a : zA) (k : Nat) : Value := if zsk (zc a.1) k = 2 then (bif h.2.2.2.1 a k then .ref (zad b sa (zrf a k (h.2.2.2.2.1 a k))) else .null) else if zsk (zc a.1) k = 3 then .long (h.2.2.2.2.2 a k) else .int (h.2.2.2.2.1 a k)
/-- a name that stands -/
def zlv (n : Nat) (a : zA) : Prop := a.1 < 90 ∧ znm (znum a) = a ∧ znum a < n
def zvk (n : Nat) : zV → Prop
  | .inr (.inl a) => zlv n a ∨ 90 ≤ a.1
  | _ => True
def zst (n : Nat) (st : List zV) : Prop := ∀ v ∈ st, zvk n v
theorem zst_n {n : Nat} : zst n [] := fun _ h => by cases h
theorem zst_t {n : Nat} {v : zV} {st : List zV} (h : zst n (v :: st)) : zst n st := fun w hw => h w (List.mem_cons_of_mem _ hw)
theorem zst_h {n : Nat} {v : zV} {st : List zV} (h : zst n (v :: st)) : zvk n v := h v List.mem_cons_self
theorem zst_c {n : Nat} {v : zV} {st : List zV} (hv : zvk n v) (h : zst n st) : zst n (v :: st) := fun w hw => by
  rcases List.mem_cons.mp hw with e | e
  · rw [e]; exact hv
  · exact h w e
theorem zst_i {n : Nat} {x : Int32} {st : List zV} (h : zst n st) : zst n (.inl x :: st) := zst_c trivial h
theorem zst_l {n : Nat} {x : Int64} {st : List zV} (h : zst n st) : zst n (.inr (.inr x) :: st) := zst_c trivial h
theorem zlv_up {n n' : Nat} {a : zA} (hn : n ≤ n') (h : zlv n a) : zlv n' a := ⟨h.1, h.2.1, Nat.lt_of_lt_of_le h.2.2 hn⟩
theorem zvk_up {n n' : Nat} {v : zV} (hn : n ≤ n') (h : zvk n v) : zvk n' v := by
  match v, h with
  | .inl _, _ => exact trivial
  | .inr (.inr _), _ => exact trivial
  | .inr (.inl a), h => exact h.elim (fun q => Or.inl (zlv_up hn q)) Or.inr
theorem zst_up {n n' : Nat} {st : List zV} (hn : n ≤ n') (h : zst n st) : zst n' st := fun v hv => zvk_up hn (h v hv)
theorem zlv_inj {n : Nat} {a a' : zA} (h : zlv n a) (h' : zlv n a') (e : znum a = znum a') : a = a' := by
  rw [← h.2.1, ← h'.2.1, e]
theorem zad_lv {n b sa : Nat} {a : zA} (h : zlv n a) : zad b sa a = b + znum a := if_neg (by have := h.1; omega)
def zce (b sa : Nat) (D : va_G) (G : Nat → ClassId) (h : zS) (a : zA) (H : Heap) : Prop :=
  if zc a.1 < 20 then t_OB (b + znum a) (D.1 (zc a.1)) (zn a.1) (D.2 (zc a.1)) H (zsv b sa h a) else H[b + znum a]? = some (arrV (G (zc a.1)) (zn a.1) (zsv b sa h a))
theorem zce.kept {b sa : Nat} {D : va_G} {G : Nat → ClassId} {h h' : zS} {a : zA} {H H' : Heap} (hc : zce b sa D G h a H) (hq : H'[b + znum a]? = H[b + znum a]?) (hs : ∀ k, k < zn a.1 → zsv b sa h' a k = zsv b sa h a k) : zce b sa D G h' a H' := by
  unfold zce at hc ⊢
  split
  · next ht =>
    rw [if_pos ht] at hc
    exact (hc.kept hq).to (fun k hk => (hs k hk).symm)
  · next ht =>
    rw [if_neg ht] at hc
    rw [hq, hc]
    congr 1
    unfold arrV
    congr 2
    funext j
    exact (hs j.val j.isLt).symm
/-- the references of standing cells lead to standing cells -/
def zcls (h : zS) : Prop := ∀ a, zlv h.1 a → ∀ k, k < zn a.1 → zsk (zc a.1) k = 2 → h.2.2.2.1 a k = true → zlv h.1 (zrf a k (h.2.2.2.2.1 a k))
def znew (h : zS) : Prop := h.2.2.1 = false → ∀ a, ¬ zlv h.1 a → ∀ k, h.2.2.2.1 a k = false ∧ h.2.2.2.2.1 a k = 0 ∧ h.2.2.2.2.2 a k = 0
def zP (b sa : Nat) (D : va_G) (G : Nat → ClassId) (h : zS) (H : Heap) : Prop :=
  H.size = b + h.1 ∧ sa < b ∧ (∀ a, zlv h.1 a → zce b sa D G h a H) ∧ zcls h ∧ znew h
/-- one slot of one cell is written: the machine's heap changes there alone -/
theorem zP.put {b sa : Nat} {D : va_G} {G : Nat → ClassId} {h h' : zS} {H H' : Heap} {a : zA} (hP : zP b sa D G h H) (ha : zlv h.1 a) (e1 : h'.1 = h.1) (e2 : h'.2.2.1 = h.2.2.1)
    (hz : H'.size = H.size) (ho : ∀ q : Nat, q ≠ b + znum a → H'[q]? = H[q]?) (hs : ∀ x, x ≠ a → ∀ k, h'.2.2.2.1 x k = h.2.2.2.1 x k ∧ h'.2.2.2.2.1 x k = h.2.2.2.2.1 x k ∧ h'.2.2.2.2.2 x k = h.2.2.2.2.2 x k)
    (hc : zce b sa D G h' a H') (hcl : ∀ k, k < zn a.1 → zsk (zc a.1) k = 2 → h'.2.2.2.1 a k = true → zlv h.1 (zrf a k (h'.2.2.2.2.1 a k))) : zP b sa D G h' H' := by
  obtain ⟨p1, p2, p3, p4, p5⟩ := hP
  refine ⟨by rw [hz, e1]; exact p1, p2, fun x hx => ?_, fun x hx k hk hr hn => ?_, fun hb x hx k => ?_⟩
  · rw [e1] at hx
    by_cases hxa : x = a
    · subst hxa; exact hc
    · refine (p3 x hx).kept (ho _ (fun e => hxa (zlv_inj hx ha (by omega)))) (fun k _ => ?_)
      obtain ⟨s1, s2, s3⟩ := hs x hxa k
      unfold zsv
      rw [s1, s2, s3]
  · rw [e1] at hx ⊢
    by_cases hxa : x = a
    · subst hxa; exact hcl k hk hr hn
    · obtain ⟨s1, s2, s3⟩ := hs x hxa k
      rw [s1] at hn
      rw [s2]
      exact p4 x hx k hk hr hn
  · rw [e1] at hx
    rw [e2] at hb
    have hxa : x ≠ a := fun e => hx (by rw [e]; exact ha)
    obtain ⟨s1, s2, s3⟩ := hs x hxa k
    rw [s1, s2, s3]
    exact p5 hb x hx k
theorem znum_ne {a : zA} {n : Nat} (h : zlv n a) : znum a ≠ n := Nat.ne_of_lt h.2.2
/-- a new cell, with the default values -/
theorem zP.push {b sa : Nat} {D : va_G} {G : Nat → ClassId} {h : zS} {H H' : Heap} {N : Nat} (hP : zP b sa D G h H) (hb : h.2.2.1 = false) (hnum : znum (znm h.1) = h.1) (hlt : (znm h.1).1 < 90)
    (hz : H'.size = H.size + 1) (ho : ∀ q : Nat, q < H.size → H'[q]? = H[q]?) (hc : zce b sa D G h (znm h.1) H') : zP b sa D G (zal h N) H' ∧ zlv (h.1 + 1) (znm h.1) := by
  obtain ⟨p1, p2, p3, p4, p5⟩ := hP
  have hnl : ¬ zlv h.1 (znm h.1) := fun q => znum_ne q hnum
  have hcase : ∀ x, zlv (h.1 + 1) x → zlv h.1 x ∨ x = znm h.1 := fun x hx => by
    by_cases hq : znum x < h.1
    · exact Or.inl ⟨hx.1, hx.2.1, hq⟩
    · have h3 : znum x = h.1 := by have := hx.2.2; omega
      exact Or.inr (by rw [← hx.2.1, h3])
  have hnew : zlv (h.1 + 1) (znm h.1) := ⟨hlt, by rw [hnum], by omega⟩
  refine ⟨⟨by show H'.size = b + (h.1 + 1); omega, p2, fun x hx => ?_, fun x hx k hk hr hn => ?_, fun hb' x hx k => ?_⟩, hnew⟩
  · rcases hcase x hx with hx' | hx'
    · exact (p3 x hx').kept (ho _ (by have := hx'.2.2; omega)) (fun _ _ => rfl)
    · rw [hx']; exact hc
  · rcases hcase x hx with hx' | hx'
    · exact zlv_up (Nat.le_succ _) (p4 x hx' k hk hr hn)
    · exfalso
      have h0 : h.2.2.2.1 x k = true := hn
      rw [hx', (p5 hb (znm h.1) hnl k).1] at h0
      cases h0
  · exact p5 hb x (fun q => hx (zlv_up (Nat.le_succ _) q)) k
/-- a new cell of which nothing is known (an exception) -/
theorem zP.hole {b sa : Nat} {D : va_G} {G : Nat → ClassId} {h : zS} {H H' : Heap} {N : Nat} (hP : zP b sa D G h H) (hb : ¬ (znm h.1).1 < 90) (hz : H'.size = H.size + 1) (ho : ∀ q : Nat, q < H.size → H'[q]? = H[q]?) : zP b sa D G (zal h N) H' := by
  obtain ⟨p1, p2, p3, p4, p5⟩ := hP
  have hcase : ∀ x, zlv (h.1 + 1) x → zlv h.1 x := fun x hx => by
    by_cases hq : znum x < h.1
    · exact ⟨hx.1, hx.2.1, hq⟩
    · have h3 : znum x = h.1 := by have := hx.2.2; omega
      exact absurd (by rw [← h3, hx.2.1]; exact hx.1) hb
  refine ⟨by show H'.size = b + (h.1 + 1); omega, p2, fun x hx => ?_, fun x hx k hk hr hn => zlv_up (Nat.le_succ _) (p4 x (hcase x hx) k hk hr hn), fun hb' x hx k => p5 hb' x (fun q => hx (zlv_up (Nat.le_succ _) q)) k⟩
  exact (p3 x (hcase x hx)).kept (ho _ (by have := (hcase x hx).2.2; omega)) (fun _ _ => rfl)
/-! locals -/
def zlo (b sa n : Nat) (ls : Array Slot) (nL : Nat) (lv : zL) : Prop := ls.size = nL ∧ lv_wf ls ∧ ∀ j v, zget lv j = some v → ls[j]? = some (.val (zvl b sa v)) ∧ (zvl b sa v).category = 1 ∧ zvk n v
def zpl (b sa : Nat) : Nat → zL → List (Nat × Value)
  | _, [] => []
  | i, none :: l => zpl b sa (i + 1) l
  | i, some v :: l => (i, zvl b sa v) :: zpl b sa (i + 1) l
theorem zpl_of {b sa : Nat} : ∀ (lv : zL) (i : Nat) (q : Nat × Value), q ∈ zpl b sa i lv → ∃ j v, zget lv j = some v ∧ q = (i + j, zvl b sa v)
  | [], _, _, h => by cases h
  | none :: l, i, q, h => by
    obtain ⟨j, v, h1, h2⟩ := zpl_of l (i + 1) q h
    exact ⟨j + 1, v, h1, by rw [h2]; congr 1; omega⟩
  | some w :: l, i, q, h => by
    rcases List.mem_cons.mp h with h | h
    · exact ⟨0, w, rfl, h⟩
    · obtain ⟨j, v, h1, h2⟩ := zpl_of l (i + 1) q h
      exact ⟨j + 1, v, h1, by rw [h2]; congr 1; omega⟩
theorem zpl_in {b sa : Nat} : ∀ (lv : zL) (i j : Nat) (v : zV), zget lv j = some v → (i + j, zvl b sa v) ∈ zpl b sa i lv
  | [], _, _, _, h => by cases h
  | none :: l, i, 0, v, h => by cases h
  | none :: l, i, j + 1, v, h => by
    have := zpl_in (b := b) (sa := sa) l (i + 1) j v h
    rw [show i + 1 + j = i + (j + 1) by omega] at this
    exact this
  | some w :: l, i, 0, v, h => by
    cases h
    exact List.mem_cons_self
  | some w :: l, i, j + 1, v, h => by
    have := zpl_in (b := b) (sa := sa) l (i + 1) j v h
    rw [show i + 1 + j = i + (j + 1) by omega] at this
    exact List.mem_cons_of_mem _ this
theorem zget_set : ∀ (lv : zL) (i : Nat) (v : zV) (j : Nat), zget (zset lv i v) j = if j = i then some v else zget lv j
  | [], 0, v, 0 => rfl
  | [], 0, v, j + 1 => rfl
  | [], i + 1, v, 0 => rfl
  | [], i + 1, v, j + 1 => by
    have := zget_set [] i v j
    simp only [zset, zget] at this ⊢
    rw [this]
    simp
  | x :: l, 0, v, 0 => rfl
  | x :: l, 0, v, j + 1 => rfl
  | x :: l, i + 1, v, 0 => rfl
  | x :: l, i + 1, v, j + 1 => by
    have := zget_set l i v j
    simp only [zset, zget]
    rw [this]
    simp
theorem zlo.has {b sa n : Nat} {ls : Array Slot} {nL : Nat} {lv : zL} (h : zlo b sa n ls nL lv) : lv_has ls nL (zpl b sa 0 lv) := by
  refine ⟨h.1, h.2.1, fun q hq => ?_⟩
  obtain ⟨j, v, h1, h2⟩ := zpl_of lv 0 q hq
  rw [h2]
  simp only [Nat.zero_add]
  exact (h.2.2 j v h1).1
theorem zlo.put {b sa n : Nat} {ls ls' : Array Slot} {nL i : Nat} {lv : zL} {v : zV} (h : zlo b sa n ls nL lv) (hc : (zvl b sa v).category = 1) (hv : zvk n v)
    (h' : lv_has ls' nL ((i, zvl b sa v) :: (zpl b sa 0 lv).filter (fun q => !(q.1 == i) && !(q.1 + 1 == i && q.2.category == 2)))) : zlo b sa n ls' nL (zset lv i v) := by
  refine ⟨h'.1, h'.2.1, fun j w hj => ?_⟩
  rw [zget_set] at hj
  by_cases hji : j = i
  · rw [if_pos hji] at hj
    cases hj
    rw [hji]
    exact ⟨h'.2.2 (i, zvl b sa v) List.mem_cons_self, hc, hv⟩
  · rw [if_neg hji] at hj
    have h1 := h.2.2 j w hj
    have h2 := zpl_in (b := b) (sa := sa) lv 0 j w hj
    rw [Nat.zero_add] at h2
    refine ⟨h'.2.2 (j, zvl b sa w) (List.mem_cons_of_mem _ (List.mem_filter.mpr ⟨h2, ?_⟩)), h1.2.1, h1.2.2⟩
    simp [hji, h1.2.1]
theorem zlo.up {b sa n n' : Nat} {ls : Array Slot} {nL : Nat} {lv : zL} (hn : n ≤ n') (h : zlo b sa n ls nL lv) : zlo b sa n' ls nL lv := ⟨h.1, h.2.1, fun j v hj => ⟨(h.2.2 j v hj).1, (h.2.2 j v hj).2.1, zvk_up hn (h.2.2 j v hj).2.2⟩⟩
theorem zcat1 {b sa : Nat} {v : zV} (hv : ∀ w, v ≠ .inr (.inr w)) : (zvl b sa v).category = 1 := by
  match v, hv with
  | .inl _, _ => rfl
  | .inr (.inl _), _ => rfl
  | .inr (.inr w), hv => exact absurd rfl (hv w)
theorem zcat_sum {b sa : Nat} (st : List zV) : ((st.map (zvl b sa)).map fun v => v.category).sum = zcat st := by
  induction st with
  | nil => rfl
  | cons v st ih =>
    rw [List.map_cons, List.map_cons, List.sum_cons, ih]
    match v with
    | .inl x => rfl
    | .inr (.inl a) => rfl
    | .inr (.inr w) => rfl
