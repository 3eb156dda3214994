/-! Rows that write the heap, read arrays, make cells -/
section ROWS2
variable {p : Program} {l : Launch} {e : Env} {R : Room} {s : State} {m : MethodId} {args : Array Value} {below : List Frame} {meth : Method} {c : Code} {Q : State → Prop}
variable {b sa : Nat} {D : va_G} {G : Nat → ClassId} {sc : zC} {n0 s0 μ : Nat} {cl : Bool} {h : zS} {pc : Nat} {lv : zL} {st : List zV}
/-- h' is h but for slot f of a, which holds v -/
def zwrote (b sa : Nat) (h h' : zS) (a : zA) (f : Nat) (v : zV) : Prop := h'.1 = h.1 ∧ h'.2.1 = h.2.1 ∧ h'.2.2.1 = h.2.2.1 ∧
  (∀ x, x ≠ a → ∀ k, h'.2.2.2.1 x k = h.2.2.2.1 x k ∧ h'.2.2.2.2.1 x k = h.2.2.2.2.1 x k ∧ h'.2.2.2.2.2 x k = h.2.2.2.2.2 x k) ∧
  (∀ k, zsv b sa h' a k = if k = f then zvl b sa v else zsv b sa h a k) ∧
  (zcls h → zlv h.1 a → zvk h.1 v → ∀ k, k < zn a.1 → zsk (zc a.1) k = 2 → h'.2.2.2.1 a k = true → zlv h.1 (zrf a k (h'.2.2.2.2.1 a k)))
theorem zwrote_i {a : zA} {f : Nat} {x : Int32} (hk : zsk (zc a.1) f = 0 ∨ zsk (zc a.1) f = 1) : zwrote b sa h (zwi h a f x) a f (.inl x) := by
  refine ⟨rfl, rfl, rfl, fun y hy k => ⟨rfl, (zup_at _ _ _ _ _ _).trans (if_neg (fun q => hy q.1)), rfl⟩, fun k => ?_, fun hcl ha _ k hk1 hk2 hk3 => ?_⟩
  · unfold zsv
    by_cases hkf : k = f
    · subst hkf
      rw [if_pos rfl, if_neg (by omega), if_neg (by omega)]
      show Value.int (zup _ a k x a k) = _
      rw [zup_at, if_pos ⟨rfl, rfl⟩]
      rfl
    · rw [if_neg hkf]
      have e : (zwi h a f x).2.2.2.2.1 a k = h.2.2.2.2.1 a k := (zup_at _ _ _ _ _ _).trans (if_neg (fun q => hkf q.2))
      rw [e]
      rfl
  · have hkf : k ≠ f := fun q => by rw [q] at hk2; omega
    have e : (zwi h a f x).2.2.2.2.1 a k = h.2.2.2.2.1 a k := (zup_at _ _ _ _ _ _).trans (if_neg (fun q => hkf q.2))
    rw [e]
    exact hcl a ha k hk1 hk2 hk3
theorem zwrote_l {a : zA} {f : Nat} {x : Int64} (hk : ∀ k, zsk (zc a.1) k = 3) : zwrote b sa h (zwl h a f x) a f (.inr (.inr x)) := by
  refine ⟨rfl, rfl, rfl, fun y hy k => ⟨rfl, rfl, (zup_at _ _ _ _ _ _).trans (if_neg (fun q => hy q.1))⟩, fun k => ?_, fun hcl ha _ k hk1 hk2 hk3 => by rw [hk k] at hk2; omega⟩
  have key : ∀ g : zS, zsv b sa g a k = .long (g.2.2.2.2.2 a k) := fun g => by
    unfold zsv
    rw [hk k, if_neg (by decide), if_pos rfl]
  rw [key, key]
  show Value.long (zup h.2.2.2.2.2 a f x a k) = if k = f then Value.long x else _
  rw [zup_at]
  by_cases hkf : k = f
  · rw [if_pos ⟨rfl, hkf⟩, if_pos hkf]
  · rw [if_neg (fun q => hkf q.2), if_neg hkf]
theorem zwrote_r {a y : zA} {f : Nat} (hk : zsk (zc a.1) f = 2) (hy : zrf a f (zcd a f y) = y) (h90 : y.1 < 90) : zwrote b sa h (zwr h a f (zcd a f y)) a f (.inr (.inl y)) := by
  have hn : ∀ x k, (zwr h a f (zcd a f y)).2.2.2.1 x k = if x = a ∧ k = f then true else h.2.2.2.1 x k := by
    intro x k
    show (bif h.2.2.2.1 a f then h.2.2.2.1 else zup h.2.2.2.1 a f true) x k = _
    cases hb : h.2.2.2.1 a f with
    | false => exact zup_at _ _ _ _ _ _
    | true =>
      show h.2.2.2.1 x k = _
      split
      · next q => rw [q.1, q.2, hb]
      · rfl
  refine ⟨rfl, rfl, rfl, fun x hx k => ⟨?_, (zup_at _ _ _ _ _ _).trans (if_neg (fun q => hx q.1)), rfl⟩, fun k => ?_, fun hcl ha hv k hk1 hk2 hk3 => ?_⟩
  · rw [hn, if_neg (fun q => hx q.1)]
  · by_cases hkf : k = f
    · subst hkf
      have e1 : (zwr h a k (zcd a k y)).2.2.2.1 a k = true := by rw [hn, if_pos ⟨rfl, rfl⟩]
      have e2 : (zwr h a k (zcd a k y)).2.2.2.2.1 a k = zcd a k y := (zup_at _ _ _ _ _ _).trans (if_pos ⟨rfl, rfl⟩)
      unfold zsv
      rw [if_pos hk, e1, e2, hy, if_pos rfl]
      rfl
    · have e1 : (zwr h a f (zcd a f y)).2.2.2.1 a k = h.2.2.2.1 a k := by rw [hn, if_neg (fun q => hkf q.2)]
      have e2 : (zwr h a f (zcd a f y)).2.2.2.2.1 a k = h.2.2.2.2.1 a k := (zup_at _ _ _ _ _ _).trans (if_neg (fun q => hkf q.2))
      have e3 : (zwr h a f (zcd a f y)).2.2.2.2.2 a k = h.2.2.2.2.2 a k := rfl
      rw [if_neg hkf]
      unfold zsv
      rw [e1, e2, e3]
  · by_cases hkf : k = f
    · subst hkf
      have e : (zwr h a k (zcd a k y)).2.2.2.2.1 a k = zcd a k y := (zup_at _ _ _ _ _ _).trans (if_pos ⟨rfl, rfl⟩)
      rw [e, hy]
      rcases hv with q | q
      · exact q
      · omega
    · have e : (zwr h a f (zcd a f y)).2.2.2.2.1 a k = h.2.2.2.2.1 a k := (zup_at _ _ _ _ _ _).trans (if_neg (fun q => hkf q.2))
      rw [hn, if_neg (fun q => hkf q.2)] at hk3
      rw [e]
      exact hcl a ha k hk1 hk2 hk3
theorem zwrote.P {h' : zS} {a : zA} {f : Nat} {v : zV} {H H' : Heap} (w : zwrote b sa h h' a f v) (hP : zP b sa D G h H) (ha : zlv h.1 a) (hv : zvk h.1 v) (hz : H'.size = H.size) (ho : ∀ q : Nat, q ≠ b + znum a → H'[q]? = H[q]?) (hc : zce b sa D G h' a H') : zP b sa D G h' H' :=
  hP.put ha w.1 w.2.2.1 hz ho w.2.2.2.1 hc (w.2.2.2.2.2 hP.2.2.2.1 ha hv)
theorem z_putF (X : zX p R s m args meth c μ b sa D G sc) {a : zA} {j ci f : Nat} {v : zV} {h' : zS} {pl : Nat} (hf : zft (zown μ) j = some (ci, f, pl)) (hc : zc a.1 = ci) (hfin : zfin ci f = false ∨ (zini μ = true ∧ ci = zown μ)) (hnar : narrow (zty ci f) (zvl b sa v) = zvl b sa v) (hfit : fits (zty ci f) (zvl b sa v) = true)
    (w : zwrote b sa h h' a f v) (d : decode (zby μ) pc = .ok (.putfield j, 3)) (k : zq p l e R s m args below meth c b sa D G n0 s0 μ Q false h' (pc + 3) lv (st)) : zq p l e R s m args below meth c b sa D G n0 s0 μ Q cl h (pc) lv (v :: .inr (.inl a) :: st) := by
  intro H locs ls h1 h2 h3 h4
  obtain ⟨f1, f2, f3⟩ := zF_ft hf
  have ha := z_cell (zst_h (zst_t h4)) (by omega)
  have hcell := h1.2.2.1 a ha
  unfold zce at hcell
  rw [if_pos (by omega)] at hcell
  rw [hc] at hcell
  obtain ⟨cell, q1, q2, q3, q4⟩ := hcell
  have hK := X.2.2.2.2.2.1
  obtain ⟨hS, hfc, kC, hkC, hkind⟩ := hK.1 ci _ (zF_cl f1)
  obtain ⟨cf, kf, fi, fd, hi, hsl⟩ := hS f f2
  have hap := va_apart (own := zcn (zown μ)) X.2.2.2.2.1 (zF_ws f1) (zty ci) (fun k hk => zF_ty f1 hk) (zF_nm f1) hK (zF_cl f1)
  have hN : zn a.1 = (zTb ci).2.2 := by rw [← hc]; exact zF_n (by omega)
  have hst := (u_facts hfc hkC (u_lays X.2.2.2.2.1 (zF_ws f1) f2) hi).1
  have hd := zF_dec f1 f2
  have hcont : ∀ H' : Heap, H'[b + znum a]? = some (cell.setSlot fd.slot (zvl b sa v)) → H'.size = H.size → (∀ q, q ≠ b + znum a → H'[q]? = H[q]?) → W p l e R s m args below meth c H' (locs ++ [⟨b + znum a, fd.slot⟩]) (h.1 - n0) (h.2.1 - s0) Q (F0 m (pc + 3) ls (st.map (zvl b sa))) := by
    intro H' e1 e2 e3
    have hw := k H' (locs ++ [⟨b + znum a, fd.slot⟩]) ls (w.P h1 ha (zst_h h4) e2 e3 ?_) ⟨h2.1.put e2 e3 (Nat.le_add_right _ _), fun q => by cases q⟩ (by rw [w.1]; exact h3) (by rw [w.1]; exact zst_t (zst_t h4))
    · rw [w.1, w.2.1] at hw
      exact hw
    · unfold zce
      rw [if_pos (by omega), hc]
      rw [hsl] at e1
      exact t_OB.to (V := updV (zsv b sa h a) f (zvl b sa v)) ⟨_, e1, q2, q3, t_set q4 (by rw [hN]; exact hap) (by omega) _⟩ (fun i _ => (w.2.2.2.2.1 i).symm)
  show W p l e R s m args below meth c H locs (h.1 - n0) (h.2.1 - s0) Q (F0 m pc ls (zvl b sa v :: .ref (zad b sa a) :: st.map (zvl b sa)))
  rw [zad_lv ha]
  have hlay := X.2.2.2.2.1 _ (zF_ws f1 _ (u_in_lay f2))
  have hh := k2_hasslot (q4 f (by omega))
  cases hz : ((zTb ci).2.1 f).2.2.2 with
  | false =>
    unfold u_lay at hlay
    rw [if_neg (by rw [hz]; decide)] at hlay
    have h6 := u_store hfc hkC hkind hlay hi (zF_ty f1 f2) hnar hfit
    exact W.putK X.1 X.2.1 (f := fd) ⟨X.2.2.2.1, X.2.2.2.2.1 _ f3, ⟨_, _, _, by rw [← hd]; exact hi⟩, hst⟩ (by rw [q2]; exact h6) q1 q3 (by rw [hsl]; exact hh) rfl rfl d hcont
  | true =>
    have hz2 : zini μ = true ∧ ci = zown μ := by
      rcases hfin with q | q
      · rw [zF_fin f1 f2, hz] at q; cases q
      · exact q
    unfold u_lay at hlay
    rw [if_pos hz] at hlay
    have hcf : m.cls = cf := by
      obtain ⟨_, _, c', _, _, _, -, -, hf', -, -, -, hown2, -⟩ := Cond.laysFinal_spec hlay
      have e1 : c' = cf := by have := hi.symm.trans hf'; simp at this; exact this.1.symm
      rw [hd, hz2.2] at hown2
      rw [← e1]; exact Option.some.inj (X.2.2.2.1.symm.trans hown2)
    have h6 := u_fits hfc hkC hkind (Or.inr hlay) hi (zF_ty f1 f2) hnar hfit
    exact W.putFinK X.1 X.2.1 X.2.2.2.1 (X.2.2.2.2.1 _ f3) (by rw [← hd]; exact hi) hst hcf (X.2.2.2.2.2.2.2.2.1 hz2.1) (by rw [q2]; exact h6) q1 q3 (by rw [hsl]; exact hh) rfl rfl d hcont
theorem zin_lt {x : Int32} {n : Nat} (hx : ¬ (x < 0 ∨ n ≤ x.toNatClampNeg)) : x.toNatClampNeg < n := Nat.not_le.mp fun q => hx (Or.inr q)
theorem z_arr {a : zA} {H : Heap} (h1 : zP b sa D G h H) (ha : zlv h.1 a) (hc : ¬ zc a.1 < 20) : H[b + znum a]? = some (arrV (G (zc a.1)) (zn a.1) (zsv b sa h a)) := by
  have := h1.2.2.1 a ha
  unfold zce at this
  rw [if_neg hc] at this
  exact this
theorem z_iald (X : zX p R s m args meth c μ b sa D G sc) {a : zA} {x : Int32} (hc : zc a.1 = 20) (hx : ¬ (x < 0 ∨ zn a.1 ≤ x.toNatClampNeg)) (d : decode (zby μ) pc = .ok (.iaload, 1)) (k : zq p l e R s m args below meth c b sa D G n0 s0 μ Q cl h (pc + 1) lv (.inl (h.2.2.2.2.1 a x.toNatClampNeg) :: st)) : zq p l e R s m args below meth c b sa D G n0 s0 μ Q cl h (pc) lv (.inl x :: .inr (.inl a) :: st) := by
  intro H locs ls h1 h2 h3 h4
  have ha := z_cell (zst_h (zst_t h4)) (by omega)
  have hcell := z_arr h1 ha (by omega)
  show W p l e R s m args below meth c H locs (h.1 - n0) (h.2.1 - s0) Q (F0 m pc ls (.int x :: .ref (zad b sa a) :: st.map (zvl b sa)))
  rw [zad_lv ha]
  rw [hc] at hcell
  refine W.iald (v := zvl b sa (.inl (h.2.2.2.2.1 a x.toNatClampNeg))) X.1 X.2.1 hcell ((X.2.2.2.2.2.1.2 0 _ rfl).1 _ _) (fun q => by cases q) (by rw [arrV_size]; exact hx) ?_ rfl rfl d (k H locs ls h1 h2 h3 (zst_i (zst_t (zst_t h4))))
  rw [arrV_read _ _ (zin_lt hx)]
  unfold zsv
  rw [hc]
  rfl
theorem z_bald (X : zX p R s m args meth c μ b sa D G sc) {a : zA} {x : Int32} (hc : zc a.1 = 21) (hx : ¬ (x < 0 ∨ zn a.1 ≤ x.toNatClampNeg)) (d : decode (zby μ) pc = .ok (.baload, 1)) (k : zq p l e R s m args below meth c b sa D G n0 s0 μ Q cl h (pc + 1) lv (.inl (h.2.2.2.2.1 a x.toNatClampNeg) :: st)) : zq p l e R s m args below meth c b sa D G n0 s0 μ Q cl h (pc) lv (.inl x :: .inr (.inl a) :: st) := by
  intro H locs ls h1 h2 h3 h4
  have ha := z_cell (zst_h (zst_t h4)) (by omega)
  have hcell := z_arr h1 ha (by omega)
  show W p l e R s m args below meth c H locs (h.1 - n0) (h.2.1 - s0) Q (F0 m pc ls (.int x :: .ref (zad b sa a) :: st.map (zvl b sa)))
  rw [zad_lv ha]
  rw [hc] at hcell
  refine W.zald (v := zvl b sa (.inl (h.2.2.2.2.1 a x.toNatClampNeg))) X.1 X.2.1 hcell ((X.2.2.2.2.2.1.2 1 _ rfl).1 _ _) (fun q => by cases q) (by rw [arrV_size]; exact hx) ?_ rfl rfl d (k H locs ls h1 h2 h3 (zst_i (zst_t (zst_t h4))))
  rw [arrV_read _ _ (zin_lt hx)]
  unfold zsv
  rw [hc]
  rfl
theorem z_lald (X : zX p R s m args meth c μ b sa D G sc) {a : zA} {x : Int32} (hc : zc a.1 = 22) (hx : ¬ (x < 0 ∨ zn a.1 ≤ x.toNatClampNeg)) (d : decode (zby μ) pc = .ok (.laload, 1)) (k : zq p l e R s m args below meth c b sa D G n0 s0 μ Q cl h (pc + 1) lv (.inr (.inr (h.2.2.2.2.2 a x.toNatClampNeg)) :: st)) : zq p l e R s m args below meth c b sa D G n0 s0 μ Q cl h (pc) lv (.inl x :: .inr (.inl a) :: st) := by
  intro H locs ls h1 h2 h3 h4
  have ha := z_cell (zst_h (zst_t h4)) (by omega)
  have hcell := z_arr h1 ha (by omega)
  show W p l e R s m args below meth c H locs (h.1 - n0) (h.2.1 - s0) Q (F0 m pc ls (.int x :: .ref (zad b sa a) :: st.map (zvl b sa)))
  rw [zad_lv ha]
  rw [hc] at hcell
  refine W.lald (v := zvl b sa (.inr (.inr (h.2.2.2.2.2 a x.toNatClampNeg)))) X.1 X.2.1 hcell ((X.2.2.2.2.2.1.2 2 _ rfl).1 _ _) (fun q => by cases q) (by rw [arrV_size]; exact hx) ?_ rfl rfl d (k H locs ls h1 h2 h3 (zst_l (zst_t (zst_t h4))))
  rw [arrV_read _ _ (zin_lt hx)]
  unfold zsv
  rw [hc]
  rfl
theorem z_sld (X : zX p R s m args meth c μ b sa D G sc) {L : Nat} {xs : Nat → Int32} {a : zA} {x : Int32} (hs : sc = some (L, xs)) (hc : a.1 = 98) (hx : ¬ (x < 0 ∨ L ≤ x.toNatClampNeg)) (d : decode (zby μ) pc = .ok (.iaload, 1)) (k : zq p l e R s m args below meth c b sa D G n0 s0 μ Q cl h (pc + 1) lv (.inl (xs x.toNatClampNeg) :: st)) : zq p l e R s m args below meth c b sa D G n0 s0 μ Q cl h (pc) lv (.inl x :: .inr (.inl a) :: st) := by
  intro H locs ls h1 h2 h3 h4
  show W p l e R s m args below meth c H locs (h.1 - n0) (h.2.1 - s0) Q (F0 m pc ls (.int x :: .ref (zad b sa a) :: st.map (zvl b sa)))
  rw [show zad b sa a = sa from if_pos hc]
  exact va_sld X.1 X.2.1 (X.2.2.2.2.2.2.1 L xs hs) X.2.2.2.2.2.2.2.1 (by have := h1.2.1; omega) h2.1 hx d (k H locs ls h1 h2 h3 (zst_i (zst_t (zst_t h4))))
theorem z_slen (X : zX p R s m args meth c μ b sa D G sc) {L : Nat} {xs : Nat → Int32} {a : zA} (hs : sc = some (L, xs)) (hc : a.1 = 98) (d : decode (zby μ) pc = .ok (.arraylength, 1)) (k : zq p l e R s m args below meth c b sa D G n0 s0 μ Q cl h (pc + 1) lv (.inl (nI L) :: st)) : zq p l e R s m args below meth c b sa D G n0 s0 μ Q cl h (pc) lv (.inr (.inl a) :: st) := by
  intro H locs ls h1 h2 h3 h4
  show W p l e R s m args below meth c H locs (h.1 - n0) (h.2.1 - s0) Q (F0 m pc ls (.ref (zad b sa a) :: st.map (zvl b sa)))
  rw [show zad b sa a = sa from if_pos hc]
  exact va_slen X.1 X.2.1 (X.2.2.2.2.2.2.1 L xs hs) X.2.2.2.2.2.2.2.1 (by have := h1.2.1; omega) h2.1 d (k H locs ls h1 h2 h3 (zst_i (zst_t h4)))
theorem z_alen (X : zX p R s m args meth c μ b sa D G sc) {a : zA} (hc : zc a.1 = 20) (d : decode (zby μ) pc = .ok (.arraylength, 1)) (k : zq p l e R s m args below meth c b sa D G n0 s0 μ Q cl h (pc + 1) lv (.inl (nI (zn a.1)) :: st)) : zq p l e R s m args below meth c b sa D G n0 s0 μ Q cl h (pc) lv (.inr (.inl a) :: st) := by
  intro H locs ls h1 h2 h3 h4
  have ha := z_cell (zst_h h4) (by omega)
  have hcell := z_arr h1 ha (by omega)
  show W p l e R s m args below meth c H locs (h.1 - n0) (h.2.1 - s0) Q (F0 m pc ls (.ref (zad b sa a) :: st.map (zvl b sa)))
  rw [zad_lv ha]
  rw [hc] at hcell
  exact W.alen (n := nI (zn a.1)) X.1 X.2.1 hcell ((X.2.2.2.2.2.1.2 0 _ rfl).1 _ _) (by rw [arrV_size]; rfl) rfl rfl d (k H locs ls h1 h2 h3 (zst_i (zst_t h4)))
theorem z_aald (X : zX p R s m args meth c μ b sa D G sc) {a : zA} {x : Int32} (hc : zisR (zc a.1) = true) (hx : ¬ (x < 0 ∨ zn a.1 ≤ x.toNatClampNeg)) (hn : h.2.2.2.1 a x.toNatClampNeg = true) (d : decode (zby μ) pc = .ok (.aaload, 1)) (k : zq p l e R s m args below meth c b sa D G n0 s0 μ Q cl h (pc + 1) lv (.inr (.inl (zrf a x.toNatClampNeg (h.2.2.2.2.1 a x.toNatClampNeg))) :: st)) : zq p l e R s m args below meth c b sa D G n0 s0 μ Q cl h (pc) lv (.inl x :: .inr (.inl a) :: st) := by
  intro H locs ls h1 h2 h3 h4
  have hc2 := hc
  simp only [zisR, Bool.and_eq_true] at hc2
  have c1 := Nat.le_of_ble_eq_true hc2.1
  have c2 : zc a.1 < 28 := Nat.le_of_ble_eq_true hc2.2
  have ha := z_cell (zst_h (zst_t h4)) (by omega)
  have hcell := z_arr h1 ha (by omega)
  have hk2 : zsk (zc a.1) x.toNatClampNeg = 2 := by
    have hcs : zc a.1 = 23 ∨ zc a.1 = 24 ∨ zc a.1 = 25 ∨ zc a.1 = 26 ∨ zc a.1 = 27 := by omega
    rcases hcs with q | q | q | q | q <;> rw [q] <;> rfl
  show W p l e R s m args below meth c H locs (h.1 - n0) (h.2.1 - s0) Q (F0 m pc ls (.int x :: .ref (zad b sa a) :: st.map (zvl b sa)))
  rw [zad_lv ha]
  obtain ⟨ty, ht, hr⟩ : ∃ ty : FieldType, ArrOfT s (G (zc a.1)) ty ∧ ty.isReference = true := by
    have hcs : zc a.1 = 23 ∨ zc a.1 = 24 ∨ zc a.1 = 25 ∨ zc a.1 = 26 ∨ zc a.1 = 27 := by omega
    rcases hcs with q | q | q | q | q <;> rw [q]
    · exact ⟨_, (X.2.2.2.2.2.1.2 3 _ rfl).1, rfl⟩
    · exact ⟨_, (X.2.2.2.2.2.1.2 4 _ rfl).1, rfl⟩
    · exact ⟨_, (X.2.2.2.2.2.1.2 5 _ rfl).1, rfl⟩
    · exact ⟨_, (X.2.2.2.2.2.1.2 6 _ rfl).1, rfl⟩
    · exact ⟨_, (X.2.2.2.2.2.1.2 7 _ rfl).1, rfl⟩
  have hlive := h1.2.2.2.1 a ha _ (zin_lt hx) hk2 hn
  refine W.aald (v := zvl b sa (.inr (.inl (zrf a x.toNatClampNeg (h.2.2.2.2.1 a x.toNatClampNeg))))) (ty := ty) X.1 X.2.1 hcell (ht _ _) hr (fun q => by cases q) (by rw [arrV_size]; exact hx) ?_ rfl rfl d (k H locs ls h1 h2 h3 (zst_c (Or.inl hlive) (zst_t (zst_t h4))))
  rw [arrV_read _ _ (zin_lt hx)]
  unfold zsv
  rw [if_pos hk2, hn]
  rfl
theorem z_iast (X : zX p R s m args meth c μ b sa D G sc) {a : zA} {x : Int32} {v : Int32} (hc : zc a.1 = 20) (hx : ¬ (x < 0 ∨ zn a.1 ≤ x.toNatClampNeg)) (d : decode (zby μ) pc = .ok (.iastore, 1)) (k : zq p l e R s m args below meth c b sa D G n0 s0 μ Q false (zwi h a x.toNatClampNeg v) (pc + 1) lv (st)) : zq p l e R s m args below meth c b sa D G n0 s0 μ Q cl h (pc) lv (.inl v :: .inl x :: .inr (.inl a) :: st) := by
  intro H locs ls h1 h2 h3 h4
  have ha := z_cell (zst_h (zst_t (zst_t h4))) (by omega)
  have hcell := z_arr h1 ha (by omega)
  have w : zwrote b sa h (zwi h a x.toNatClampNeg v) a x.toNatClampNeg (.inl v) := zwrote_i (Or.inl (by rw [hc]; rfl))
  show W p l e R s m args below meth c H locs (h.1 - n0) (h.2.1 - s0) Q (F0 m pc ls (zvl b sa (.inl v) :: .int x :: .ref (zad b sa a) :: st.map (zvl b sa)))
  rw [zad_lv ha]
  rw [hc] at hcell
  refine W.iast X.1 X.2.1 hcell ((X.2.2.2.2.2.1.2 0 _ rfl).1 _ _) (fun q => by cases q) (by rw [arrV_size]; exact hx) rfl rfl d fun H' e1 e2 e3 => ?_
  refine k H' (locs ++ [⟨b + znum a, x.toNatClampNeg⟩]) ls (w.P h1 ha (zst_h h4) e2 e3 ?_) ⟨h2.1.put e2 e3 (Nat.le_add_right _ _), fun q => by cases q⟩ h3 (zst_t (zst_t (zst_t h4)))
  unfold zce
  rw [if_neg (by omega), e1, hc, arrV_store]
  congr 2
  funext i
  rw [w.2.2.2.2.1 i]
  rfl
theorem z_bast (X : zX p R s m args meth c μ b sa D G sc) {a : zA} {x : Int32} {v : Int32} (hb : zbit v = true) (hc : zc a.1 = 21) (hx : ¬ (x < 0 ∨ zn a.1 ≤ x.toNatClampNeg)) (d : decode (zby μ) pc = .ok (.bastore, 1)) (k : zq p l e R s m args below meth c b sa D G n0 s0 μ Q false (zwi h a x.toNatClampNeg v) (pc + 1) lv (st)) : zq p l e R s m args below meth c b sa D G n0 s0 μ Q cl h (pc) lv (.inl v :: .inl x :: .inr (.inl a) :: st) := by
  intro H locs ls h1 h2 h3 h4
  have ha := z_cell (zst_h (zst_t (zst_t h4))) (by omega)
  have hcell := z_arr h1 ha (by omega)
  have w : zwrote b sa h (zwi h a x.toNatClampNeg v) a x.toNatClampNeg (.inl v) := zwrote_i (Or.inl (by rw [hc]; rfl))
  show W p l e R s m args below meth c H locs (h.1 - n0) (h.2.1 - s0) Q (F0 m pc ls (zvl b sa (.inl v) :: .int x :: .ref (zad b sa a) :: st.map (zvl b sa)))
  rw [zad_lv ha]
  rw [hc] at hcell
  refine W.zast X.1 X.2.1 hcell ((X.2.2.2.2.2.1.2 1 _ rfl).1 _ _) (fun q => by cases q) (by rw [arrV_size]; exact hx) rfl rfl d fun H' e1 e2 e3 => ?_
  refine k H' (locs ++ [⟨b + znum a, x.toNatClampNeg⟩]) ls (w.P h1 ha (zst_h h4) e2 e3 ?_) ⟨h2.1.put e2 e3 (Nat.le_add_right _ _), fun q => by cases q⟩ h3 (zst_t (zst_t (zst_t h4)))
  unfold zce
  rw [if_neg (by omega), e1, hc, zbit_nar hb, arrV_store]
  congr 2
  funext i
  rw [w.2.2.2.2.1 i]
  rfl
theorem z_last (X : zX p R s m args meth c μ b sa D G sc) {a : zA} {x : Int32} {v : Int64} (hc : zc a.1 = 22) (hx : ¬ (x < 0 ∨ zn a.1 ≤ x.toNatClampNeg)) (d : decode (zby μ) pc = .ok (.lastore, 1)) (k : zq p l e R s m args below meth c b sa D G n0 s0 μ Q false (zwl h a x.toNatClampNeg v) (pc + 1) lv (st)) : zq p l e R s m args below meth c b sa D G n0 s0 μ Q cl h (pc) lv (.inr (.inr v) :: .inl x :: .inr (.inl a) :: st) := by
  intro H locs ls h1 h2 h3 h4
  have ha := z_cell (zst_h (zst_t (zst_t h4))) (by omega)
  have hcell := z_arr h1 ha (by omega)
  have w : zwrote b sa h (zwl h a x.toNatClampNeg v) a x.toNatClampNeg (.inr (.inr v)) := zwrote_l (fun k => by rw [hc]; rfl)
  show W p l e R s m args below meth c H locs (h.1 - n0) (h.2.1 - s0) Q (F0 m pc ls (zvl b sa (.inr (.inr v)) :: .int x :: .ref (zad b sa a) :: st.map (zvl b sa)))
  rw [zad_lv ha]
  rw [hc] at hcell
  refine W.last X.1 X.2.1 hcell ((X.2.2.2.2.2.1.2 2 _ rfl).1 _ _) (fun q => by cases q) (by rw [arrV_size]; exact hx) rfl rfl d fun H' e1 e2 e3 => ?_
  refine k H' (locs ++ [⟨b + znum a, x.toNatClampNeg⟩]) ls (w.P h1 ha (zst_h h4) e2 e3 ?_) ⟨h2.1.put e2 e3 (Nat.le_add_right _ _), fun q => by cases q⟩ h3 (zst_t (zst_t (zst_t h4)))
  unfold zce
  rw [if_neg (by omega), e1, hc, arrV_store]
  congr 2
  funext i
  rw [w.2.2.2.2.1 i]
  rfl
end ROWS2
