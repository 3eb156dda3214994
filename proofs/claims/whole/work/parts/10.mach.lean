/-! The pure machine: names of cells, values, a heap of numbers, one method's instructions (blocks), by continuations. -/
/-- cells made, slots made, all built, which references are set, ints, longs -/
abbrev zS : Type := Nat × Nat × Bool × (zA → Nat → Bool) × (zA → Nat → Int32) × (zA → Nat → Int64)
abbrev zL : Type := List (Option zV)
/-- an answer (none: void), or an exception's number and its cell; the heap -/
abbrev zR : Type := (Option zV ⊕ (Nat × zA)) × zS
abbrev zC : Type := Option (Nat × (Nat → Int32))
def zK (n : Int) : Int32 := match n with
  | .ofNat k => nI k
  | .negSucc k => Int32.ofInt (.negSucc k)
theorem zK_eq (n : Int) : zK n = Int32.ofInt n := by
  cases n with
  | ofNat k => rfl
  | negSucc k => rfl
def zget : zL → Nat → Option zV
  | [], _ => none
  | x :: _, 0 => x
  | _ :: l, n + 1 => zget l n
def zset : zL → Nat → zV → zL
  | [], 0, v => [some v]
  | [], n + 1, v => none :: zset [] n v
  | _ :: l, 0, v => some v :: l
  | x :: l, n + 1, v => x :: zset l n v
def zeq (a b : zA) : Bool := Nat.beq a.1 b.1 && (Nat.beq a.2.1 b.2.1 && Nat.beq a.2.2 b.2.2)
theorem zeq_eq {a b : zA} (h : zeq a b = true) : a = b := by
  obtain ⟨a1, a2, a3⟩ := a
  obtain ⟨b1, b2, b3⟩ := b
  simp only [zeq, Bool.and_eq_true] at h
  have h1 := Nat.eq_of_beq_eq_true h.1
  have h2 := Nat.eq_of_beq_eq_true h.2.1
  have h3 := Nat.eq_of_beq_eq_true h.2.2
  rw [h1, h2, h3]
theorem zeq_rf (a : zA) : zeq a a = true := by
  simp only [zeq, Bool.and_eq_true]
  exact ⟨Nat.beq_refl _, Nat.beq_refl _, Nat.beq_refl _⟩
/-- one place of a heap is written -/
def zup {α : Type} (f : zA → Nat → α) (a : zA) (k : Nat) (v : α) : zA → Nat → α := fun x j => bif Nat.beq j k && zeq x a then v else f x j
theorem zup_at {α : Type} (f : zA → Nat → α) (a : zA) (k : Nat) (v : α) (x : zA) (j : Nat) : zup f a k v x j = if x = a ∧ j = k then v else f x j := by
  unfold zup
  by_cases q : x = a ∧ j = k
  · rw [if_pos q, q.1, q.2, zeq_rf, Nat.beq_refl]
    rfl
  · rw [if_neg q]
    cases hb : Nat.beq j k && zeq x a with
    | false => rfl
    | true =>
      rw [Bool.and_eq_true] at hb
      exact absurd ⟨zeq_eq hb.2, Nat.eq_of_beq_eq_true hb.1⟩ q
def zwi (h : zS) (a : zA) (k : Nat) (v : Int32) : zS := (h.1, h.2.1, h.2.2.1, h.2.2.2.1, zup h.2.2.2.2.1 a k v, h.2.2.2.2.2)
def zwl (h : zS) (a : zA) (k : Nat) (v : Int64) : zS := (h.1, h.2.1, h.2.2.1, h.2.2.2.1, h.2.2.2.2.1, zup h.2.2.2.2.2 a k v)
def zwr (h : zS) (a : zA) (k : Nat) (v : Int32) : zS := (h.1, h.2.1, h.2.2.1, (bif h.2.2.2.1 a k then h.2.2.2.1 else zup h.2.2.2.1 a k true), zup h.2.2.2.2.1 a k v, h.2.2.2.2.2)
def zal (h : zS) (n : Nat) : zS := (h.1 + 1, h.2.1 + n, h.2.2)
def zbit (x : Int32) : Bool := decide (x = 0) || decide (x = 1)
/-- what a slot of a kind takes of an int: 0 any, 1 a boolean, 2 (a reference) none -/
def zfit (k : Nat) (x : Int32) : Bool := Nat.beq k 0 || (Nat.beq k 1 && zbit x)
/-- a new cell of a type: its name, where the name is the next one's -/
def znext (h : zS) (ty : Nat) : Bool := !h.2.2.1 && (Nat.beq (znum (znm h.1)) h.1 && (Nat.beq (zc (znm h.1).1) ty && Nat.blt (znm h.1).1 90))
section MACH
variable {α : Type} (bot : α) (m : Nat) (sc : zC)
/-- instructions that only move values -/
def zopA (i : Instr) (lv : zL) (st : List zV) (k : zL → List zV → α) : α :=
  match i with
  | .iconst n => k lv (.inl (zK n) :: st)
  | .bipush n => k lv (.inl (zK n) :: st)
  | .sipush n => k lv (.inl (zK n) :: st)
  | .lconst n => k lv (.inr (.inr (Int64.ofNat n.val)) :: st)
  | .iload j => (match zget lv j with
    | some (.inl x) => k lv (.inl x :: st)
    | _ => bot)
  | .iload_n j => (match zget lv j.val with
    | some (.inl x) => k lv (.inl x :: st)
    | _ => bot)
  | .aload j => (match zget lv j with
    | some (.inr (.inl x)) => k lv (.inr (.inl x) :: st)
    | _ => bot)
  | .aload_n j => (match zget lv j.val with
    | some (.inr (.inl x)) => k lv (.inr (.inl x) :: st)
    | _ => bot)
  | .istore j => (match st with
    | .inl x :: st => bif Nat.blt j (zmax m) then k (zset lv j (.inl x)) st else bot
    | _ => bot)
  | .istore_n j => (match st with
    | .inl x :: st => bif Nat.blt j.val (zmax m) then k (zset lv j.val (.inl x)) st else bot
    | _ => bot)
  | .astore j => (match st with
    | .inr (.inl x) :: st => bif Nat.blt j (zmax m) then k (zset lv j (.inr (.inl x))) st else bot
    | _ => bot)
  | .astore_n j => (match st with
    | .inr (.inl x) :: st => bif Nat.blt j.val (zmax m) then k (zset lv j.val (.inr (.inl x))) st else bot
    | _ => bot)
  | .iinc j n => (match zget lv j with
    | some (.inl x) => bif Nat.blt j (zmax m) then k (zset lv j (.inl (x + zK n))) st else bot
    | _ => bot)
  | .iadd => (match st with
    | .inl y :: .inl x :: st => k lv (.inl (x + y) :: st)
    | _ => bot)
  | .isub => (match st with
    | .inl y :: .inl x :: st => k lv (.inl (x - y) :: st)
    | _ => bot)
  | .imul => (match st with
    | .inl y :: .inl x :: st => k lv (.inl (x * y) :: st)
    | _ => bot)
  | .iand => (match st with
    | .inl y :: .inl x :: st => k lv (.inl (x &&& y) :: st)
    | _ => bot)
  | .ior => (match st with
    | .inl y :: .inl x :: st => k lv (.inl (x ||| y) :: st)
    | _ => bot)
  | .ishl => (match st with
    | .inl y :: .inl x :: st => k lv (.inl (x <<< (y &&& 31)) :: st)
    | _ => bot)
  | .ishr => (match st with
    | .inl y :: .inl x :: st => k lv (.inl (x >>> (y &&& 31)) :: st)
    | _ => bot)
  | .idiv => (match st with
    | .inl y :: .inl x :: st => if y = 0 then bot else k lv (.inl (x / y) :: st)
    | _ => bot)
  | .irem => (match st with
    | .inl y :: .inl x :: st => if y = 0 then bot else k lv (.inl (x - x / y * y) :: st)
    | _ => bot)
  | .ineg => (match st with
    | .inl x :: st => k lv (.inl (-x) :: st)
    | _ => bot)
  | .i2l => (match st with
    | .inl x :: st => k lv (.inr (.inr x.toInt64) :: st)
    | _ => bot)
  | .lcmp => (match st with
    | .inr (.inr y) :: .inr (.inr x) :: st => k lv (.inl (lg_cmp x y) :: st)
    | _ => bot)
  | .dup => (match st with
    | .inl x :: st => k lv (.inl x :: .inl x :: st)
    | .inr (.inl a) :: st => k lv (.inr (.inl a) :: .inr (.inl a) :: st)
    | _ => bot)
  | .pop => (match st with
    | .inl _ :: st => k lv st
    | .inr (.inl _) :: st => k lv st
    | _ => bot)
  | .dup_x1 => (match st with
    | .inl x :: .inr (.inl a) :: st => k lv (.inl x :: .inr (.inl a) :: .inl x :: st)
    | _ => bot)
  | .dup_x2 => (match st with
    | .inl x :: .inl y :: .inr (.inl a) :: st => k lv (.inl x :: .inl y :: .inr (.inl a) :: .inl x :: st)
    | _ => bot)
  | .dup2 => (match st with
    | .inl x :: .inr (.inl a) :: st => k lv (.inl x :: .inr (.inl a) :: .inl x :: .inr (.inl a) :: st)
    | _ => bot)
  | .invokespecial j => bif zobj (zown m) j then (match st with
    | .inr (.inl _) :: st => bif Nat.ble 1 (zfr m) && Nat.ble (zcat st + 12) (zlw m) then k lv st else bot
    | _ => bot) else bot
  | .invokestatic j => bif zmth (zown m) j then (match st with
    | .inl y :: .inl x :: st => bif Nat.ble 1 (zfr m) && Nat.ble (zcat st + 13) (zlw m) then k lv (.inl (if x < y then y else x) :: st) else bot
    | _ => bot) else bot
  | _ => bot
/-- instructions that read the heap -/
def zopB (i : Instr) (st : List zV) (h : zS) (k : List zV → α) : α :=
  match i with
  | .getfield j => (match st with
    | .inr (.inl a) :: st => (match zft (zown m) j with
      | some (ci, f, _) => bif Nat.beq (zc a.1) ci then (bif Nat.beq (zfk ci f) 2 then (bif h.2.2.2.1 a f then k (.inr (.inl (zrf a f (h.2.2.2.2.1 a f))) :: st) else bot) else k (.inl (h.2.2.2.2.1 a f) :: st)) else bot
      | none => bot)
    | _ => bot)
  | .aaload => (match st with
    | .inl x :: .inr (.inl a) :: st => bif zisR (zc a.1) then (if x < 0 ∨ zn a.1 ≤ x.toNatClampNeg then bot else bif h.2.2.2.1 a x.toNatClampNeg then k (.inr (.inl (zrf a x.toNatClampNeg (h.2.2.2.2.1 a x.toNatClampNeg))) :: st) else bot) else bot
    | _ => bot)
  | .iaload => (match st with
    | .inl x :: .inr (.inl a) :: st => bif Nat.beq (zc a.1) 20 then (if x < 0 ∨ zn a.1 ≤ x.toNatClampNeg then bot else k (.inl (h.2.2.2.2.1 a x.toNatClampNeg) :: st)) else
      bif Nat.beq a.1 98 then (match sc with
        | some (L, xs) => if x < 0 ∨ L ≤ x.toNatClampNeg then bot else k (.inl (xs x.toNatClampNeg) :: st)
        | none => bot) else bot
    | _ => bot)
  | .baload => (match st with
    | .inl x :: .inr (.inl a) :: st => bif Nat.beq (zc a.1) 21 then (if x < 0 ∨ zn a.1 ≤ x.toNatClampNeg then bot else k (.inl (h.2.2.2.2.1 a x.toNatClampNeg) :: st)) else bot
    | _ => bot)
  | .laload => (match st with
    | .inl x :: .inr (.inl a) :: st => bif Nat.beq (zc a.1) 22 then (if x < 0 ∨ zn a.1 ≤ x.toNatClampNeg then bot else k (.inr (.inr (h.2.2.2.2.2 a x.toNatClampNeg)) :: st)) else bot
    | _ => bot)
  | .arraylength => (match st with
    | .inr (.inl a) :: st => bif Nat.beq (zc a.1) 20 then k (.inl (nI (zn a.1)) :: st) else
      bif Nat.beq a.1 98 then (match sc with
        | some (L, _) => k (.inl (nI L) :: st)
        | none => bot) else bot
    | _ => bot)
  | _ => bot
/-- instructions that write the heap, or make a cell -/
def zopC (i : Instr) (st : List zV) (h : zS) (k : List zV → zS → α) : α :=
  match i with
  | .putfield j => (match st with
    | .inl x :: .inr (.inl a) :: st => (match zft (zown m) j with
      | some (ci, f, _) => bif Nat.beq (zc a.1) ci && (zfit (zfk ci f) x && (!zfin ci f || (zini m && Nat.beq ci (zown m)))) then k st (zwi h a f x) else bot
      | none => bot)
    | .inr (.inl y) :: .inr (.inl a) :: st => (match zft (zown m) j with
      | some (ci, f, _) => bif Nat.beq (zc a.1) ci && (Nat.beq (zfk ci f) 2 && (zeq (zrf a f (zcd a f y)) y && (Nat.blt y.1 90 && (!zfin ci f || (zini m && Nat.beq ci (zown m)))))) then k st (zwr h a f (zcd a f y)) else bot
      | none => bot)
    | _ => bot)
  | .iastore => (match st with
    | .inl v :: .inl x :: .inr (.inl a) :: st => bif Nat.beq (zc a.1) 20 then (if x < 0 ∨ zn a.1 ≤ x.toNatClampNeg then bot else k st (zwi h a x.toNatClampNeg v)) else bot
    | _ => bot)
  | .bastore => (match st with
    | .inl v :: .inl x :: .inr (.inl a) :: st => bif Nat.beq (zc a.1) 21 && zbit v then (if x < 0 ∨ zn a.1 ≤ x.toNatClampNeg then bot else k st (zwi h a x.toNatClampNeg v)) else bot
    | _ => bot)
  | .lastore => (match st with
    | .inr (.inr v) :: .inl x :: .inr (.inl a) :: st => bif Nat.beq (zc a.1) 22 then (if x < 0 ∨ zn a.1 ≤ x.toNatClampNeg then bot else k st (zwl h a x.toNatClampNeg v)) else bot
    | _ => bot)
  | .aastore => (match st with
    | .inr (.inl y) :: .inl x :: .inr (.inl a) :: st => bif zisO (zc a.1) && Nat.beq (zc y.1) (zel (zc a.1)) then (if x < 0 ∨ zn a.1 ≤ x.toNatClampNeg ∨ zrf a x.toNatClampNeg (zcd a x.toNatClampNeg y) ≠ y then bot else k st (zwr h a x.toNatClampNeg (zcd a x.toNatClampNeg y))) else bot
    | _ => bot)
  | .new j => (match znw (zown m) j with
    | some (ci, _) => bif znext h ci && Nat.blt ci 20 then k (.inr (.inl (znm h.1)) :: st) (zal h (zn (znm h.1).1)) else bot
    | none => bot)
  | .newarray t => (match st with
    | .inl x :: st => bif znext h (zat t) && Nat.blt (zat t) 90 then (if x < 0 ∨ x.toNatClampNeg ≠ zn (znm h.1).1 then bot else k (.inr (.inl (znm h.1)) :: st) (zal h (zn (znm h.1).1))) else bot
    | _ => bot)
  | .anewarray j => (match st with
    | .inl x :: st => (match zna (zown m) j with
      | some (ty, _) => bif znext h ty && zisO ty then (if x < 0 ∨ x.toNatClampNeg ≠ zn (znm h.1).1 then bot else k (.inr (.inl (znm h.1)) :: st) (zal h (zn (znm h.1).1))) else bot
      | none => bot)
    | _ => bot)
  | _ => bot
/-- jumps: jk at an offset, fk behind -/
def zjp (i : Instr) (st : List zV) (jk : Int → List zV → α) (fk : List zV → α) : α :=
  match i with
  | .goto o => jk o st
  | .ifCond c o => (match st with
    | .inl x :: st => (match c with
      | .eq => if x = 0 then jk o st else fk st
      | .ne => if x = 0 then fk st else jk o st
      | .lt => if x < 0 then jk o st else fk st
      | .ge => if 0 ≤ x then jk o st else fk st
      | .gt => if 0 < x then jk o st else fk st
      | .le => if x ≤ 0 then jk o st else fk st)
    | _ => bot)
  | .if_icmp c o => (match st with
    | .inl y :: .inl x :: st => (match c with
      | .eq => if x = y then jk o st else fk st
      | .ne => if x = y then fk st else jk o st
      | .lt => if x < y then jk o st else fk st
      | .ge => if y ≤ x then jk o st else fk st
      | .gt => if y < x then jk o st else fk st
      | .le => if x ≤ y then jk o st else fk st)
    | _ => bot)
  | .tableswitch d lo hi os => (match st with
    | .inl x :: st => if x.toInt < lo ∨ hi < x.toInt then jk d st else (match os[(x.toInt - lo).toNat]? with
      | some o => jk o st
      | none => bot)
    | _ => bot)
  | _ => bot
/-- returns -/
def zrt (i : Instr) (st : List zV) (k : Option zV → α) : α :=
  match i with
  | .ireturn => (match st with
    | [.inl x] => bif Nat.beq (zrk m) 1 || (Nat.beq (zrk m) 2 && zbit x) then k (some (.inl x)) else bot
    | _ => bot)
  | .areturn => (match st with
    | [.inr (.inl a)] => bif Nat.beq (zrk m) 3 then k (some (.inr (.inl a))) else bot
    | _ => bot)
  | .return_ => (match st with
    | [] => bif Nat.beq (zrk m) 0 then k none else bot
    | _ => bot)
  | _ => bot
end MACH
/-- what an instruction is to the machine: 0 values, 1 reads, 2 writes, 3 jumps, 4 returns, 5 calls, 6 two rows at once, 7 a throw -/
def zkd (m : Nat) (i : Instr) : Nat := match i with
  | .getfield _ => 1
  | .aaload => 1
  | .iaload => 1
  | .baload => 1
  | .laload => 1
  | .arraylength => 1
  | .putfield _ => 2
  | .iastore => 2
  | .bastore => 2
  | .lastore => 2
  | .aastore => 2
  | .newarray _ => 2
  | .anewarray _ => 2
  | .new j => (match zex (zown m) j with
    | some _ => 7
    | none => 2)
  | .goto _ => 3
  | .ifCond _ _ => 3
  | .if_icmp _ _ => 3
  | .tableswitch _ _ _ _ => 3
  | .ireturn => 4
  | .areturn => 4
  | .return_ => 4
  | .invokevirtual _ => 5
  | .invokespecial j => bif zobj (zown m) j then 0 else 5
  | .invokestatic j => bif zmth (zown m) j then 0 else 5
  | .multianewarray j d => bif Nat.beq m 0 && (Nat.beq j 30 && Nat.beq d 2) then 6 else 8
  | _ => 0
/-- plans = new int[2][30]: three cells, the outer one first -/
def zmul (h : zS) : zS := zwr (zwr (zal (zal (zal h 2) 30) 30) (znm h.1) 0 (zcd (znm h.1) 0 (znm (h.1 + 1)))) (znm h.1) 1 (zcd (znm h.1) 1 (znm (h.1 + 2)))
def zmok (h : zS) : Bool := !h.2.2.1 && (zeq (znm h.1) zPl && (Nat.beq (znum (znm h.1)) h.1 && (Nat.beq (znum (znm (h.1 + 1))) (h.1 + 1) && (Nat.beq (znum (znm (h.1 + 2))) (h.1 + 2) && (zeq (znm (h.1 + 1)) (zrf zPl 0 (zcd zPl 0 (znm (h.1 + 1)))) && zeq (znm (h.1 + 2)) (zrf zPl 1 (zcd zPl 1 (znm (h.1 + 2)))))))))
/-- the receiver of a virtual call is of the method's class -/
def zrec (i : Instr) (y : Nat) (as : List zV) : Bool := match i with
  | .invokevirtual _ => (match as with
    | .inr (.inl a) :: _ => Nat.beq (zc a.1) (zown y)
    | _ => false)
  | .invokespecial _ => (match as with
    | .inr (.inl _) :: _ => true
    | _ => false)
  | _ => true
/-- a call may be made: its arguments stand, the stack below is small, the receiver fits, there is room -/
def zcok (m : Nat) (i : Instr) (y na : Nat) (st : List zV) : Bool := Nat.ble na st.length && (Nat.ble (zcat (st.drop na)) 8 && (zrec i y (st.take na).reverse && (zno (st.take na).reverse && (Nat.ble (zfr y + 1) (zfr m) && Nat.ble (zmax y + 19 + zlw y) (zlw m)))))
section MACH2
variable {α : Type} (bot : α) (sc : zC)
def zx (rec : Nat → Nat → Bool → zL → List zV → zS → (zR → α) → α) (m : Nat) : List (Instr × Nat) → Nat → Bool → zL → List zV → zS → (zR → α) → α
  | [], pc, cl, lv, st, h, K => rec m pc cl lv st h K
  | (i, n) :: is, pc, cl, lv, st, h, K => match zkd m i with
    | 0 => zopA bot m i lv st (fun lv st => zx rec m is (pc + n) cl lv st h K)
    | 1 => zopB bot m sc i st h (fun st => zx rec m is (pc + n) cl lv st h K)
    | 2 => zopC bot m i st h (fun st h => zx rec m is (pc + n) false lv st h K)
    | 3 => zjp bot i st (fun o st => rec m ((pc : Int) + o).toNat cl lv st h K) (fun st => zx rec m is (pc + n) cl lv st h K)
    | 4 => zrt bot m i st (fun v => bif !zpu m || cl then K (.inl v, h) else bot)
    | 5 => (match zcs (zown m) i with
      | some (y, na, _) => bif zcok m i y na st then
          rec y 0 true ((st.take na).reverse.map some) [] h (fun r => match r with
            | (.inl (some v), h) => zx rec m is (pc + n) (cl && zpu y) lv (v :: st.drop na) h K
            | (.inl none, h) => zx rec m is (pc + n) (cl && zpu y) lv (st.drop na) h K
            | (.inr (e, a), h) => (match zhd m pc e with
              | some hp => rec m hp false lv [.inr (.inl a)] h K
              | none => bot)) else bot
      | none => bot)
    | 6 => (match st with
      | .inl y :: .inl x :: st => bif zmok h && (decide (x = nI 2) && decide (y = nI 30)) then zx rec m is (pc + n) false lv (.inr (.inl (znm h.1)) :: st) (zmul h) K else bot
      | _ => bot)
    | 7 => (match zth m pc with
      | some (e, N, _) => bif cl && (Nat.ble 258 h.1 && Nat.ble (zcat st) 8) then K (.inr (e, (99, h.1, 0)), zal h N) else bot
      | none => bot)
    | _ => bot
def zt : Nat → Nat → Nat → Bool → zL → List zV → zS → (zR → α) → α
  | 0, _, _, _, _, _, _, _ => bot
  | n + 1, m, pc, cl, lv, st, h, K => zx bot sc (zt n) m (zcode m pc) pc cl lv st h K
end MACH2
