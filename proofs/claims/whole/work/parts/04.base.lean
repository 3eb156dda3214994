/-! the machine's types; small things -/
abbrev zA : Type := Nat × Nat × Nat
abbrev zV : Type := Int32 ⊕ (zA ⊕ Int64)
def zlk {α : Type} : List (Nat × α) → Nat → Option α
  | [], _ => none
  | (k, v) :: l, n => bif Nat.beq k n then some v else zlk l n
theorem zlk_mem {α : Type} {l : List (Nat × α)} {n : Nat} {v : α} (h : zlk l n = some v) : (n, v) ∈ l := by
  induction l with
  | nil => cases h
  | cons q l ih =>
    obtain ⟨k, w⟩ := q
    unfold zlk at h
    cases hb : Nat.beq k n with
    | true =>
      rw [hb] at h
      have h1 := Nat.eq_of_beq_eq_true hb
      subst h1
      cases h
      exact List.mem_cons_self
    | false =>
      rw [hb] at h
      exact List.mem_cons_of_mem _ (ih h)
def zcat : List zV → Nat
  | [] => 0
  | .inr (.inr _) :: l => 2 + zcat l
  | _ :: l => 1 + zcat l
/-- no longs -/
def zno : List zV → Bool
  | [] => true
  | .inr (.inr _) :: _ => false
  | _ :: l => zno l
def zlen (i : Instr) : Nat := match i with
  | .bipush _ => 2
  | .iload _ => 2
  | .istore _ => 2
  | .aload _ => 2
  | .astore _ => 2
  | .ldc _ => 2
  | .newarray _ => 2
  | .sipush _ => 3
  | .iinc _ _ => 3
  | .getfield _ => 3
  | .putfield _ => 3
  | .goto _ => 3
  | .ifCond _ _ => 3
  | .if_icmp _ _ => 3
  | .new _ => 3
  | .anewarray _ => 3
  | .invokevirtual _ => 3
  | .invokespecial _ => 3
  | .invokestatic _ => 3
  | .multianewarray _ _ => 4
  | _ => 1
/-- its length, and that a small constant is what it says -/
def zln (i : Instr) (n : Nat) : Bool := match i with
  | .tableswitch _ _ _ _ => true
  | .bipush k => Nat.beq n 2 && decide ((Int8.ofInt k).toInt32 = Int32.ofInt k)
  | .sipush k => Nat.beq n 3 && decide ((Int16.ofInt k).toInt32 = Int32.ofInt k)
  | i => Nat.beq n (zlen i)
/-- its jumps stay at or above 0 -/
def zjok (i : Instr) (pc : Nat) : Bool := match i with
  | .goto o => decide (0 ≤ (pc : Int) + o)
  | .ifCond _ o => decide (0 ≤ (pc : Int) + o)
  | .if_icmp _ o => decide (0 ≤ (pc : Int) + o)
  | .tableswitch d _ _ os => decide (0 ≤ (pc : Int) + d) && os.toList.all fun o => decide (0 ≤ (pc : Int) + o)
  | _ => true
/-- a block's instructions are what the bytes decode to, from pc on -/
def zbk (bs : ByteArray) : Nat → List (Instr × Nat) → Bool
  | _, [] => true
  | pc, (i, n) :: l => decide (decode bs pc = .ok (i, n)) && (zln i n && (zjok i pc && zbk bs (pc + n) l))
def zbs (bs : ByteArray) (l : List (Nat × List (Instr × Nat))) : Bool := l.all fun q => zbk bs q.1 q.2
