def B_JA_fill_0 : List (Instr × Nat) := [(.iconst 0, 1), (.istore_n 2, 1), (.aload_n 0, 1), (.arraylength, 1), (.istore_n 3, 1)]
def B_JA_fill_5 : List (Instr × Nat) := [(.iload_n 2, 1), (.iload_n 3, 1), (.if_icmp .ge 13, 3), (.aload_n 0, 1), (.iload_n 2, 1), (.iload_n 1, 1), (.iastore, 1), (.iinc 2 1, 3), (.goto (-12), 3)]
def B_JA_fill_20 : List (Instr × Nat) := [(.return_, 1)]
def zb_JA_fill : List (Nat × List (Instr × Nat)) := [(0, B_JA_fill_0), (5, B_JA_fill_5), (20, B_JA_fill_20)]
theorem zb_JA_fill_ok : zbs b_JA_fill zb_JA_fill = true := by decide +kernel
