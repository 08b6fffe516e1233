def tL_cell : List (Nat × Instr × Nat) := [(0, .iload_n 1, 1), (1, .aload_n 0, 1), (2, .arraylength, 1), (3, .if_icmp .ge 9, 3), (6, .aload_n 0, 1), (7, .iload_n 1, 1), (8, .iaload, 1), (9, .goto 11, 3), (12, .sipush 7919, 3), (15, .iload_n 1, 1), (16, .imul, 1), (17, .bipush 12, 2), (19, .iadd, 1), (20, .ireturn, 1)]
set_option maxRecDepth 100000 in
theorem kL_cell : gchk cL_cell tL_cell = true := by decide +kernel
def tL_some : List (Nat × Instr × Nat) := [(0, .aload_n 0, 1), (1, .iload_n 1, 1), (2, .invokestatic 7, 3), (5, .iconst 3, 1), (6, .iushr, 1), (7, .iload_n 2, 1), (8, .irem, 1), (9, .ireturn, 1)]
set_option maxRecDepth 100000 in
theorem kL_some : gchk cL_some tL_some = true := by decide +kernel
def tL_text : List (Nat × Instr × Nat) := [(0, .iconst 0, 1), (1, .istore_n 2, 1), (2, .iload_n 2, 1), (3, .aload_n 1, 1), (4, .invokevirtual 13, 3), (7, .if_icmp .ge 19, 3), (10, .aload_n 0, 1), (11, .aload_n 1, 1), (12, .iload_n 2, 1), (13, .invokevirtual 19, 3), (16, .invokevirtual 23, 3), (19, .pop, 1), (20, .iinc 2 1, 3), (23, .goto (-21), 3), (26, .aload_n 0, 1), (27, .invokevirtual 29, 3), (30, .ireturn, 1)]
set_option maxRecDepth 100000 in
theorem kL_text : gchk cL_text tL_text = true := by decide +kernel
def tL_name : List (Nat × Instr × Nat) := [(0, .bipush 97, 2), (2, .iload_n 0, 1), (3, .iadd, 1), (4, .i2c, 1), (5, .ireturn, 1)]
set_option maxRecDepth 100000 in
theorem kL_name : gchk cL_name tL_name = true := by decide +kernel
