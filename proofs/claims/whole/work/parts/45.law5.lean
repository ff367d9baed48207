/-! the code of the law, 5 (by program: wip/whole/gen/code.py) -/
def t_Law_law_10 : tb4 := [
  (861, [(.istore 5, 2, 0, 0), (.aload_n 2, 1, 0, 0), (.aload_n 0, 1, 0, 0), (.iload 4, 2, 0, 0), (.iconst 1, 1, 0, 0), (.iadd, 1, 0, 0), (.iaload, 1, 0, 0), (.invokevirtual 140, 3, 118, 1), (.istore 6, 2, 0, 0), (.aload_n 2, 1, 0, 0), (.invokevirtual 80, 3, 64, 0), (.iload 5, 2, 0, 0), (.if_icmp .eq 5, 3, 886, 0)]),
  (884, [(.iconst 0, 1, 0, 0), (.ireturn, 1, 1, 0)]),
  (886, [(.iload 5, 2, 0, 0), (.ifCond .ne 15, 3, 903, 0)]),
  (891, [(.aload_n 3, 1, 0, 0), (.iconst 0, 1, 0, 0), (.laload, 1, 0, 0), (.iload 6, 2, 0, 0), (.i2l, 1, 0, 0), (.lcmp, 1, 0, 0), (.ifCond .eq 5, 3, 903, 0)]),
  (901, [(.iconst 0, 1, 0, 0), (.ireturn, 1, 1, 0)]),
  (903, [(.goto 47, 3, 950, 0)]),
  (906, [(.aload_n 1, 1, 0, 0), (.aload_n 3, 1, 0, 0)]),
  (911, [(.istore 5, 2, 0, 0), (.aload_n 2, 1, 0, 0), (.invokevirtual 143, 3, 119, 0), (.istore 6, 2, 0, 0), (.aload_n 2, 1, 0, 0), (.invokevirtual 80, 3, 64, 0), (.iload 5, 2, 0, 0), (.if_icmp .eq 5, 3, 930, 0)]),
  (928, [(.iconst 0, 1, 0, 0), (.ireturn, 1, 1, 0)]),
  (930, [(.iload 5, 2, 0, 0), (.ifCond .ne 15, 3, 947, 0)])]
theorem o_Law_law_10 : tOk k_Law_law t_Law_law_10 = true := by decide +kernel
def t_Law_law_11 : tb4 := [
  (935, [(.aload_n 3, 1, 0, 0), (.iconst 0, 1, 0, 0), (.laload, 1, 0, 0), (.iload 6, 2, 0, 0), (.i2l, 1, 0, 0), (.lcmp, 1, 0, 0), (.ifCond .eq 5, 3, 947, 0)]),
  (945, [(.iconst 0, 1, 0, 0), (.ireturn, 1, 1, 0)]),
  (947, [(.goto 3, 3, 950, 0)]),
  (950, [(.iinc 4 4, 3, 0, 0), (.goto (-930), 3, 23, 0)]),
  (956, [(.iconst 1, 1, 0, 0), (.ireturn, 1, 1, 0)])]
theorem o_Law_law_11 : tOk k_Law_law t_Law_law_11 = true := by decide +kernel
