/-! the code of the law, 4 (by program: wip/whole/gen/code.py) -/
def t_Law_law_8 : tb4 := [
  (715, [(.iconst 0, 1, 0, 0), (.ireturn, 1, 1, 0)]),
  (717, [(.iload 5, 2, 0, 0), (.ifCond .ne 15, 3, 734, 0)]),
  (722, [(.aload_n 3, 1, 0, 0), (.iconst 0, 1, 0, 0), (.laload, 1, 0, 0), (.iload 6, 2, 0, 0), (.i2l, 1, 0, 0), (.lcmp, 1, 0, 0), (.ifCond .eq 5, 3, 734, 0)]),
  (732, [(.iconst 0, 1, 0, 0), (.ireturn, 1, 1, 0)]),
  (734, [(.goto 216, 3, 950, 0)]),
  (737, [(.aload_n 1, 1, 0, 0), (.aload_n 0, 1, 0, 0), (.iload 4, 2, 0, 0), (.iconst 1, 1, 0, 0), (.iadd, 1, 0, 0), (.iaload, 1, 0, 0), (.aload_n 3, 1, 0, 0)]),
  (748, [(.istore 5, 2, 0, 0), (.aload_n 2, 1, 0, 0), (.aload_n 0, 1, 0, 0), (.iload 4, 2, 0, 0), (.iconst 1, 1, 0, 0), (.iadd, 1, 0, 0), (.iaload, 1, 0, 0), (.invokevirtual 130, 3, 114, 1), (.istore 6, 2, 0, 0), (.aload_n 2, 1, 0, 0), (.invokevirtual 80, 3, 64, 0), (.iload 5, 2, 0, 0), (.if_icmp .eq 5, 3, 773, 0)]),
  (771, [(.iconst 0, 1, 0, 0), (.ireturn, 1, 1, 0)]),
  (773, [(.iload 5, 2, 0, 0), (.ifCond .ne 15, 3, 790, 0)]),
  (778, [(.aload_n 3, 1, 0, 0), (.iconst 0, 1, 0, 0), (.laload, 1, 0, 0), (.iload 6, 2, 0, 0), (.i2l, 1, 0, 0), (.lcmp, 1, 0, 0), (.ifCond .eq 5, 3, 790, 0)])]
theorem o_Law_law_8 : tOk k_Law_law t_Law_law_8 = true := by decide +kernel
def t_Law_law_9 : tb4 := [
  (788, [(.iconst 0, 1, 0, 0), (.ireturn, 1, 1, 0)]),
  (790, [(.goto 160, 3, 950, 0)]),
  (793, [(.aload_n 1, 1, 0, 0), (.aload_n 3, 1, 0, 0)]),
  (798, [(.istore 5, 2, 0, 0), (.aload_n 2, 1, 0, 0), (.invokevirtual 133, 3, 115, 0), (.istore 6, 2, 0, 0), (.aload_n 2, 1, 0, 0), (.invokevirtual 80, 3, 64, 0), (.iload 5, 2, 0, 0), (.if_icmp .eq 5, 3, 817, 0)]),
  (815, [(.iconst 0, 1, 0, 0), (.ireturn, 1, 1, 0)]),
  (817, [(.iload 5, 2, 0, 0), (.ifCond .ne 15, 3, 834, 0)]),
  (822, [(.aload_n 3, 1, 0, 0), (.iconst 0, 1, 0, 0), (.laload, 1, 0, 0), (.iload 6, 2, 0, 0), (.i2l, 1, 0, 0), (.lcmp, 1, 0, 0), (.ifCond .eq 5, 3, 834, 0)]),
  (832, [(.iconst 0, 1, 0, 0), (.ireturn, 1, 1, 0)]),
  (834, [(.goto 116, 3, 950, 0)]),
  (837, [(.aload_n 1, 1, 0, 0), (.invokevirtual 134, 3, 60, 0), (.aload_n 2, 1, 0, 0), (.invokevirtual 137, 3, 116, 0), (.if_icmp .eq 105, 3, 950, 0)]),
  (848, [(.iconst 0, 1, 0, 0), (.ireturn, 1, 1, 0)]),
  (850, [(.aload_n 1, 1, 0, 0), (.aload_n 0, 1, 0, 0), (.iload 4, 2, 0, 0), (.iconst 1, 1, 0, 0), (.iadd, 1, 0, 0), (.iaload, 1, 0, 0), (.aload_n 3, 1, 0, 0)])]
theorem o_Law_law_9 : tOk k_Law_law t_Law_law_9 = true := by decide +kernel
