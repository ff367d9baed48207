/-! the code of the law, 1 (by program: wip/whole/gen/code.py) -/
def t_Law_law_2 : tb4 := [
  (277, [(.iconst 0, 1, 0, 0), (.ireturn, 1, 1, 0)]),
  (279, [(.goto 671, 3, 950, 0)]),
  (282, [(.aload_n 1, 1, 0, 0), (.aload_n 0, 1, 0, 0), (.iload 4, 2, 0, 0), (.iconst 1, 1, 0, 0), (.iadd, 1, 0, 0), (.iaload, 1, 0, 0)]),
  (292, [(.istore 5, 2, 0, 0), (.aload_n 2, 1, 0, 0), (.aload_n 0, 1, 0, 0), (.iload 4, 2, 0, 0), (.iconst 1, 1, 0, 0), (.iadd, 1, 0, 0), (.iaload, 1, 0, 0), (.invokevirtual 90, 3, 98, 1), (.aload_n 2, 1, 0, 0), (.invokevirtual 80, 3, 64, 0), (.iload 5, 2, 0, 0), (.if_icmp .eq 5, 3, 315, 0)]),
  (313, [(.iconst 0, 1, 0, 0), (.ireturn, 1, 1, 0)]),
  (315, [(.goto 635, 3, 950, 0)]),
  (318, [(.aload_n 1, 1, 0, 0), (.aload_n 0, 1, 0, 0), (.iload 4, 2, 0, 0), (.iconst 1, 1, 0, 0), (.iadd, 1, 0, 0), (.iaload, 1, 0, 0), (.aload_n 3, 1, 0, 0)]),
  (329, [(.istore 5, 2, 0, 0), (.aload_n 2, 1, 0, 0), (.aload_n 0, 1, 0, 0), (.iload 4, 2, 0, 0), (.iconst 1, 1, 0, 0), (.iadd, 1, 0, 0), (.iaload, 1, 0, 0), (.invokevirtual 94, 3, 99, 1), (.istore 6, 2, 0, 0), (.aload_n 2, 1, 0, 0), (.invokevirtual 80, 3, 64, 0), (.iload 5, 2, 0, 0), (.if_icmp .eq 5, 3, 354, 0)])]
theorem o_Law_law_2 : tOk k_Law_law t_Law_law_2 = true := by decide +kernel
def t_Law_law_3 : tb4 := [
  (352, [(.iconst 0, 1, 0, 0), (.ireturn, 1, 1, 0)]),
  (354, [(.iload 5, 2, 0, 0), (.ifCond .ne 15, 3, 371, 0)]),
  (359, [(.aload_n 3, 1, 0, 0), (.iconst 0, 1, 0, 0), (.laload, 1, 0, 0), (.iload 6, 2, 0, 0), (.i2l, 1, 0, 0), (.lcmp, 1, 0, 0), (.ifCond .eq 5, 3, 371, 0)]),
  (369, [(.iconst 0, 1, 0, 0), (.ireturn, 1, 1, 0)]),
  (371, [(.goto 579, 3, 950, 0)]),
  (374, [(.aload_n 1, 1, 0, 0), (.aload_n 0, 1, 0, 0), (.iload 4, 2, 0, 0), (.iconst 1, 1, 0, 0), (.iadd, 1, 0, 0), (.iaload, 1, 0, 0), (.aload_n 0, 1, 0, 0), (.iload 4, 2, 0, 0), (.iconst 2, 1, 0, 0), (.iadd, 1, 0, 0), (.iaload, 1, 0, 0), (.invokevirtual 95, 3, 12, 2), (.aload_n 2, 1, 0, 0), (.aload_n 0, 1, 0, 0), (.iload 4, 2, 0, 0), (.iconst 1, 1, 0, 0), (.iadd, 1, 0, 0), (.iaload, 1, 0, 0), (.aload_n 0, 1, 0, 0), (.iload 4, 2, 0, 0), (.iconst 2, 1, 0, 0), (.iadd, 1, 0, 0), (.iaload, 1, 0, 0), (.invokevirtual 98, 3, 100, 2), (.if_icmp .eq 544, 3, 950, 0)]),
  (409, [(.iconst 0, 1, 0, 0), (.ireturn, 1, 1, 0)])]
theorem o_Law_law_3 : tOk k_Law_law t_Law_law_3 = true := by decide +kernel
