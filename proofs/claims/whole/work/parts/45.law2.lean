/-! the code of the law, 2 (by program: wip/whole/gen/code.py) -/
def t_Law_law_4 : tb4 := [
  (411, [(.aload_n 1, 1, 0, 0), (.invokevirtual 99, 3, 13, 0), (.aload_n 2, 1, 0, 0), (.invokevirtual 102, 3, 101, 0), (.if_icmp .eq 531, 3, 950, 0)]),
  (422, [(.iconst 0, 1, 0, 0), (.ireturn, 1, 1, 0)]),
  (424, [(.aload_n 1, 1, 0, 0), (.aload_n 0, 1, 0, 0), (.iload 4, 2, 0, 0), (.iconst 1, 1, 0, 0), (.iadd, 1, 0, 0), (.iaload, 1, 0, 0), (.aload_n 0, 1, 0, 0), (.iload 4, 2, 0, 0), (.iconst 2, 1, 0, 0), (.iadd, 1, 0, 0), (.iaload, 1, 0, 0), (.invokevirtual 103, 3, 22, 2), (.aload_n 2, 1, 0, 0), (.aload_n 0, 1, 0, 0), (.iload 4, 2, 0, 0), (.iconst 1, 1, 0, 0), (.iadd, 1, 0, 0), (.iaload, 1, 0, 0), (.aload_n 0, 1, 0, 0), (.iload 4, 2, 0, 0), (.iconst 2, 1, 0, 0), (.iadd, 1, 0, 0), (.iaload, 1, 0, 0), (.invokevirtual 107, 3, 102, 2), (.if_icmp .eq 494, 3, 950, 0)]),
  (459, [(.iconst 0, 1, 0, 0), (.ireturn, 1, 1, 0)]),
  (461, [(.aload_n 1, 1, 0, 0), (.aload_n 0, 1, 0, 0), (.iload 4, 2, 0, 0), (.iconst 1, 1, 0, 0), (.iadd, 1, 0, 0), (.iaload, 1, 0, 0), (.invokevirtual 108, 3, 24, 1), (.aload_n 2, 1, 0, 0), (.aload_n 0, 1, 0, 0), (.iload 4, 2, 0, 0), (.iconst 1, 1, 0, 0), (.iadd, 1, 0, 0), (.iaload, 1, 0, 0), (.invokevirtual 111, 3, 103, 1), (.if_icmp .eq 469, 3, 950, 0)])]
theorem o_Law_law_4 : tOk k_Law_law t_Law_law_4 = true := by decide +kernel
def t_Law_law_5 : tb4 := [
  (484, [(.iconst 0, 1, 0, 0), (.ireturn, 1, 1, 0)]),
  (486, [(.aload_n 1, 1, 0, 0), (.aload_n 3, 1, 0, 0)]),
  (491, [(.istore 5, 2, 0, 0), (.aload_n 2, 1, 0, 0), (.invokevirtual 115, 3, 104, 0), (.istore 6, 2, 0, 0), (.aload_n 2, 1, 0, 0), (.invokevirtual 80, 3, 64, 0), (.iload 5, 2, 0, 0), (.if_icmp .eq 5, 3, 510, 0)]),
  (508, [(.iconst 0, 1, 0, 0), (.ireturn, 1, 1, 0)]),
  (510, [(.iload 5, 2, 0, 0), (.ifCond .ne 15, 3, 527, 0)]),
  (515, [(.aload_n 3, 1, 0, 0), (.iconst 0, 1, 0, 0), (.laload, 1, 0, 0), (.iload 6, 2, 0, 0), (.i2l, 1, 0, 0), (.lcmp, 1, 0, 0), (.ifCond .eq 5, 3, 527, 0)]),
  (525, [(.iconst 0, 1, 0, 0), (.ireturn, 1, 1, 0)]),
  (527, [(.goto 423, 3, 950, 0)]),
  (530, [(.aload_n 1, 1, 0, 0), (.aload_n 0, 1, 0, 0), (.iload 4, 2, 0, 0), (.iconst 1, 1, 0, 0), (.iadd, 1, 0, 0), (.iaload, 1, 0, 0), (.aload_n 3, 1, 0, 0)]),
  (541, [(.istore 5, 2, 0, 0), (.aload_n 2, 1, 0, 0), (.aload_n 0, 1, 0, 0), (.iload 4, 2, 0, 0), (.iconst 1, 1, 0, 0), (.iadd, 1, 0, 0), (.iaload, 1, 0, 0), (.invokevirtual 118, 3, 105, 1), (.istore 6, 2, 0, 0), (.aload_n 2, 1, 0, 0), (.invokevirtual 80, 3, 64, 0), (.iload 5, 2, 0, 0), (.if_icmp .eq 5, 3, 566, 0)])]
theorem o_Law_law_5 : tOk k_Law_law t_Law_law_5 = true := by decide +kernel
