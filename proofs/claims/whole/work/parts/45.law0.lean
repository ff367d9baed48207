/-! the code of the law, 0 (by program: wip/whole/gen/code.py) -/
def t_Law_law_0 : tb4 := [
  (23, [(.iload 4, 2, 0, 0), (.aload_n 0, 1, 0, 0), (.arraylength, 1, 0, 0), (.iconst 4, 1, 0, 0), (.isub, 1, 0, 0), (.if_icmp .gt 927, 3, 956, 0)]),
  (32, [(.aload_n 0, 1, 0, 0), (.iload 4, 2, 0, 0), (.iaload, 1, 0, 0), (.bipush 31, 2, 0, 0), (.iand, 1, 1, 5), (.tableswitch 911 0 19 #[93, 104, 115, 183, 243, 279, 335, 372, 385, 422, 447, 491, 547, 610, 654, 698, 754, 798, 811, 867], 93, 0, 0)]),
  (132, [(.aload_n 1, 1, 0, 0), (.invokevirtual 66, 3, 7, 0), (.aload_n 2, 1, 0, 0), (.invokevirtual 69, 3, 90, 0), (.goto 810, 3, 950, 0)]),
  (143, [(.aload_n 1, 1, 0, 0), (.invokevirtual 70, 3, 8, 0), (.aload_n 2, 1, 0, 0), (.invokevirtual 73, 3, 91, 0), (.goto 799, 3, 950, 0)]),
  (154, [(.aload_n 1, 1, 0, 0), (.aload_n 0, 1, 0, 0), (.iload 4, 2, 0, 0), (.iconst 1, 1, 0, 0), (.iadd, 1, 0, 0), (.iaload, 1, 0, 0), (.aload_n 0, 1, 0, 0), (.iload 4, 2, 0, 0), (.iconst 2, 1, 0, 0), (.iadd, 1, 0, 0), (.iaload, 1, 0, 0), (.aload_n 3, 1, 0, 0)]),
  (171, [(.istore 5, 2, 0, 0), (.aload_n 2, 1, 0, 0), (.aload_n 0, 1, 0, 0), (.iload 4, 2, 0, 0), (.iconst 1, 1, 0, 0), (.iadd, 1, 0, 0), (.iaload, 1, 0, 0), (.aload_n 0, 1, 0, 0), (.iload 4, 2, 0, 0), (.iconst 2, 1, 0, 0), (.iadd, 1, 0, 0), (.iaload, 1, 0, 0), (.invokevirtual 79, 3, 94, 2), (.istore 6, 2, 0, 0), (.aload_n 2, 1, 0, 0), (.invokevirtual 80, 3, 64, 0), (.iload 5, 2, 0, 0), (.if_icmp .eq 5, 3, 202, 0)])]
theorem o_Law_law_0 : tOk k_Law_law t_Law_law_0 = true := by decide +kernel
def t_Law_law_1 : tb4 := [
  (200, [(.iconst 0, 1, 0, 0), (.ireturn, 1, 1, 0)]),
  (202, [(.iload 5, 2, 0, 0), (.ifCond .ne 15, 3, 219, 0)]),
  (207, [(.aload_n 3, 1, 0, 0), (.iconst 0, 1, 0, 0), (.laload, 1, 0, 0), (.iload 6, 2, 0, 0), (.i2l, 1, 0, 0), (.lcmp, 1, 0, 0), (.ifCond .eq 5, 3, 219, 0)]),
  (217, [(.iconst 0, 1, 0, 0), (.ireturn, 1, 1, 0)]),
  (219, [(.goto 731, 3, 950, 0)]),
  (222, [(.aload_n 1, 1, 0, 0), (.aload_n 0, 1, 0, 0), (.iload 4, 2, 0, 0), (.iconst 1, 1, 0, 0), (.iadd, 1, 0, 0), (.iaload, 1, 0, 0), (.aload_n 0, 1, 0, 0), (.iload 4, 2, 0, 0), (.iconst 2, 1, 0, 0), (.iadd, 1, 0, 0), (.iaload, 1, 0, 0), (.aload_n 0, 1, 0, 0), (.iload 4, 2, 0, 0), (.iconst 3, 1, 0, 0), (.iadd, 1, 0, 0), (.iaload, 1, 0, 0)]),
  (244, [(.istore 5, 2, 0, 0), (.aload_n 2, 1, 0, 0), (.aload_n 0, 1, 0, 0), (.iload 4, 2, 0, 0), (.iconst 1, 1, 0, 0), (.iadd, 1, 0, 0), (.iaload, 1, 0, 0), (.aload_n 0, 1, 0, 0), (.iload 4, 2, 0, 0), (.iconst 2, 1, 0, 0), (.iadd, 1, 0, 0), (.iaload, 1, 0, 0), (.aload_n 0, 1, 0, 0), (.iload 4, 2, 0, 0), (.iconst 3, 1, 0, 0), (.iadd, 1, 0, 0), (.iaload, 1, 0, 0), (.invokevirtual 86, 3, 96, 3), (.aload_n 2, 1, 0, 0), (.invokevirtual 80, 3, 64, 0), (.iload 5, 2, 0, 0), (.if_icmp .eq 5, 3, 279, 0)])]
theorem o_Law_law_1 : tOk k_Law_law t_Law_law_1 = true := by decide +kernel
