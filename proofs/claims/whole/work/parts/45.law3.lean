/-! the code of the law, 3 (by program: wip/whole/gen/code.py) -/
def t_Law_law_6 : tb4 := [
  (564, [(.iconst 0, 1, 0, 0), (.ireturn, 1, 1, 0)]),
  (566, [(.iload 5, 2, 0, 0), (.ifCond .ne 15, 3, 583, 0)]),
  (571, [(.aload_n 3, 1, 0, 0), (.iconst 0, 1, 0, 0), (.laload, 1, 0, 0), (.iload 6, 2, 0, 0), (.i2l, 1, 0, 0), (.lcmp, 1, 0, 0), (.ifCond .eq 5, 3, 583, 0)]),
  (581, [(.iconst 0, 1, 0, 0), (.ireturn, 1, 1, 0)]),
  (583, [(.goto 367, 3, 950, 0)]),
  (586, [(.aload_n 1, 1, 0, 0), (.aload_n 0, 1, 0, 0), (.iload 4, 2, 0, 0), (.iconst 1, 1, 0, 0), (.iadd, 1, 0, 0), (.iaload, 1, 0, 0), (.aload_n 3, 1, 0, 0)]),
  (597, [(.istore 5, 2, 0, 0), (.aload_n 2, 1, 0, 0), (.aload_n 0, 1, 0, 0), (.iload 4, 2, 0, 0), (.iconst 1, 1, 0, 0), (.iadd, 1, 0, 0), (.iaload, 1, 0, 0), (.invokevirtual 121, 3, 106, 1), (.istore 6, 2, 0, 0), (.aload_n 2, 1, 0, 0), (.invokevirtual 80, 3, 64, 0), (.iload 5, 2, 0, 0), (.if_icmp .eq 5, 3, 622, 0)]),
  (620, [(.iconst 0, 1, 0, 0), (.ireturn, 1, 1, 0)]),
  (622, [(.iload 5, 2, 0, 0), (.ifCond .ne 22, 3, 646, 0)]),
  (627, [(.aload_n 3, 1, 0, 0), (.iconst 0, 1, 0, 0), (.laload, 1, 0, 0), (.iload 6, 2, 0, 0), (.ifCond .eq 7, 3, 639, 0)])]
theorem o_Law_law_6 : tOk k_Law_law t_Law_law_6 = true := by decide +kernel
def t_Law_law_7 : tb4 := [
  (635, [(.lconst 1, 1, 0, 0), (.goto 4, 3, 640, 0)]),
  (639, [(.lconst 0, 1, 0, 0)]),
  (640, [(.lcmp, 1, 0, 0), (.ifCond .eq 5, 3, 646, 0)]),
  (644, [(.iconst 0, 1, 0, 0), (.ireturn, 1, 1, 0)]),
  (646, [(.goto 304, 3, 950, 0)]),
  (649, [(.aload_n 1, 1, 0, 0), (.aload_n 3, 1, 0, 0)]),
  (654, [(.istore 5, 2, 0, 0), (.aload_n 2, 1, 0, 0), (.invokevirtual 124, 3, 112, 0), (.istore 6, 2, 0, 0), (.aload_n 2, 1, 0, 0), (.invokevirtual 80, 3, 64, 0), (.iload 5, 2, 0, 0), (.if_icmp .eq 5, 3, 673, 0)]),
  (671, [(.iconst 0, 1, 0, 0), (.ireturn, 1, 1, 0)]),
  (673, [(.iload 5, 2, 0, 0), (.ifCond .ne 15, 3, 690, 0)]),
  (678, [(.aload_n 3, 1, 0, 0), (.iconst 0, 1, 0, 0), (.laload, 1, 0, 0), (.iload 6, 2, 0, 0), (.i2l, 1, 0, 0), (.lcmp, 1, 0, 0), (.ifCond .eq 5, 3, 690, 0)]),
  (688, [(.iconst 0, 1, 0, 0), (.ireturn, 1, 1, 0)]),
  (690, [(.goto 260, 3, 950, 0)]),
  (693, [(.aload_n 1, 1, 0, 0), (.aload_n 3, 1, 0, 0)]),
  (698, [(.istore 5, 2, 0, 0), (.aload_n 2, 1, 0, 0), (.invokevirtual 127, 3, 113, 0), (.istore 6, 2, 0, 0), (.aload_n 2, 1, 0, 0), (.invokevirtual 80, 3, 64, 0), (.iload 5, 2, 0, 0), (.if_icmp .eq 5, 3, 717, 0)])]
theorem o_Law_law_7 : tOk k_Law_law t_Law_law_7 = true := by decide +kernel
