/-! the code of the class, second half (by program: wip/whole/gen/code.py) -/
/-- DroppedPieces$Guard.allowsAlong(II)Z; heads of loops: [] -/
def t_Guard_allowsAlong : tb4 := [
  (0, [(.aload_n 0, 1, 0, 0), (.getfield 9, 3, 1, 1), (.iload_n 1, 1, 0, 0), (.iaload, 1, 0, 0), (.istore_n 3, 1, 0, 0), (.iload_n 3, 1, 0, 0), (.iconst (-1), 1, 0, 0), (.if_icmp .eq 16, 3, 25, 0)]),
  (12, [(.iload_n 2, 1, 0, 0), (.bipush 8, 2, 0, 0), (.if_icmp .ge 14, 3, 29, 0)]),
  (18, [(.iload_n 2, 1, 0, 0), (.iconst 3, 1, 0, 0), (.iand, 1, 1, 2), (.iload_n 3, 1, 0, 0), (.if_icmp .ne 7, 3, 29, 0)]),
  (25, [(.iconst 1, 1, 0, 0), (.goto 4, 3, 30, 0)]),
  (29, [(.iconst 0, 1, 0, 0)]),
  (30, [(.ireturn, 1, 1, 0)])]
theorem e_Guard_allowsAlong_0 {F : List rw4 → Prop} {G : Prop} : lkp F G t_Guard_allowsAlong 0 = F [(.aload_n 0, 1, 0, 0), (.getfield 9, 3, 1, 1), (.iload_n 1, 1, 0, 0), (.iaload, 1, 0, 0), (.istore_n 3, 1, 0, 0), (.iload_n 3, 1, 0, 0), (.iconst (-1), 1, 0, 0), (.if_icmp .eq 16, 3, 25, 0)] := propext Iff.rfl
theorem e_Guard_allowsAlong_12 {F : List rw4 → Prop} {G : Prop} : lkp F G t_Guard_allowsAlong 12 = F [(.iload_n 2, 1, 0, 0), (.bipush 8, 2, 0, 0), (.if_icmp .ge 14, 3, 29, 0)] := propext Iff.rfl
theorem e_Guard_allowsAlong_18 {F : List rw4 → Prop} {G : Prop} : lkp F G t_Guard_allowsAlong 18 = F [(.iload_n 2, 1, 0, 0), (.iconst 3, 1, 0, 0), (.iand, 1, 1, 2), (.iload_n 3, 1, 0, 0), (.if_icmp .ne 7, 3, 29, 0)] := propext Iff.rfl
theorem e_Guard_allowsAlong_25 {F : List rw4 → Prop} {G : Prop} : lkp F G t_Guard_allowsAlong 25 = F [(.iconst 1, 1, 0, 0), (.goto 4, 3, 30, 0)] := propext Iff.rfl
theorem e_Guard_allowsAlong_29 {F : List rw4 → Prop} {G : Prop} : lkp F G t_Guard_allowsAlong 29 = F [(.iconst 0, 1, 0, 0)] := propext Iff.rfl
theorem e_Guard_allowsAlong_30 {F : List rw4 → Prop} {G : Prop} : lkp F G t_Guard_allowsAlong 30 = F [(.ireturn, 1, 1, 0)] := propext Iff.rfl
theorem o_Guard_allowsAlong : tOk k_Guard_allowsAlong t_Guard_allowsAlong = true := by decide +kernel
/-- DroppedPieces$Guard.allowsTo(I)Z; heads of loops: [] -/
def t_Guard_allowsTo : tb4 := [
  (0, [(.aload_n 0, 1, 0, 0), (.getfield 15, 3, 1, 2), (.iload_n 1, 1, 0, 0), (.iaload, 1, 0, 0), (.aload_n 0, 1, 0, 0), (.getfield 22, 3, 1, 3), (.if_icmp .ne 7, 3, 17, 0)]),
  (13, [(.iconst 1, 1, 0, 0), (.goto 4, 3, 18, 0)]),
  (17, [(.iconst 0, 1, 0, 0)]),
  (18, [(.ireturn, 1, 1, 0)])]
theorem e_Guard_allowsTo_0 {F : List rw4 → Prop} {G : Prop} : lkp F G t_Guard_allowsTo 0 = F [(.aload_n 0, 1, 0, 0), (.getfield 15, 3, 1, 2), (.iload_n 1, 1, 0, 0), (.iaload, 1, 0, 0), (.aload_n 0, 1, 0, 0), (.getfield 22, 3, 1, 3), (.if_icmp .ne 7, 3, 17, 0)] := propext Iff.rfl
theorem e_Guard_allowsTo_13 {F : List rw4 → Prop} {G : Prop} : lkp F G t_Guard_allowsTo 13 = F [(.iconst 1, 1, 0, 0), (.goto 4, 3, 18, 0)] := propext Iff.rfl
theorem e_Guard_allowsTo_17 {F : List rw4 → Prop} {G : Prop} : lkp F G t_Guard_allowsTo 17 = F [(.iconst 0, 1, 0, 0)] := propext Iff.rfl
theorem e_Guard_allowsTo_18 {F : List rw4 → Prop} {G : Prop} : lkp F G t_Guard_allowsTo 18 = F [(.ireturn, 1, 1, 0)] := propext Iff.rfl
theorem o_Guard_allowsTo : tOk k_Guard_allowsTo t_Guard_allowsTo = true := by decide +kernel
/-- DroppedPieces$Rules.insertTarget(I)V; heads of loops: [15] -/
def t_Rules_insertTarget : tb4 := [
  (0, [(.aload_n 0, 1, 0, 0), (.getfield 102, 3, 4, 5), (.bipush 20, 2, 0, 0), (.if_icmp .lt 4, 3, 10, 0)]),
  (9, [(.return_, 1, 0, 0)]),
  (10, [(.aload_n 0, 1, 0, 0), (.getfield 102, 3, 4, 5), (.istore_n 2, 1, 0, 0)]),
  (15, [(.iload_n 2, 1, 0, 0), (.ifCond .le 35, 3, 51, 0)]),
  (19, [(.aload_n 0, 1, 0, 0), (.getfield 9, 3, 4, 4), (.iload_n 2, 1, 0, 0), (.iconst 1, 1, 0, 0), (.isub, 1, 0, 0), (.iaload, 1, 0, 0), (.iload_n 1, 1, 0, 0), (.if_icmp .le 23, 3, 51, 0)]),
  (31, [(.aload_n 0, 1, 0, 0), (.getfield 9, 3, 4, 4), (.iload_n 2, 1, 0, 0), (.aload_n 0, 1, 0, 0), (.getfield 9, 3, 4, 4), (.iload_n 2, 1, 0, 0), (.iconst 1, 1, 0, 0), (.isub, 1, 0, 0), (.iaload, 1, 0, 0), (.iastore, 1, 0, 0), (.iinc 2 (-1), 3, 0, 0), (.goto (-33), 3, 15, 0)]),
  (51, [(.aload_n 0, 1, 0, 0), (.getfield 9, 3, 4, 4), (.iload_n 2, 1, 0, 0), (.iload_n 1, 1, 0, 0), (.iastore, 1, 0, 0), (.aload_n 0, 1, 0, 0), (.dup, 1, 0, 0), (.getfield 102, 3, 4, 5), (.iconst 1, 1, 0, 0), (.iadd, 1, 0, 0), (.putfield 102, 3, 4, 5), (.return_, 1, 0, 0)])]
theorem e_Rules_insertTarget_0 {F : List rw4 → Prop} {G : Prop} : lkp F G t_Rules_insertTarget 0 = F [(.aload_n 0, 1, 0, 0), (.getfield 102, 3, 4, 5), (.bipush 20, 2, 0, 0), (.if_icmp .lt 4, 3, 10, 0)] := propext Iff.rfl
theorem e_Rules_insertTarget_9 {F : List rw4 → Prop} {G : Prop} : lkp F G t_Rules_insertTarget 9 = F [(.return_, 1, 0, 0)] := propext Iff.rfl
theorem e_Rules_insertTarget_10 {F : List rw4 → Prop} {G : Prop} : lkp F G t_Rules_insertTarget 10 = F [(.aload_n 0, 1, 0, 0), (.getfield 102, 3, 4, 5), (.istore_n 2, 1, 0, 0)] := propext Iff.rfl
theorem e_Rules_insertTarget_15 {F : List rw4 → Prop} {G : Prop} : lkp F G t_Rules_insertTarget 15 = F [(.iload_n 2, 1, 0, 0), (.ifCond .le 35, 3, 51, 0)] := propext Iff.rfl
theorem e_Rules_insertTarget_19 {F : List rw4 → Prop} {G : Prop} : lkp F G t_Rules_insertTarget 19 = F [(.aload_n 0, 1, 0, 0), (.getfield 9, 3, 4, 4), (.iload_n 2, 1, 0, 0), (.iconst 1, 1, 0, 0), (.isub, 1, 0, 0), (.iaload, 1, 0, 0), (.iload_n 1, 1, 0, 0), (.if_icmp .le 23, 3, 51, 0)] := propext Iff.rfl
theorem e_Rules_insertTarget_31 {F : List rw4 → Prop} {G : Prop} : lkp F G t_Rules_insertTarget 31 = F [(.aload_n 0, 1, 0, 0), (.getfield 9, 3, 4, 4), (.iload_n 2, 1, 0, 0), (.aload_n 0, 1, 0, 0), (.getfield 9, 3, 4, 4), (.iload_n 2, 1, 0, 0), (.iconst 1, 1, 0, 0), (.isub, 1, 0, 0), (.iaload, 1, 0, 0), (.iastore, 1, 0, 0), (.iinc 2 (-1), 3, 0, 0), (.goto (-33), 3, 15, 0)] := propext Iff.rfl
theorem e_Rules_insertTarget_51 {F : List rw4 → Prop} {G : Prop} : lkp F G t_Rules_insertTarget 51 = F [(.aload_n 0, 1, 0, 0), (.getfield 9, 3, 4, 4), (.iload_n 2, 1, 0, 0), (.iload_n 1, 1, 0, 0), (.iastore, 1, 0, 0), (.aload_n 0, 1, 0, 0), (.dup, 1, 0, 0), (.getfield 102, 3, 4, 5), (.iconst 1, 1, 0, 0), (.iadd, 1, 0, 0), (.putfield 102, 3, 4, 5), (.return_, 1, 0, 0)] := propext Iff.rfl
theorem o_Rules_insertTarget : tOk k_Rules_insertTarget t_Rules_insertTarget = true := by decide +kernel
/-- DroppedPieces$Rules.addTargets(IIIZLDroppedPieces$Guard;)V; heads of loops: [68] -/
def t_Rules_addTargets : tb4 := [
  (0, [(.iload_n 1, 1, 0, 0), (.ifCond .ne 11, 3, 12, 0)]),
  (4, [(.getstatic 122, 3, 100, 0), (.iload_n 3, 1, 0, 0), (.iaload, 1, 0, 0), (.goto 9, 3, 18, 0)]),
  (12, [(.getstatic 122, 3, 100, 0), (.iload_n 3, 1, 0, 0), (.iaload, 1, 0, 0), (.ineg, 1, 0, 0)]),
  (18, [(.istore 6, 2, 0, 0), (.iload_n 1, 1, 0, 0), (.ifCond .ne 11, 3, 32, 0)]),
  (24, [(.getstatic 125, 3, 101, 0), (.iload_n 3, 1, 0, 0), (.iaload, 1, 0, 0), (.goto 9, 3, 38, 0)]),
  (32, [(.getstatic 125, 3, 101, 0), (.iload_n 3, 1, 0, 0), (.iaload, 1, 0, 0), (.ineg, 1, 0, 0)]),
  (38, [(.istore 7, 2, 0, 0), (.iload_n 2, 1, 0, 0), (.bipush 9, 2, 0, 0), (.idiv, 1, 0, 0), (.istore 8, 2, 0, 0), (.iload_n 2, 1, 0, 0), (.bipush 9, 2, 0, 0), (.irem, 1, 0, 0), (.istore 9, 2, 0, 0), (.iload 4, 2, 0, 0), (.ifCond .eq 8, 3, 62, 0)]),
  (57, [(.bipush 8, 2, 0, 0), (.goto 4, 3, 63, 0)]),
  (62, [(.iconst 1, 1, 0, 0)]),
  (63, [(.istore 10, 2, 0, 0), (.iconst 1, 1, 0, 0), (.istore 11, 2, 0, 0)]),
  (68, [(.iload 11, 2, 0, 0), (.iload 10, 2, 0, 0), (.if_icmp .gt 88, 3, 160, 0)]),
  (75, [(.iload 8, 2, 0, 0), (.iload 6, 2, 0, 0), (.iadd, 1, 0, 0), (.istore 8, 2, 0, 0), (.iload 9, 2, 0, 0), (.iload 7, 2, 0, 0), (.iadd, 1, 0, 0), (.istore 9, 2, 0, 0), (.iload 8, 2, 0, 0), (.iload 9, 2, 0, 0), (.invokestatic 128, 3, 15, 2), (.ifCond .ne 4, 3, 100, 0)]),
  (99, [(.return_, 1, 0, 0)]),
  (100, [(.bipush 9, 2, 0, 0), (.iload 8, 2, 0, 0), (.imul, 1, 0, 0), (.iload 9, 2, 0, 0), (.iadd, 1, 0, 0), (.istore 12, 2, 0, 0), (.aload_n 0, 1, 0, 0), (.getfield 13, 3, 4, 0), (.getfield 53, 3, 0, 0), (.iload 12, 2, 0, 0), (.iaload, 1, 0, 0), (.istore 13, 2, 0, 0), (.iload_n 1, 1, 0, 0), (.iload 13, 2, 0, 0), (.invokestatic 68, 3, 16, 2), (.ifCond .eq 4, 3, 132, 0)]),
  (131, [(.return_, 1, 0, 0)]),
  (132, [(.aload 5, 2, 0, 0), (.iload 12, 2, 0, 0), (.invokevirtual 131, 3, 36, 1), (.ifCond .eq 9, 3, 148, 0)]),
  (142, [(.aload_n 0, 1, 0, 0), (.iload 12, 2, 0, 0), (.invokevirtual 134, 3, 37, 1)]),
  (148, [(.iload 13, 2, 0, 0), (.ifCond .eq 4, 3, 154, 0)]),
  (153, [(.return_, 1, 0, 0)]),
  (154, [(.iinc 11 1, 3, 0, 0), (.goto (-89), 3, 68, 0)]),
  (160, [(.return_, 1, 0, 0)])]
theorem e_Rules_addTargets_0 {F : List rw4 → Prop} {G : Prop} : lkp F G t_Rules_addTargets 0 = F [(.iload_n 1, 1, 0, 0), (.ifCond .ne 11, 3, 12, 0)] := propext Iff.rfl
theorem e_Rules_addTargets_4 {F : List rw4 → Prop} {G : Prop} : lkp F G t_Rules_addTargets 4 = F [(.getstatic 122, 3, 100, 0), (.iload_n 3, 1, 0, 0), (.iaload, 1, 0, 0), (.goto 9, 3, 18, 0)] := propext Iff.rfl
theorem e_Rules_addTargets_12 {F : List rw4 → Prop} {G : Prop} : lkp F G t_Rules_addTargets 12 = F [(.getstatic 122, 3, 100, 0), (.iload_n 3, 1, 0, 0), (.iaload, 1, 0, 0), (.ineg, 1, 0, 0)] := propext Iff.rfl
theorem e_Rules_addTargets_18 {F : List rw4 → Prop} {G : Prop} : lkp F G t_Rules_addTargets 18 = F [(.istore 6, 2, 0, 0), (.iload_n 1, 1, 0, 0), (.ifCond .ne 11, 3, 32, 0)] := propext Iff.rfl
theorem e_Rules_addTargets_24 {F : List rw4 → Prop} {G : Prop} : lkp F G t_Rules_addTargets 24 = F [(.getstatic 125, 3, 101, 0), (.iload_n 3, 1, 0, 0), (.iaload, 1, 0, 0), (.goto 9, 3, 38, 0)] := propext Iff.rfl
theorem e_Rules_addTargets_32 {F : List rw4 → Prop} {G : Prop} : lkp F G t_Rules_addTargets 32 = F [(.getstatic 125, 3, 101, 0), (.iload_n 3, 1, 0, 0), (.iaload, 1, 0, 0), (.ineg, 1, 0, 0)] := propext Iff.rfl
theorem e_Rules_addTargets_38 {F : List rw4 → Prop} {G : Prop} : lkp F G t_Rules_addTargets 38 = F [(.istore 7, 2, 0, 0), (.iload_n 2, 1, 0, 0), (.bipush 9, 2, 0, 0), (.idiv, 1, 0, 0), (.istore 8, 2, 0, 0), (.iload_n 2, 1, 0, 0), (.bipush 9, 2, 0, 0), (.irem, 1, 0, 0), (.istore 9, 2, 0, 0), (.iload 4, 2, 0, 0), (.ifCond .eq 8, 3, 62, 0)] := propext Iff.rfl
theorem e_Rules_addTargets_57 {F : List rw4 → Prop} {G : Prop} : lkp F G t_Rules_addTargets 57 = F [(.bipush 8, 2, 0, 0), (.goto 4, 3, 63, 0)] := propext Iff.rfl
theorem e_Rules_addTargets_62 {F : List rw4 → Prop} {G : Prop} : lkp F G t_Rules_addTargets 62 = F [(.iconst 1, 1, 0, 0)] := propext Iff.rfl
theorem e_Rules_addTargets_63 {F : List rw4 → Prop} {G : Prop} : lkp F G t_Rules_addTargets 63 = F [(.istore 10, 2, 0, 0), (.iconst 1, 1, 0, 0), (.istore 11, 2, 0, 0)] := propext Iff.rfl
theorem e_Rules_addTargets_68 {F : List rw4 → Prop} {G : Prop} : lkp F G t_Rules_addTargets 68 = F [(.iload 11, 2, 0, 0), (.iload 10, 2, 0, 0), (.if_icmp .gt 88, 3, 160, 0)] := propext Iff.rfl
theorem e_Rules_addTargets_75 {F : List rw4 → Prop} {G : Prop} : lkp F G t_Rules_addTargets 75 = F [(.iload 8, 2, 0, 0), (.iload 6, 2, 0, 0), (.iadd, 1, 0, 0), (.istore 8, 2, 0, 0), (.iload 9, 2, 0, 0), (.iload 7, 2, 0, 0), (.iadd, 1, 0, 0), (.istore 9, 2, 0, 0), (.iload 8, 2, 0, 0), (.iload 9, 2, 0, 0), (.invokestatic 128, 3, 15, 2), (.ifCond .ne 4, 3, 100, 0)] := propext Iff.rfl
theorem e_Rules_addTargets_99 {F : List rw4 → Prop} {G : Prop} : lkp F G t_Rules_addTargets 99 = F [(.return_, 1, 0, 0)] := propext Iff.rfl
theorem e_Rules_addTargets_100 {F : List rw4 → Prop} {G : Prop} : lkp F G t_Rules_addTargets 100 = F [(.bipush 9, 2, 0, 0), (.iload 8, 2, 0, 0), (.imul, 1, 0, 0), (.iload 9, 2, 0, 0), (.iadd, 1, 0, 0), (.istore 12, 2, 0, 0), (.aload_n 0, 1, 0, 0), (.getfield 13, 3, 4, 0), (.getfield 53, 3, 0, 0), (.iload 12, 2, 0, 0), (.iaload, 1, 0, 0), (.istore 13, 2, 0, 0), (.iload_n 1, 1, 0, 0), (.iload 13, 2, 0, 0), (.invokestatic 68, 3, 16, 2), (.ifCond .eq 4, 3, 132, 0)] := propext Iff.rfl
theorem e_Rules_addTargets_131 {F : List rw4 → Prop} {G : Prop} : lkp F G t_Rules_addTargets 131 = F [(.return_, 1, 0, 0)] := propext Iff.rfl
theorem e_Rules_addTargets_132 {F : List rw4 → Prop} {G : Prop} : lkp F G t_Rules_addTargets 132 = F [(.aload 5, 2, 0, 0), (.iload 12, 2, 0, 0), (.invokevirtual 131, 3, 36, 1), (.ifCond .eq 9, 3, 148, 0)] := propext Iff.rfl
theorem e_Rules_addTargets_142 {F : List rw4 → Prop} {G : Prop} : lkp F G t_Rules_addTargets 142 = F [(.aload_n 0, 1, 0, 0), (.iload 12, 2, 0, 0), (.invokevirtual 134, 3, 37, 1)] := propext Iff.rfl
theorem e_Rules_addTargets_148 {F : List rw4 → Prop} {G : Prop} : lkp F G t_Rules_addTargets 148 = F [(.iload 13, 2, 0, 0), (.ifCond .eq 4, 3, 154, 0)] := propext Iff.rfl
theorem e_Rules_addTargets_153 {F : List rw4 → Prop} {G : Prop} : lkp F G t_Rules_addTargets 153 = F [(.return_, 1, 0, 0)] := propext Iff.rfl
theorem e_Rules_addTargets_154 {F : List rw4 → Prop} {G : Prop} : lkp F G t_Rules_addTargets 154 = F [(.iinc 11 1, 3, 0, 0), (.goto (-89), 3, 68, 0)] := propext Iff.rfl
theorem e_Rules_addTargets_160 {F : List rw4 → Prop} {G : Prop} : lkp F G t_Rules_addTargets 160 = F [(.return_, 1, 0, 0)] := propext Iff.rfl
theorem o_Rules_addTargets : tOk k_Rules_addTargets t_Rules_addTargets = true := by decide +kernel
/-- DroppedPieces$Pieces.isStuck(III)Z; heads of loops: [] -/
def t_Pieces_isStuck : tb4 := [
  (0, [(.iload_n 1, 1, 0, 0), (.iconst 3, 1, 0, 0), (.if_icmp .le 5, 3, 7, 0)]),
  (5, [(.iconst 0, 1, 0, 0), (.ireturn, 1, 1, 0)]),
  (7, [(.iload_n 0, 1, 0, 0), (.iload_n 2, 1, 0, 0), (.invokestatic 9, 3, 33, 2), (.iload_n 1, 1, 0, 0), (.iconst 3, 1, 0, 0), (.if_icmp .ne 7, 3, 21, 0)]),
  (17, [(.iconst 2, 1, 0, 0), (.goto 4, 3, 22, 0)]),
  (21, [(.iconst 1, 1, 0, 0)]),
  (22, [(.if_icmp .ge 7, 3, 29, 0)]),
  (25, [(.iconst 1, 1, 0, 0), (.goto 4, 3, 30, 0)]),
  (29, [(.iconst 0, 1, 0, 0)]),
  (30, [(.ireturn, 1, 1, 0)])]
theorem e_Pieces_isStuck_0 {F : List rw4 → Prop} {G : Prop} : lkp F G t_Pieces_isStuck 0 = F [(.iload_n 1, 1, 0, 0), (.iconst 3, 1, 0, 0), (.if_icmp .le 5, 3, 7, 0)] := propext Iff.rfl
theorem e_Pieces_isStuck_5 {F : List rw4 → Prop} {G : Prop} : lkp F G t_Pieces_isStuck 5 = F [(.iconst 0, 1, 0, 0), (.ireturn, 1, 1, 0)] := propext Iff.rfl
theorem e_Pieces_isStuck_7 {F : List rw4 → Prop} {G : Prop} : lkp F G t_Pieces_isStuck 7 = F [(.iload_n 0, 1, 0, 0), (.iload_n 2, 1, 0, 0), (.invokestatic 9, 3, 33, 2), (.iload_n 1, 1, 0, 0), (.iconst 3, 1, 0, 0), (.if_icmp .ne 7, 3, 21, 0)] := propext Iff.rfl
theorem e_Pieces_isStuck_17 {F : List rw4 → Prop} {G : Prop} : lkp F G t_Pieces_isStuck 17 = F [(.iconst 2, 1, 0, 0), (.goto 4, 3, 22, 0)] := propext Iff.rfl
theorem e_Pieces_isStuck_21 {F : List rw4 → Prop} {G : Prop} : lkp F G t_Pieces_isStuck 21 = F [(.iconst 1, 1, 0, 0)] := propext Iff.rfl
theorem e_Pieces_isStuck_22 {F : List rw4 → Prop} {G : Prop} : lkp F G t_Pieces_isStuck 22 = F [(.if_icmp .ge 7, 3, 29, 0)] := propext Iff.rfl
theorem e_Pieces_isStuck_25 {F : List rw4 → Prop} {G : Prop} : lkp F G t_Pieces_isStuck 25 = F [(.iconst 1, 1, 0, 0), (.goto 4, 3, 30, 0)] := propext Iff.rfl
theorem e_Pieces_isStuck_29 {F : List rw4 → Prop} {G : Prop} : lkp F G t_Pieces_isStuck 29 = F [(.iconst 0, 1, 0, 0)] := propext Iff.rfl
theorem e_Pieces_isStuck_30 {F : List rw4 → Prop} {G : Prop} : lkp F G t_Pieces_isStuck 30 = F [(.ireturn, 1, 1, 0)] := propext Iff.rfl
theorem o_Pieces_isStuck : tOk k_Pieces_isStuck t_Pieces_isStuck = true := by decide +kernel
/-- DroppedPieces$Rules.addPieceMoves(IILDroppedPieces$Guard;LDroppedPieces$MoveRow;)V; heads of loops: [45, 113] -/
def t_Rules_addPieceMoves : tb4 := [
  (0, [(.aload_n 0, 1, 0, 0), (.getfield 13, 3, 4, 0), (.getfield 53, 3, 0, 0), (.iload_n 2, 1, 0, 0), (.iaload, 1, 0, 0), (.invokestatic 72, 3, 3, 1), (.istore 5, 2, 0, 0), (.iload 5, 2, 0, 0), (.invokestatic 95, 3, 32, 1), (.ifCond .eq 15, 3, 34, 0)]),
  (22, [(.iload_n 1, 1, 0, 0), (.iload_n 2, 1, 0, 0), (.invokestatic 99, 3, 34, 2), (.ifCond .eq 7, 3, 34, 0)]),
  (30, [(.iconst 1, 1, 0, 0), (.goto 4, 3, 35, 0)]),
  (34, [(.iconst 0, 1, 0, 0)]),
  (35, [(.istore 6, 2, 0, 0), (.aload_n 0, 1, 0, 0), (.iconst 0, 1, 0, 0), (.putfield 102, 3, 4, 5), (.iconst 0, 1, 0, 0), (.istore 7, 2, 0, 0)]),
  (45, [(.iload 7, 2, 0, 0), (.bipush 10, 2, 0, 0), (.if_icmp .ge 61, 3, 110, 0)]),
  (52, [(.getstatic 105, 3, 102, 0), (.iload 5, 2, 0, 0), (.iaload, 1, 0, 0), (.iload 7, 2, 0, 0), (.ishr, 1, 0, 0), (.iconst 1, 1, 0, 0), (.iand, 1, 1, 1), (.ifCond .eq 41, 3, 104, 0)]),
  (66, [(.aload_n 3, 1, 0, 0), (.iload_n 2, 1, 0, 0), (.iload 7, 2, 0, 0), (.invokevirtual 108, 3, 35, 2), (.ifCond .eq 31, 3, 104, 0)]),
  (76, [(.aload_n 0, 1, 0, 0), (.iload_n 1, 1, 0, 0), (.iload_n 2, 1, 0, 0), (.iload 7, 2, 0, 0), (.getstatic 111, 3, 103, 0), (.iload 5, 2, 0, 0), (.iaload, 1, 0, 0), (.iload 7, 2, 0, 0), (.ishr, 1, 0, 0), (.iconst 1, 1, 0, 0), (.iand, 1, 1, 1), (.ifCond .eq 7, 3, 99, 0)]),
  (95, [(.iconst 1, 1, 0, 0), (.goto 4, 3, 100, 0)]),
  (99, [(.iconst 0, 1, 0, 0)]),
  (100, [(.aload_n 3, 1, 0, 0), (.invokevirtual 114, 3, 38, 5)]),
  (104, [(.iinc 7 1, 3, 0, 0), (.goto (-62), 3, 45, 0)]),
  (110, [(.iconst 0, 1, 0, 0), (.istore 7, 2, 0, 0)]),
  (113, [(.iload 7, 2, 0, 0), (.aload_n 0, 1, 0, 0), (.getfield 102, 3, 4, 5), (.if_icmp .ge 69, 3, 188, 0)]),
  (122, [(.aload_n 0, 1, 0, 0), (.getfield 9, 3, 4, 4), (.iload 7, 2, 0, 0), (.iaload, 1, 0, 0), (.istore 8, 2, 0, 0), (.iload_n 1, 1, 0, 0), (.iload 5, 2, 0, 0), (.iload 8, 2, 0, 0), (.invokestatic 118, 3, 39, 3), (.ifCond .ne 12, 3, 151, 0)]),
  (142, [(.aload 4, 2, 0, 0), (.iload_n 2, 1, 0, 0), (.iload 8, 2, 0, 0), (.iconst 0, 1, 0, 0), (.invokevirtual 91, 3, 30, 3)]),
  (151, [(.iload 6, 2, 0, 0), (.ifCond .ne 20, 3, 173, 0)]),
  (156, [(.iload 5, 2, 0, 0), (.invokestatic 95, 3, 32, 1), (.ifCond .eq 21, 3, 182, 0)]),
  (164, [(.iload_n 1, 1, 0, 0), (.iload 8, 2, 0, 0), (.invokestatic 99, 3, 34, 2), (.ifCond .eq 12, 3, 182, 0)]),
  (173, [(.aload 4, 2, 0, 0), (.iload_n 2, 1, 0, 0), (.iload 8, 2, 0, 0), (.iconst 1, 1, 0, 0), (.invokevirtual 91, 3, 30, 3)]),
  (182, [(.iinc 7 1, 3, 0, 0), (.goto (-72), 3, 113, 0)]),
  (188, [(.return_, 1, 0, 0)])]
theorem e_Rules_addPieceMoves_0 {F : List rw4 → Prop} {G : Prop} : lkp F G t_Rules_addPieceMoves 0 = F [(.aload_n 0, 1, 0, 0), (.getfield 13, 3, 4, 0), (.getfield 53, 3, 0, 0), (.iload_n 2, 1, 0, 0), (.iaload, 1, 0, 0), (.invokestatic 72, 3, 3, 1), (.istore 5, 2, 0, 0), (.iload 5, 2, 0, 0), (.invokestatic 95, 3, 32, 1), (.ifCond .eq 15, 3, 34, 0)] := propext Iff.rfl
theorem e_Rules_addPieceMoves_22 {F : List rw4 → Prop} {G : Prop} : lkp F G t_Rules_addPieceMoves 22 = F [(.iload_n 1, 1, 0, 0), (.iload_n 2, 1, 0, 0), (.invokestatic 99, 3, 34, 2), (.ifCond .eq 7, 3, 34, 0)] := propext Iff.rfl
theorem e_Rules_addPieceMoves_30 {F : List rw4 → Prop} {G : Prop} : lkp F G t_Rules_addPieceMoves 30 = F [(.iconst 1, 1, 0, 0), (.goto 4, 3, 35, 0)] := propext Iff.rfl
theorem e_Rules_addPieceMoves_34 {F : List rw4 → Prop} {G : Prop} : lkp F G t_Rules_addPieceMoves 34 = F [(.iconst 0, 1, 0, 0)] := propext Iff.rfl
theorem e_Rules_addPieceMoves_35 {F : List rw4 → Prop} {G : Prop} : lkp F G t_Rules_addPieceMoves 35 = F [(.istore 6, 2, 0, 0), (.aload_n 0, 1, 0, 0), (.iconst 0, 1, 0, 0), (.putfield 102, 3, 4, 5), (.iconst 0, 1, 0, 0), (.istore 7, 2, 0, 0)] := propext Iff.rfl
theorem e_Rules_addPieceMoves_45 {F : List rw4 → Prop} {G : Prop} : lkp F G t_Rules_addPieceMoves 45 = F [(.iload 7, 2, 0, 0), (.bipush 10, 2, 0, 0), (.if_icmp .ge 61, 3, 110, 0)] := propext Iff.rfl
theorem e_Rules_addPieceMoves_52 {F : List rw4 → Prop} {G : Prop} : lkp F G t_Rules_addPieceMoves 52 = F [(.getstatic 105, 3, 102, 0), (.iload 5, 2, 0, 0), (.iaload, 1, 0, 0), (.iload 7, 2, 0, 0), (.ishr, 1, 0, 0), (.iconst 1, 1, 0, 0), (.iand, 1, 1, 1), (.ifCond .eq 41, 3, 104, 0)] := propext Iff.rfl
theorem e_Rules_addPieceMoves_66 {F : List rw4 → Prop} {G : Prop} : lkp F G t_Rules_addPieceMoves 66 = F [(.aload_n 3, 1, 0, 0), (.iload_n 2, 1, 0, 0), (.iload 7, 2, 0, 0), (.invokevirtual 108, 3, 35, 2), (.ifCond .eq 31, 3, 104, 0)] := propext Iff.rfl
theorem e_Rules_addPieceMoves_76 {F : List rw4 → Prop} {G : Prop} : lkp F G t_Rules_addPieceMoves 76 = F [(.aload_n 0, 1, 0, 0), (.iload_n 1, 1, 0, 0), (.iload_n 2, 1, 0, 0), (.iload 7, 2, 0, 0), (.getstatic 111, 3, 103, 0), (.iload 5, 2, 0, 0), (.iaload, 1, 0, 0), (.iload 7, 2, 0, 0), (.ishr, 1, 0, 0), (.iconst 1, 1, 0, 0), (.iand, 1, 1, 1), (.ifCond .eq 7, 3, 99, 0)] := propext Iff.rfl
theorem e_Rules_addPieceMoves_95 {F : List rw4 → Prop} {G : Prop} : lkp F G t_Rules_addPieceMoves 95 = F [(.iconst 1, 1, 0, 0), (.goto 4, 3, 100, 0)] := propext Iff.rfl
theorem e_Rules_addPieceMoves_99 {F : List rw4 → Prop} {G : Prop} : lkp F G t_Rules_addPieceMoves 99 = F [(.iconst 0, 1, 0, 0)] := propext Iff.rfl
theorem e_Rules_addPieceMoves_100 {F : List rw4 → Prop} {G : Prop} : lkp F G t_Rules_addPieceMoves 100 = F [(.aload_n 3, 1, 0, 0), (.invokevirtual 114, 3, 38, 5)] := propext Iff.rfl
theorem e_Rules_addPieceMoves_104 {F : List rw4 → Prop} {G : Prop} : lkp F G t_Rules_addPieceMoves 104 = F [(.iinc 7 1, 3, 0, 0), (.goto (-62), 3, 45, 0)] := propext Iff.rfl
theorem e_Rules_addPieceMoves_110 {F : List rw4 → Prop} {G : Prop} : lkp F G t_Rules_addPieceMoves 110 = F [(.iconst 0, 1, 0, 0), (.istore 7, 2, 0, 0)] := propext Iff.rfl
theorem e_Rules_addPieceMoves_113 {F : List rw4 → Prop} {G : Prop} : lkp F G t_Rules_addPieceMoves 113 = F [(.iload 7, 2, 0, 0), (.aload_n 0, 1, 0, 0), (.getfield 102, 3, 4, 5), (.if_icmp .ge 69, 3, 188, 0)] := propext Iff.rfl
theorem e_Rules_addPieceMoves_122 {F : List rw4 → Prop} {G : Prop} : lkp F G t_Rules_addPieceMoves 122 = F [(.aload_n 0, 1, 0, 0), (.getfield 9, 3, 4, 4), (.iload 7, 2, 0, 0), (.iaload, 1, 0, 0), (.istore 8, 2, 0, 0), (.iload_n 1, 1, 0, 0), (.iload 5, 2, 0, 0), (.iload 8, 2, 0, 0), (.invokestatic 118, 3, 39, 3), (.ifCond .ne 12, 3, 151, 0)] := propext Iff.rfl
theorem e_Rules_addPieceMoves_142 {F : List rw4 → Prop} {G : Prop} : lkp F G t_Rules_addPieceMoves 142 = F [(.aload 4, 2, 0, 0), (.iload_n 2, 1, 0, 0), (.iload 8, 2, 0, 0), (.iconst 0, 1, 0, 0), (.invokevirtual 91, 3, 30, 3)] := propext Iff.rfl
theorem e_Rules_addPieceMoves_151 {F : List rw4 → Prop} {G : Prop} : lkp F G t_Rules_addPieceMoves 151 = F [(.iload 6, 2, 0, 0), (.ifCond .ne 20, 3, 173, 0)] := propext Iff.rfl
theorem e_Rules_addPieceMoves_156 {F : List rw4 → Prop} {G : Prop} : lkp F G t_Rules_addPieceMoves 156 = F [(.iload 5, 2, 0, 0), (.invokestatic 95, 3, 32, 1), (.ifCond .eq 21, 3, 182, 0)] := propext Iff.rfl
theorem e_Rules_addPieceMoves_164 {F : List rw4 → Prop} {G : Prop} : lkp F G t_Rules_addPieceMoves 164 = F [(.iload_n 1, 1, 0, 0), (.iload 8, 2, 0, 0), (.invokestatic 99, 3, 34, 2), (.ifCond .eq 12, 3, 182, 0)] := propext Iff.rfl
theorem e_Rules_addPieceMoves_173 {F : List rw4 → Prop} {G : Prop} : lkp F G t_Rules_addPieceMoves 173 = F [(.aload 4, 2, 0, 0), (.iload_n 2, 1, 0, 0), (.iload 8, 2, 0, 0), (.iconst 1, 1, 0, 0), (.invokevirtual 91, 3, 30, 3)] := propext Iff.rfl
theorem e_Rules_addPieceMoves_182 {F : List rw4 → Prop} {G : Prop} : lkp F G t_Rules_addPieceMoves 182 = F [(.iinc 7 1, 3, 0, 0), (.goto (-72), 3, 113, 0)] := propext Iff.rfl
theorem e_Rules_addPieceMoves_188 {F : List rw4 → Prop} {G : Prop} : lkp F G t_Rules_addPieceMoves 188 = F [(.return_, 1, 0, 0)] := propext Iff.rfl
theorem o_Rules_addPieceMoves : tOk k_Rules_addPieceMoves t_Rules_addPieceMoves = true := by decide +kernel
/-- DroppedPieces$Rules.addBoardMoves(ILDroppedPieces$Guard;LDroppedPieces$MoveRow;)V; heads of loops: [3] -/
def t_Rules_addBoardMoves : tb4 := [
  (0, [(.iconst 0, 1, 0, 0), (.istore 4, 2, 0, 0)]),
  (3, [(.iload 4, 2, 0, 0), (.bipush 81, 2, 0, 0), (.if_icmp .ge 60, 3, 67, 0)]),
  (10, [(.aload_n 0, 1, 0, 0), (.getfield 13, 3, 4, 0), (.getfield 53, 3, 0, 0), (.iload 4, 2, 0, 0), (.iaload, 1, 0, 0), (.istore 5, 2, 0, 0), (.iload_n 1, 1, 0, 0), (.iload 5, 2, 0, 0), (.invokestatic 68, 3, 16, 2), (.ifCond .eq 33, 3, 61, 0)]),
  (31, [(.iload 5, 2, 0, 0), (.invokestatic 72, 3, 3, 1), (.bipush 8, 2, 0, 0), (.if_icmp .ne 14, 3, 52, 0)]),
  (41, [(.aload_n 0, 1, 0, 0), (.iload_n 1, 1, 0, 0), (.iload 4, 2, 0, 0), (.aload_n 3, 1, 0, 0), (.invokevirtual 75, 3, 31, 3), (.goto 12, 3, 61, 0)]),
  (52, [(.aload_n 0, 1, 0, 0), (.iload_n 1, 1, 0, 0), (.iload 4, 2, 0, 0), (.aload_n 2, 1, 0, 0), (.aload_n 3, 1, 0, 0), (.invokevirtual 78, 3, 40, 4)]),
  (61, [(.iinc 4 1, 3, 0, 0), (.goto (-61), 3, 3, 0)]),
  (67, [(.return_, 1, 0, 0)])]
theorem e_Rules_addBoardMoves_0 {F : List rw4 → Prop} {G : Prop} : lkp F G t_Rules_addBoardMoves 0 = F [(.iconst 0, 1, 0, 0), (.istore 4, 2, 0, 0)] := propext Iff.rfl
theorem e_Rules_addBoardMoves_3 {F : List rw4 → Prop} {G : Prop} : lkp F G t_Rules_addBoardMoves 3 = F [(.iload 4, 2, 0, 0), (.bipush 81, 2, 0, 0), (.if_icmp .ge 60, 3, 67, 0)] := propext Iff.rfl
theorem e_Rules_addBoardMoves_10 {F : List rw4 → Prop} {G : Prop} : lkp F G t_Rules_addBoardMoves 10 = F [(.aload_n 0, 1, 0, 0), (.getfield 13, 3, 4, 0), (.getfield 53, 3, 0, 0), (.iload 4, 2, 0, 0), (.iaload, 1, 0, 0), (.istore 5, 2, 0, 0), (.iload_n 1, 1, 0, 0), (.iload 5, 2, 0, 0), (.invokestatic 68, 3, 16, 2), (.ifCond .eq 33, 3, 61, 0)] := propext Iff.rfl
theorem e_Rules_addBoardMoves_31 {F : List rw4 → Prop} {G : Prop} : lkp F G t_Rules_addBoardMoves 31 = F [(.iload 5, 2, 0, 0), (.invokestatic 72, 3, 3, 1), (.bipush 8, 2, 0, 0), (.if_icmp .ne 14, 3, 52, 0)] := propext Iff.rfl
theorem e_Rules_addBoardMoves_41 {F : List rw4 → Prop} {G : Prop} : lkp F G t_Rules_addBoardMoves 41 = F [(.aload_n 0, 1, 0, 0), (.iload_n 1, 1, 0, 0), (.iload 4, 2, 0, 0), (.aload_n 3, 1, 0, 0), (.invokevirtual 75, 3, 31, 3), (.goto 12, 3, 61, 0)] := propext Iff.rfl
theorem e_Rules_addBoardMoves_52 {F : List rw4 → Prop} {G : Prop} : lkp F G t_Rules_addBoardMoves 52 = F [(.aload_n 0, 1, 0, 0), (.iload_n 1, 1, 0, 0), (.iload 4, 2, 0, 0), (.aload_n 2, 1, 0, 0), (.aload_n 3, 1, 0, 0), (.invokevirtual 78, 3, 40, 4)] := propext Iff.rfl
theorem e_Rules_addBoardMoves_61 {F : List rw4 → Prop} {G : Prop} : lkp F G t_Rules_addBoardMoves 61 = F [(.iinc 4 1, 3, 0, 0), (.goto (-61), 3, 3, 0)] := propext Iff.rfl
theorem e_Rules_addBoardMoves_67 {F : List rw4 → Prop} {G : Prop} : lkp F G t_Rules_addBoardMoves 67 = F [(.return_, 1, 0, 0)] := propext Iff.rfl
theorem o_Rules_addBoardMoves : tOk k_Rules_addBoardMoves t_Rules_addBoardMoves = true := by decide +kernel
/-- DroppedPieces$Pieces.valueOf(II)I; heads of loops: [] -/
def t_Pieces_valueOf : tb4 := [
  (0, [(.iload_n 0, 1, 0, 0), (.ifCond .ne 7, 3, 8, 0)]),
  (4, [(.iload_n 1, 1, 0, 0), (.goto 5, 3, 10, 0)]),
  (8, [(.iload_n 1, 1, 0, 0), (.ineg, 1, 0, 0)]),
  (10, [(.ireturn, 1, 0, 0)])]
theorem e_Pieces_valueOf_0 {F : List rw4 → Prop} {G : Prop} : lkp F G t_Pieces_valueOf 0 = F [(.iload_n 0, 1, 0, 0), (.ifCond .ne 7, 3, 8, 0)] := propext Iff.rfl
theorem e_Pieces_valueOf_4 {F : List rw4 → Prop} {G : Prop} : lkp F G t_Pieces_valueOf 4 = F [(.iload_n 1, 1, 0, 0), (.goto 5, 3, 10, 0)] := propext Iff.rfl
theorem e_Pieces_valueOf_8 {F : List rw4 → Prop} {G : Prop} : lkp F G t_Pieces_valueOf 8 = F [(.iload_n 1, 1, 0, 0), (.ineg, 1, 0, 0)] := propext Iff.rfl
theorem e_Pieces_valueOf_10 {F : List rw4 → Prop} {G : Prop} : lkp F G t_Pieces_valueOf 10 = F [(.ireturn, 1, 0, 0)] := propext Iff.rfl
theorem o_Pieces_valueOf : tOk k_Pieces_valueOf t_Pieces_valueOf = true := by decide +kernel
/-- DroppedPieces$Board.pawnColumns(I)I; heads of loops: [11] -/
def t_Board_pawnColumns : tb4 := [
  (0, [(.iload_n 1, 1, 0, 0), (.iconst 1, 1, 0, 0), (.invokestatic 68, 3, 42, 2), (.istore_n 2, 1, 0, 0), (.iconst 0, 1, 0, 0), (.istore_n 3, 1, 0, 0), (.iconst 0, 1, 0, 0), (.istore 4, 2, 0, 0)]),
  (11, [(.iload 4, 2, 0, 0), (.aload_n 0, 1, 0, 0), (.getfield 9, 3, 0, 0), (.arraylength, 1, 0, 0), (.if_icmp .ge 30, 3, 48, 0)]),
  (21, [(.aload_n 0, 1, 0, 0), (.getfield 9, 3, 0, 0), (.iload 4, 2, 0, 0), (.iaload, 1, 0, 0), (.iload_n 2, 1, 0, 0), (.if_icmp .ne 13, 3, 42, 0)]),
  (32, [(.iload_n 3, 1, 0, 0), (.iconst 1, 1, 0, 0), (.iload 4, 2, 0, 0), (.bipush 9, 2, 0, 0), (.irem, 1, 0, 0), (.ishl, 1, 0, 0), (.ior, 1, 0, 0), (.istore_n 3, 1, 0, 0)]),
  (42, [(.iinc 4 1, 3, 0, 0), (.goto (-34), 3, 11, 0)]),
  (48, [(.iload_n 3, 1, 0, 0), (.ireturn, 1, 0, 0)])]
theorem e_Board_pawnColumns_0 {F : List rw4 → Prop} {G : Prop} : lkp F G t_Board_pawnColumns 0 = F [(.iload_n 1, 1, 0, 0), (.iconst 1, 1, 0, 0), (.invokestatic 68, 3, 42, 2), (.istore_n 2, 1, 0, 0), (.iconst 0, 1, 0, 0), (.istore_n 3, 1, 0, 0), (.iconst 0, 1, 0, 0), (.istore 4, 2, 0, 0)] := propext Iff.rfl
theorem e_Board_pawnColumns_11 {F : List rw4 → Prop} {G : Prop} : lkp F G t_Board_pawnColumns 11 = F [(.iload 4, 2, 0, 0), (.aload_n 0, 1, 0, 0), (.getfield 9, 3, 0, 0), (.arraylength, 1, 0, 0), (.if_icmp .ge 30, 3, 48, 0)] := propext Iff.rfl
theorem e_Board_pawnColumns_21 {F : List rw4 → Prop} {G : Prop} : lkp F G t_Board_pawnColumns 21 = F [(.aload_n 0, 1, 0, 0), (.getfield 9, 3, 0, 0), (.iload 4, 2, 0, 0), (.iaload, 1, 0, 0), (.iload_n 2, 1, 0, 0), (.if_icmp .ne 13, 3, 42, 0)] := propext Iff.rfl
theorem e_Board_pawnColumns_32 {F : List rw4 → Prop} {G : Prop} : lkp F G t_Board_pawnColumns 32 = F [(.iload_n 3, 1, 0, 0), (.iconst 1, 1, 0, 0), (.iload 4, 2, 0, 0), (.bipush 9, 2, 0, 0), (.irem, 1, 0, 0), (.ishl, 1, 0, 0), (.ior, 1, 0, 0), (.istore_n 3, 1, 0, 0)] := propext Iff.rfl
theorem e_Board_pawnColumns_42 {F : List rw4 → Prop} {G : Prop} : lkp F G t_Board_pawnColumns 42 = F [(.iinc 4 1, 3, 0, 0), (.goto (-34), 3, 11, 0)] := propext Iff.rfl
theorem e_Board_pawnColumns_48 {F : List rw4 → Prop} {G : Prop} : lkp F G t_Board_pawnColumns 48 = F [(.iload_n 3, 1, 0, 0), (.ireturn, 1, 0, 0)] := propext Iff.rfl
theorem o_Board_pawnColumns : tOk k_Board_pawnColumns t_Board_pawnColumns = true := by decide +kernel
/-- DroppedPieces$Rules.pawnCheckSquare(I)I; heads of loops: [] -/
def t_Rules_pawnCheckSquare : tb4 := [
  (0, [(.aload_n 0, 1, 0, 0), (.getfield 13, 3, 4, 0), (.getfield 137, 3, 0, 2), (.iconst 1, 1, 0, 0), (.iload_n 1, 1, 0, 0), (.isub, 1, 0, 0), (.iaload, 1, 0, 0), (.iload_n 1, 1, 0, 0), (.ifCond .ne 8, 3, 20, 0)]),
  (15, [(.bipush 9, 2, 0, 0), (.goto 5, 3, 22, 0)]),
  (20, [(.bipush (-9), 2, 0, 0)]),
  (22, [(.iadd, 1, 0, 0), (.istore_n 2, 1, 0, 0), (.aload_n 0, 1, 0, 0), (.getfield 13, 3, 4, 0), (.getfield 140, 3, 0, 1), (.iload_n 1, 1, 0, 0), (.iconst 1, 1, 0, 0), (.invokestatic 143, 3, 11, 2), (.iaload, 1, 0, 0), (.ifCond .eq 10, 3, 47, 0)]),
  (40, [(.iload_n 2, 1, 0, 0), (.invokestatic 146, 3, 14, 1), (.ifCond .ne 5, 3, 49, 0)]),
  (47, [(.iconst (-1), 1, 0, 0), (.ireturn, 1, 0, 0)]),
  (49, [(.aload_n 0, 1, 0, 0), (.getfield 13, 3, 4, 0), (.iload_n 1, 1, 0, 0), (.invokevirtual 149, 3, 43, 1), (.iload_n 2, 1, 0, 0), (.bipush 9, 2, 0, 0), (.irem, 1, 0, 0), (.ishr, 1, 0, 0), (.iconst 1, 1, 0, 0), (.iand, 1, 1, 1), (.ifCond .eq 7, 3, 71, 0)]),
  (67, [(.iconst 1, 1, 0, 0), (.goto 4, 3, 72, 0)]),
  (71, [(.iconst 0, 1, 0, 0)]),
  (72, [(.istore_n 3, 1, 0, 0), (.aload_n 0, 1, 0, 0), (.getfield 13, 3, 4, 0), (.getfield 53, 3, 0, 0), (.iload_n 2, 1, 0, 0), (.iaload, 1, 0, 0), (.ifCond .ne 22, 3, 104, 0)]),
  (85, [(.iload_n 3, 1, 0, 0), (.ifCond .ne 18, 3, 104, 0)]),
  (89, [(.aload_n 0, 1, 0, 0), (.getfield 22, 3, 4, 1), (.iload_n 2, 1, 0, 0), (.invokevirtual 131, 3, 36, 1), (.ifCond .eq 7, 3, 104, 0)]),
  (100, [(.iload_n 2, 1, 0, 0), (.goto 4, 3, 105, 0)]),
  (104, [(.iconst (-1), 1, 0, 0)]),
  (105, [(.ireturn, 1, 0, 0)])]
theorem e_Rules_pawnCheckSquare_0 {F : List rw4 → Prop} {G : Prop} : lkp F G t_Rules_pawnCheckSquare 0 = F [(.aload_n 0, 1, 0, 0), (.getfield 13, 3, 4, 0), (.getfield 137, 3, 0, 2), (.iconst 1, 1, 0, 0), (.iload_n 1, 1, 0, 0), (.isub, 1, 0, 0), (.iaload, 1, 0, 0), (.iload_n 1, 1, 0, 0), (.ifCond .ne 8, 3, 20, 0)] := propext Iff.rfl
theorem e_Rules_pawnCheckSquare_15 {F : List rw4 → Prop} {G : Prop} : lkp F G t_Rules_pawnCheckSquare 15 = F [(.bipush 9, 2, 0, 0), (.goto 5, 3, 22, 0)] := propext Iff.rfl
theorem e_Rules_pawnCheckSquare_20 {F : List rw4 → Prop} {G : Prop} : lkp F G t_Rules_pawnCheckSquare 20 = F [(.bipush (-9), 2, 0, 0)] := propext Iff.rfl
theorem e_Rules_pawnCheckSquare_22 {F : List rw4 → Prop} {G : Prop} : lkp F G t_Rules_pawnCheckSquare 22 = F [(.iadd, 1, 0, 0), (.istore_n 2, 1, 0, 0), (.aload_n 0, 1, 0, 0), (.getfield 13, 3, 4, 0), (.getfield 140, 3, 0, 1), (.iload_n 1, 1, 0, 0), (.iconst 1, 1, 0, 0), (.invokestatic 143, 3, 11, 2), (.iaload, 1, 0, 0), (.ifCond .eq 10, 3, 47, 0)] := propext Iff.rfl
theorem e_Rules_pawnCheckSquare_40 {F : List rw4 → Prop} {G : Prop} : lkp F G t_Rules_pawnCheckSquare 40 = F [(.iload_n 2, 1, 0, 0), (.invokestatic 146, 3, 14, 1), (.ifCond .ne 5, 3, 49, 0)] := propext Iff.rfl
theorem e_Rules_pawnCheckSquare_47 {F : List rw4 → Prop} {G : Prop} : lkp F G t_Rules_pawnCheckSquare 47 = F [(.iconst (-1), 1, 0, 0), (.ireturn, 1, 0, 0)] := propext Iff.rfl
theorem e_Rules_pawnCheckSquare_49 {F : List rw4 → Prop} {G : Prop} : lkp F G t_Rules_pawnCheckSquare 49 = F [(.aload_n 0, 1, 0, 0), (.getfield 13, 3, 4, 0), (.iload_n 1, 1, 0, 0), (.invokevirtual 149, 3, 43, 1), (.iload_n 2, 1, 0, 0), (.bipush 9, 2, 0, 0), (.irem, 1, 0, 0), (.ishr, 1, 0, 0), (.iconst 1, 1, 0, 0), (.iand, 1, 1, 1), (.ifCond .eq 7, 3, 71, 0)] := propext Iff.rfl
theorem e_Rules_pawnCheckSquare_67 {F : List rw4 → Prop} {G : Prop} : lkp F G t_Rules_pawnCheckSquare 67 = F [(.iconst 1, 1, 0, 0), (.goto 4, 3, 72, 0)] := propext Iff.rfl
theorem e_Rules_pawnCheckSquare_71 {F : List rw4 → Prop} {G : Prop} : lkp F G t_Rules_pawnCheckSquare 71 = F [(.iconst 0, 1, 0, 0)] := propext Iff.rfl
theorem e_Rules_pawnCheckSquare_72 {F : List rw4 → Prop} {G : Prop} : lkp F G t_Rules_pawnCheckSquare 72 = F [(.istore_n 3, 1, 0, 0), (.aload_n 0, 1, 0, 0), (.getfield 13, 3, 4, 0), (.getfield 53, 3, 0, 0), (.iload_n 2, 1, 0, 0), (.iaload, 1, 0, 0), (.ifCond .ne 22, 3, 104, 0)] := propext Iff.rfl
theorem e_Rules_pawnCheckSquare_85 {F : List rw4 → Prop} {G : Prop} : lkp F G t_Rules_pawnCheckSquare 85 = F [(.iload_n 3, 1, 0, 0), (.ifCond .ne 18, 3, 104, 0)] := propext Iff.rfl
theorem e_Rules_pawnCheckSquare_89 {F : List rw4 → Prop} {G : Prop} : lkp F G t_Rules_pawnCheckSquare 89 = F [(.aload_n 0, 1, 0, 0), (.getfield 22, 3, 4, 1), (.iload_n 2, 1, 0, 0), (.invokevirtual 131, 3, 36, 1), (.ifCond .eq 7, 3, 104, 0)] := propext Iff.rfl
theorem e_Rules_pawnCheckSquare_100 {F : List rw4 → Prop} {G : Prop} : lkp F G t_Rules_pawnCheckSquare 100 = F [(.iload_n 2, 1, 0, 0), (.goto 4, 3, 105, 0)] := propext Iff.rfl
theorem e_Rules_pawnCheckSquare_104 {F : List rw4 → Prop} {G : Prop} : lkp F G t_Rules_pawnCheckSquare 104 = F [(.iconst (-1), 1, 0, 0)] := propext Iff.rfl
theorem e_Rules_pawnCheckSquare_105 {F : List rw4 → Prop} {G : Prop} : lkp F G t_Rules_pawnCheckSquare 105 = F [(.ireturn, 1, 0, 0)] := propext Iff.rfl
theorem o_Rules_pawnCheckSquare : tOk k_Rules_pawnCheckSquare t_Rules_pawnCheckSquare = true := by decide +kernel
/-- DroppedPieces$Rules.addDropsOf(IIIILDroppedPieces$MoveRow;)V; heads of loops: [3] -/
def t_Rules_addDropsOf : tb4 := [
  (0, [(.iconst 0, 1, 0, 0), (.istore 6, 2, 0, 0)]),
  (3, [(.iload 6, 2, 0, 0), (.bipush 81, 2, 0, 0), (.if_icmp .ge 90, 3, 97, 0)]),
  (10, [(.aload_n 0, 1, 0, 0), (.getfield 13, 3, 4, 0), (.getfield 53, 3, 0, 0), (.iload 6, 2, 0, 0), (.iaload, 1, 0, 0), (.ifCond .ne 71, 3, 91, 0)]),
  (23, [(.iload 6, 2, 0, 0), (.iload 4, 2, 0, 0), (.if_icmp .eq 64, 3, 91, 0)]),
  (30, [(.aload_n 0, 1, 0, 0), (.getfield 22, 3, 4, 1), (.iload 6, 2, 0, 0), (.invokevirtual 131, 3, 36, 1), (.ifCond .ne 6, 3, 45, 0)]),
  (42, [(.goto 49, 3, 91, 0)]),
  (45, [(.iload_n 3, 1, 0, 0), (.iload 6, 2, 0, 0), (.bipush 9, 2, 0, 0), (.irem, 1, 0, 0), (.ishr, 1, 0, 0), (.iconst 1, 1, 0, 0), (.iand, 1, 1, 1), (.ifCond .eq 7, 3, 61, 0)]),
  (57, [(.iconst 1, 1, 0, 0), (.goto 4, 3, 62, 0)]),
  (61, [(.iconst 0, 1, 0, 0)]),
  (62, [(.istore 7, 2, 0, 0), (.iload 7, 2, 0, 0), (.ifCond .ne 25, 3, 91, 0)]),
  (69, [(.iload_n 1, 1, 0, 0), (.iload_n 2, 1, 0, 0), (.iload 6, 2, 0, 0), (.invokestatic 118, 3, 39, 3), (.ifCond .ne 15, 3, 91, 0)]),
  (79, [(.aload 5, 2, 0, 0), (.bipush 81, 2, 0, 0), (.iload_n 2, 1, 0, 0), (.iadd, 1, 0, 0), (.iload 6, 2, 0, 0), (.iconst 0, 1, 0, 0), (.invokevirtual 91, 3, 30, 3)]),
  (91, [(.iinc 6 1, 3, 0, 0), (.goto (-91), 3, 3, 0)]),
  (97, [(.return_, 1, 0, 0)])]
theorem e_Rules_addDropsOf_0 {F : List rw4 → Prop} {G : Prop} : lkp F G t_Rules_addDropsOf 0 = F [(.iconst 0, 1, 0, 0), (.istore 6, 2, 0, 0)] := propext Iff.rfl
theorem e_Rules_addDropsOf_3 {F : List rw4 → Prop} {G : Prop} : lkp F G t_Rules_addDropsOf 3 = F [(.iload 6, 2, 0, 0), (.bipush 81, 2, 0, 0), (.if_icmp .ge 90, 3, 97, 0)] := propext Iff.rfl
theorem e_Rules_addDropsOf_10 {F : List rw4 → Prop} {G : Prop} : lkp F G t_Rules_addDropsOf 10 = F [(.aload_n 0, 1, 0, 0), (.getfield 13, 3, 4, 0), (.getfield 53, 3, 0, 0), (.iload 6, 2, 0, 0), (.iaload, 1, 0, 0), (.ifCond .ne 71, 3, 91, 0)] := propext Iff.rfl
theorem e_Rules_addDropsOf_23 {F : List rw4 → Prop} {G : Prop} : lkp F G t_Rules_addDropsOf 23 = F [(.iload 6, 2, 0, 0), (.iload 4, 2, 0, 0), (.if_icmp .eq 64, 3, 91, 0)] := propext Iff.rfl
theorem e_Rules_addDropsOf_30 {F : List rw4 → Prop} {G : Prop} : lkp F G t_Rules_addDropsOf 30 = F [(.aload_n 0, 1, 0, 0), (.getfield 22, 3, 4, 1), (.iload 6, 2, 0, 0), (.invokevirtual 131, 3, 36, 1), (.ifCond .ne 6, 3, 45, 0)] := propext Iff.rfl
theorem e_Rules_addDropsOf_42 {F : List rw4 → Prop} {G : Prop} : lkp F G t_Rules_addDropsOf 42 = F [(.goto 49, 3, 91, 0)] := propext Iff.rfl
theorem e_Rules_addDropsOf_45 {F : List rw4 → Prop} {G : Prop} : lkp F G t_Rules_addDropsOf 45 = F [(.iload_n 3, 1, 0, 0), (.iload 6, 2, 0, 0), (.bipush 9, 2, 0, 0), (.irem, 1, 0, 0), (.ishr, 1, 0, 0), (.iconst 1, 1, 0, 0), (.iand, 1, 1, 1), (.ifCond .eq 7, 3, 61, 0)] := propext Iff.rfl
theorem e_Rules_addDropsOf_57 {F : List rw4 → Prop} {G : Prop} : lkp F G t_Rules_addDropsOf 57 = F [(.iconst 1, 1, 0, 0), (.goto 4, 3, 62, 0)] := propext Iff.rfl
theorem e_Rules_addDropsOf_61 {F : List rw4 → Prop} {G : Prop} : lkp F G t_Rules_addDropsOf 61 = F [(.iconst 0, 1, 0, 0)] := propext Iff.rfl
theorem e_Rules_addDropsOf_62 {F : List rw4 → Prop} {G : Prop} : lkp F G t_Rules_addDropsOf 62 = F [(.istore 7, 2, 0, 0), (.iload 7, 2, 0, 0), (.ifCond .ne 25, 3, 91, 0)] := propext Iff.rfl
theorem e_Rules_addDropsOf_69 {F : List rw4 → Prop} {G : Prop} : lkp F G t_Rules_addDropsOf 69 = F [(.iload_n 1, 1, 0, 0), (.iload_n 2, 1, 0, 0), (.iload 6, 2, 0, 0), (.invokestatic 118, 3, 39, 3), (.ifCond .ne 15, 3, 91, 0)] := propext Iff.rfl
theorem e_Rules_addDropsOf_79 {F : List rw4 → Prop} {G : Prop} : lkp F G t_Rules_addDropsOf 79 = F [(.aload 5, 2, 0, 0), (.bipush 81, 2, 0, 0), (.iload_n 2, 1, 0, 0), (.iadd, 1, 0, 0), (.iload 6, 2, 0, 0), (.iconst 0, 1, 0, 0), (.invokevirtual 91, 3, 30, 3)] := propext Iff.rfl
theorem e_Rules_addDropsOf_91 {F : List rw4 → Prop} {G : Prop} : lkp F G t_Rules_addDropsOf 91 = F [(.iinc 6 1, 3, 0, 0), (.goto (-91), 3, 3, 0)] := propext Iff.rfl
theorem e_Rules_addDropsOf_97 {F : List rw4 → Prop} {G : Prop} : lkp F G t_Rules_addDropsOf 97 = F [(.return_, 1, 0, 0)] := propext Iff.rfl
theorem o_Rules_addDropsOf : tOk k_Rules_addDropsOf t_Rules_addDropsOf = true := by decide +kernel
/-- DroppedPieces$Rules.addDrops(IILDroppedPieces$MoveRow;)V; heads of loops: [3] -/
def t_Rules_addDrops : tb4 := [
  (0, [(.iconst 1, 1, 0, 0), (.istore 4, 2, 0, 0)]),
  (3, [(.iload 4, 2, 0, 0), (.bipush 7, 2, 0, 0), (.if_icmp .gt 67, 3, 74, 0)]),
  (10, [(.aload_n 0, 1, 0, 0), (.getfield 13, 3, 4, 0), (.getfield 140, 3, 0, 1), (.iload_n 1, 1, 0, 0), (.iload 4, 2, 0, 0), (.invokestatic 143, 3, 11, 2), (.iaload, 1, 0, 0), (.ifCond .le 44, 3, 68, 0)]),
  (27, [(.iload 4, 2, 0, 0), (.iconst 1, 1, 0, 0), (.if_icmp .ne 14, 3, 44, 0)]),
  (33, [(.aload_n 0, 1, 0, 0), (.getfield 13, 3, 4, 0), (.iload_n 1, 1, 0, 0), (.invokevirtual 149, 3, 43, 1), (.goto 4, 3, 45, 0)]),
  (44, [(.iconst 0, 1, 0, 0)]),
  (45, [(.istore 5, 2, 0, 0), (.aload_n 0, 1, 0, 0), (.iload_n 1, 1, 0, 0), (.iload 4, 2, 0, 0), (.iload 5, 2, 0, 0), (.iload 4, 2, 0, 0), (.iconst 1, 1, 0, 0), (.if_icmp .ne 7, 3, 63, 0)]),
  (59, [(.iload_n 2, 1, 0, 0), (.goto 4, 3, 64, 0)]),
  (63, [(.iconst (-1), 1, 0, 0)]),
  (64, [(.aload_n 3, 1, 0, 0), (.invokevirtual 152, 3, 45, 5)]),
  (68, [(.iinc 4 1, 3, 0, 0), (.goto (-68), 3, 3, 0)]),
  (74, [(.return_, 1, 0, 0)])]
theorem e_Rules_addDrops_0 {F : List rw4 → Prop} {G : Prop} : lkp F G t_Rules_addDrops 0 = F [(.iconst 1, 1, 0, 0), (.istore 4, 2, 0, 0)] := propext Iff.rfl
theorem e_Rules_addDrops_3 {F : List rw4 → Prop} {G : Prop} : lkp F G t_Rules_addDrops 3 = F [(.iload 4, 2, 0, 0), (.bipush 7, 2, 0, 0), (.if_icmp .gt 67, 3, 74, 0)] := propext Iff.rfl
theorem e_Rules_addDrops_10 {F : List rw4 → Prop} {G : Prop} : lkp F G t_Rules_addDrops 10 = F [(.aload_n 0, 1, 0, 0), (.getfield 13, 3, 4, 0), (.getfield 140, 3, 0, 1), (.iload_n 1, 1, 0, 0), (.iload 4, 2, 0, 0), (.invokestatic 143, 3, 11, 2), (.iaload, 1, 0, 0), (.ifCond .le 44, 3, 68, 0)] := propext Iff.rfl
theorem e_Rules_addDrops_27 {F : List rw4 → Prop} {G : Prop} : lkp F G t_Rules_addDrops 27 = F [(.iload 4, 2, 0, 0), (.iconst 1, 1, 0, 0), (.if_icmp .ne 14, 3, 44, 0)] := propext Iff.rfl
theorem e_Rules_addDrops_33 {F : List rw4 → Prop} {G : Prop} : lkp F G t_Rules_addDrops 33 = F [(.aload_n 0, 1, 0, 0), (.getfield 13, 3, 4, 0), (.iload_n 1, 1, 0, 0), (.invokevirtual 149, 3, 43, 1), (.goto 4, 3, 45, 0)] := propext Iff.rfl
theorem e_Rules_addDrops_44 {F : List rw4 → Prop} {G : Prop} : lkp F G t_Rules_addDrops 44 = F [(.iconst 0, 1, 0, 0)] := propext Iff.rfl
theorem e_Rules_addDrops_45 {F : List rw4 → Prop} {G : Prop} : lkp F G t_Rules_addDrops 45 = F [(.istore 5, 2, 0, 0), (.aload_n 0, 1, 0, 0), (.iload_n 1, 1, 0, 0), (.iload 4, 2, 0, 0), (.iload 5, 2, 0, 0), (.iload 4, 2, 0, 0), (.iconst 1, 1, 0, 0), (.if_icmp .ne 7, 3, 63, 0)] := propext Iff.rfl
theorem e_Rules_addDrops_59 {F : List rw4 → Prop} {G : Prop} : lkp F G t_Rules_addDrops 59 = F [(.iload_n 2, 1, 0, 0), (.goto 4, 3, 64, 0)] := propext Iff.rfl
theorem e_Rules_addDrops_63 {F : List rw4 → Prop} {G : Prop} : lkp F G t_Rules_addDrops 63 = F [(.iconst (-1), 1, 0, 0)] := propext Iff.rfl
theorem e_Rules_addDrops_64 {F : List rw4 → Prop} {G : Prop} : lkp F G t_Rules_addDrops 64 = F [(.aload_n 3, 1, 0, 0), (.invokevirtual 152, 3, 45, 5)] := propext Iff.rfl
theorem e_Rules_addDrops_68 {F : List rw4 → Prop} {G : Prop} : lkp F G t_Rules_addDrops 68 = F [(.iinc 4 1, 3, 0, 0), (.goto (-68), 3, 3, 0)] := propext Iff.rfl
theorem e_Rules_addDrops_74 {F : List rw4 → Prop} {G : Prop} : lkp F G t_Rules_addDrops 74 = F [(.return_, 1, 0, 0)] := propext Iff.rfl
theorem o_Rules_addDrops : tOk k_Rules_addDrops t_Rules_addDrops = true := by decide +kernel
/-- DroppedPieces$Rules.list(ILDroppedPieces$MoveRow;)V; heads of loops: [] -/
def t_Rules_list : tb4 := [
  (0, [(.aload_n 2, 1, 0, 0), (.iconst 0, 1, 0, 0), (.putfield 38, 3, 3, 1), (.aload_n 0, 1, 0, 0), (.getfield 22, 3, 4, 1), (.iload_n 1, 1, 0, 0), (.invokevirtual 42, 3, 28, 1), (.aload_n 0, 1, 0, 0), (.iload_n 1, 1, 0, 0), (.aload_n 0, 1, 0, 0), (.getfield 22, 3, 4, 1), (.aload_n 2, 1, 0, 0), (.invokevirtual 45, 3, 41, 3), (.aload_n 0, 1, 0, 0), (.iload_n 1, 1, 0, 0), (.invokevirtual 49, 3, 44, 1), (.istore_n 3, 1, 0, 0), (.iload_n 3, 1, 0, 0), (.iconst (-1), 1, 0, 0), (.if_icmp .eq 76, 3, 107, 0)]),
  (34, [(.aload_n 0, 1, 0, 0), (.getfield 34, 3, 4, 3), (.iconst 0, 1, 0, 0), (.putfield 38, 3, 3, 1), (.aload_n 0, 1, 0, 0), (.getfield 13, 3, 4, 0), (.getfield 53, 3, 0, 0), (.iload_n 3, 1, 0, 0), (.iload_n 1, 1, 0, 0), (.iconst 1, 1, 0, 0), (.invokestatic 60, 3, 42, 2), (.iastore, 1, 0, 0), (.aload_n 0, 1, 0, 0), (.getfield 26, 3, 4, 2), (.iconst 1, 1, 0, 0), (.iload_n 1, 1, 0, 0), (.isub, 1, 0, 0), (.invokevirtual 42, 3, 28, 1), (.aload_n 0, 1, 0, 0), (.iconst 1, 1, 0, 0), (.iload_n 1, 1, 0, 0), (.isub, 1, 0, 0), (.aload_n 0, 1, 0, 0), (.getfield 26, 3, 4, 2), (.aload_n 0, 1, 0, 0), (.getfield 34, 3, 4, 3), (.invokevirtual 45, 3, 41, 3), (.aload_n 0, 1, 0, 0), (.getfield 13, 3, 4, 0), (.getfield 53, 3, 0, 0), (.iload_n 3, 1, 0, 0), (.iconst 0, 1, 0, 0), (.iastore, 1, 0, 0), (.aload_n 0, 1, 0, 0), (.getfield 34, 3, 4, 3), (.getfield 38, 3, 3, 1), (.ifCond .ne 7, 3, 105, 0)]),
  (101, [(.iload_n 3, 1, 0, 0), (.goto 4, 3, 106, 0)]),
  (105, [(.iconst (-1), 1, 0, 0)]),
  (106, [(.istore_n 3, 1, 0, 0)]),
  (107, [(.aload_n 0, 1, 0, 0), (.iload_n 1, 1, 0, 0), (.iload_n 3, 1, 0, 0), (.aload_n 2, 1, 0, 0), (.invokevirtual 64, 3, 46, 3), (.return_, 1, 0, 0)])]
theorem e_Rules_list_0 {F : List rw4 → Prop} {G : Prop} : lkp F G t_Rules_list 0 = F [(.aload_n 2, 1, 0, 0), (.iconst 0, 1, 0, 0), (.putfield 38, 3, 3, 1), (.aload_n 0, 1, 0, 0), (.getfield 22, 3, 4, 1), (.iload_n 1, 1, 0, 0), (.invokevirtual 42, 3, 28, 1), (.aload_n 0, 1, 0, 0), (.iload_n 1, 1, 0, 0), (.aload_n 0, 1, 0, 0), (.getfield 22, 3, 4, 1), (.aload_n 2, 1, 0, 0), (.invokevirtual 45, 3, 41, 3), (.aload_n 0, 1, 0, 0), (.iload_n 1, 1, 0, 0), (.invokevirtual 49, 3, 44, 1), (.istore_n 3, 1, 0, 0), (.iload_n 3, 1, 0, 0), (.iconst (-1), 1, 0, 0), (.if_icmp .eq 76, 3, 107, 0)] := propext Iff.rfl
theorem e_Rules_list_34 {F : List rw4 → Prop} {G : Prop} : lkp F G t_Rules_list 34 = F [(.aload_n 0, 1, 0, 0), (.getfield 34, 3, 4, 3), (.iconst 0, 1, 0, 0), (.putfield 38, 3, 3, 1), (.aload_n 0, 1, 0, 0), (.getfield 13, 3, 4, 0), (.getfield 53, 3, 0, 0), (.iload_n 3, 1, 0, 0), (.iload_n 1, 1, 0, 0), (.iconst 1, 1, 0, 0), (.invokestatic 60, 3, 42, 2), (.iastore, 1, 0, 0), (.aload_n 0, 1, 0, 0), (.getfield 26, 3, 4, 2), (.iconst 1, 1, 0, 0), (.iload_n 1, 1, 0, 0), (.isub, 1, 0, 0), (.invokevirtual 42, 3, 28, 1), (.aload_n 0, 1, 0, 0), (.iconst 1, 1, 0, 0), (.iload_n 1, 1, 0, 0), (.isub, 1, 0, 0), (.aload_n 0, 1, 0, 0), (.getfield 26, 3, 4, 2), (.aload_n 0, 1, 0, 0), (.getfield 34, 3, 4, 3), (.invokevirtual 45, 3, 41, 3), (.aload_n 0, 1, 0, 0), (.getfield 13, 3, 4, 0), (.getfield 53, 3, 0, 0), (.iload_n 3, 1, 0, 0), (.iconst 0, 1, 0, 0), (.iastore, 1, 0, 0), (.aload_n 0, 1, 0, 0), (.getfield 34, 3, 4, 3), (.getfield 38, 3, 3, 1), (.ifCond .ne 7, 3, 105, 0)] := propext Iff.rfl
theorem e_Rules_list_101 {F : List rw4 → Prop} {G : Prop} : lkp F G t_Rules_list 101 = F [(.iload_n 3, 1, 0, 0), (.goto 4, 3, 106, 0)] := propext Iff.rfl
theorem e_Rules_list_105 {F : List rw4 → Prop} {G : Prop} : lkp F G t_Rules_list 105 = F [(.iconst (-1), 1, 0, 0)] := propext Iff.rfl
theorem e_Rules_list_106 {F : List rw4 → Prop} {G : Prop} : lkp F G t_Rules_list 106 = F [(.istore_n 3, 1, 0, 0)] := propext Iff.rfl
theorem e_Rules_list_107 {F : List rw4 → Prop} {G : Prop} : lkp F G t_Rules_list 107 = F [(.aload_n 0, 1, 0, 0), (.iload_n 1, 1, 0, 0), (.iload_n 3, 1, 0, 0), (.aload_n 2, 1, 0, 0), (.invokevirtual 64, 3, 46, 3), (.return_, 1, 0, 0)] := propext Iff.rfl
theorem o_Rules_list : tOk k_Rules_list t_Rules_list = true := by decide +kernel
/-- DroppedPieces$MoveRow.holds(I)Z; heads of loops: [2] -/
def t_MoveRow_holds : tb4 := [
  (0, [(.iconst 0, 1, 0, 0), (.istore_n 2, 1, 0, 0)]),
  (2, [(.iload_n 2, 1, 0, 0), (.aload_n 0, 1, 0, 0), (.getfield 13, 3, 3, 1), (.if_icmp .ge 30, 3, 37, 0)]),
  (10, [(.iload_n 2, 1, 0, 0), (.aload_n 0, 1, 0, 0), (.getfield 7, 3, 3, 0), (.arraylength, 1, 0, 0), (.if_icmp .ge 21, 3, 37, 0)]),
  (19, [(.aload_n 0, 1, 0, 0), (.getfield 7, 3, 3, 0), (.iload_n 2, 1, 0, 0), (.iaload, 1, 0, 0), (.iload_n 1, 1, 0, 0), (.if_icmp .ne 5, 3, 31, 0)]),
  (29, [(.iconst 1, 1, 0, 0), (.ireturn, 1, 1, 0)]),
  (31, [(.iinc 2 1, 3, 0, 0), (.goto (-32), 3, 2, 0)]),
  (37, [(.iconst 0, 1, 0, 0), (.ireturn, 1, 1, 0)])]
theorem e_MoveRow_holds_0 {F : List rw4 → Prop} {G : Prop} : lkp F G t_MoveRow_holds 0 = F [(.iconst 0, 1, 0, 0), (.istore_n 2, 1, 0, 0)] := propext Iff.rfl
theorem e_MoveRow_holds_2 {F : List rw4 → Prop} {G : Prop} : lkp F G t_MoveRow_holds 2 = F [(.iload_n 2, 1, 0, 0), (.aload_n 0, 1, 0, 0), (.getfield 13, 3, 3, 1), (.if_icmp .ge 30, 3, 37, 0)] := propext Iff.rfl
theorem e_MoveRow_holds_10 {F : List rw4 → Prop} {G : Prop} : lkp F G t_MoveRow_holds 10 = F [(.iload_n 2, 1, 0, 0), (.aload_n 0, 1, 0, 0), (.getfield 7, 3, 3, 0), (.arraylength, 1, 0, 0), (.if_icmp .ge 21, 3, 37, 0)] := propext Iff.rfl
theorem e_MoveRow_holds_19 {F : List rw4 → Prop} {G : Prop} : lkp F G t_MoveRow_holds 19 = F [(.aload_n 0, 1, 0, 0), (.getfield 7, 3, 3, 0), (.iload_n 2, 1, 0, 0), (.iaload, 1, 0, 0), (.iload_n 1, 1, 0, 0), (.if_icmp .ne 5, 3, 31, 0)] := propext Iff.rfl
theorem e_MoveRow_holds_29 {F : List rw4 → Prop} {G : Prop} : lkp F G t_MoveRow_holds 29 = F [(.iconst 1, 1, 0, 0), (.ireturn, 1, 1, 0)] := propext Iff.rfl
theorem e_MoveRow_holds_31 {F : List rw4 → Prop} {G : Prop} : lkp F G t_MoveRow_holds 31 = F [(.iinc 2 1, 3, 0, 0), (.goto (-32), 3, 2, 0)] := propext Iff.rfl
theorem e_MoveRow_holds_37 {F : List rw4 → Prop} {G : Prop} : lkp F G t_MoveRow_holds 37 = F [(.iconst 0, 1, 0, 0), (.ireturn, 1, 1, 0)] := propext Iff.rfl
theorem o_MoveRow_holds : tOk k_MoveRow_holds t_MoveRow_holds = true := by decide +kernel
/-- DroppedPieces$MoveRow.fromOf(I)I; heads of loops: [] -/
def t_MoveRow_fromOf : tb4 := [
  (0, [(.iload_n 0, 1, 0, 0), (.sipush 128, 3, 0, 0), (.irem, 1, 0, 0), (.ireturn, 1, 0, 0)])]
theorem e_MoveRow_fromOf_0 {F : List rw4 → Prop} {G : Prop} : lkp F G t_MoveRow_fromOf 0 = F [(.iload_n 0, 1, 0, 0), (.sipush 128, 3, 0, 0), (.irem, 1, 0, 0), (.ireturn, 1, 0, 0)] := propext Iff.rfl
theorem o_MoveRow_fromOf : tOk k_MoveRow_fromOf t_MoveRow_fromOf = true := by decide +kernel
/-- DroppedPieces$MoveRow.toOf(I)I; heads of loops: [] -/
def t_MoveRow_toOf : tb4 := [
  (0, [(.iload_n 0, 1, 0, 0), (.sipush 16384, 3, 0, 0), (.irem, 1, 0, 0), (.sipush 128, 3, 0, 0), (.idiv, 1, 0, 0), (.ireturn, 1, 0, 0)])]
theorem e_MoveRow_toOf_0 {F : List rw4 → Prop} {G : Prop} : lkp F G t_MoveRow_toOf 0 = F [(.iload_n 0, 1, 0, 0), (.sipush 16384, 3, 0, 0), (.irem, 1, 0, 0), (.sipush 128, 3, 0, 0), (.idiv, 1, 0, 0), (.ireturn, 1, 0, 0)] := propext Iff.rfl
theorem o_MoveRow_toOf : tOk k_MoveRow_toOf t_MoveRow_toOf = true := by decide +kernel
/-- DroppedPieces$Pieces.unpromoted(I)I; heads of loops: [] -/
def t_Pieces_unpromoted : tb4 := [
  (0, [(.iload_n 0, 1, 0, 0), (.bipush 8, 2, 0, 0), (.if_icmp .le 10, 3, 13, 0)]),
  (6, [(.iload_n 0, 1, 0, 0), (.bipush 8, 2, 0, 0), (.isub, 1, 0, 0), (.goto 4, 3, 14, 0)]),
  (13, [(.iload_n 0, 1, 0, 0)]),
  (14, [(.ireturn, 1, 0, 0)])]
theorem e_Pieces_unpromoted_0 {F : List rw4 → Prop} {G : Prop} : lkp F G t_Pieces_unpromoted 0 = F [(.iload_n 0, 1, 0, 0), (.bipush 8, 2, 0, 0), (.if_icmp .le 10, 3, 13, 0)] := propext Iff.rfl
theorem e_Pieces_unpromoted_6 {F : List rw4 → Prop} {G : Prop} : lkp F G t_Pieces_unpromoted 6 = F [(.iload_n 0, 1, 0, 0), (.bipush 8, 2, 0, 0), (.isub, 1, 0, 0), (.goto 4, 3, 14, 0)] := propext Iff.rfl
theorem e_Pieces_unpromoted_13 {F : List rw4 → Prop} {G : Prop} : lkp F G t_Pieces_unpromoted 13 = F [(.iload_n 0, 1, 0, 0)] := propext Iff.rfl
theorem e_Pieces_unpromoted_14 {F : List rw4 → Prop} {G : Prop} : lkp F G t_Pieces_unpromoted 14 = F [(.ireturn, 1, 0, 0)] := propext Iff.rfl
theorem o_Pieces_unpromoted : tOk k_Pieces_unpromoted t_Pieces_unpromoted = true := by decide +kernel
/-- DroppedPieces$MoveRow.isPromotion(I)Z; heads of loops: [] -/
def t_MoveRow_isPromotion : tb4 := [
  (0, [(.iload_n 0, 1, 0, 0), (.sipush 16384, 3, 0, 0), (.if_icmp .lt 7, 3, 11, 0)]),
  (7, [(.iconst 1, 1, 0, 0), (.goto 4, 3, 12, 0)]),
  (11, [(.iconst 0, 1, 0, 0)]),
  (12, [(.ireturn, 1, 1, 0)])]
theorem e_MoveRow_isPromotion_0 {F : List rw4 → Prop} {G : Prop} : lkp F G t_MoveRow_isPromotion 0 = F [(.iload_n 0, 1, 0, 0), (.sipush 16384, 3, 0, 0), (.if_icmp .lt 7, 3, 11, 0)] := propext Iff.rfl
theorem e_MoveRow_isPromotion_7 {F : List rw4 → Prop} {G : Prop} : lkp F G t_MoveRow_isPromotion 7 = F [(.iconst 1, 1, 0, 0), (.goto 4, 3, 12, 0)] := propext Iff.rfl
theorem e_MoveRow_isPromotion_11 {F : List rw4 → Prop} {G : Prop} : lkp F G t_MoveRow_isPromotion 11 = F [(.iconst 0, 1, 0, 0)] := propext Iff.rfl
theorem e_MoveRow_isPromotion_12 {F : List rw4 → Prop} {G : Prop} : lkp F G t_MoveRow_isPromotion 12 = F [(.ireturn, 1, 1, 0)] := propext Iff.rfl
theorem o_MoveRow_isPromotion : tOk k_MoveRow_isPromotion t_MoveRow_isPromotion = true := by decide +kernel
/-- DroppedPieces$Board.takeBack(III)V; heads of loops: [] -/
def t_Board_takeBack : tb4 := [
  (0, [(.iload_n 2, 1, 0, 0), (.invokestatic 110, 3, 50, 1), (.istore 4, 2, 0, 0), (.iload_n 2, 1, 0, 0), (.invokestatic 115, 3, 51, 1), (.istore 5, 2, 0, 0), (.aload_n 0, 1, 0, 0), (.getfield 9, 3, 0, 0), (.iload 5, 2, 0, 0), (.iaload, 1, 0, 0), (.invokestatic 61, 3, 3, 1), (.istore 6, 2, 0, 0), (.aload_n 0, 1, 0, 0), (.getfield 9, 3, 0, 0), (.iload 5, 2, 0, 0), (.iconst 1, 1, 0, 0), (.iload_n 1, 1, 0, 0), (.isub, 1, 0, 0), (.iload_n 3, 1, 0, 0), (.invokestatic 68, 3, 42, 2), (.iastore, 1, 0, 0), (.iload 4, 2, 0, 0), (.bipush 81, 2, 0, 0), (.if_icmp .le 19, 3, 61, 0)]),
  (45, [(.aload_n 0, 1, 0, 0), (.getfield 15, 3, 0, 1), (.iload_n 1, 1, 0, 0), (.iload 6, 2, 0, 0), (.invokestatic 118, 3, 11, 2), (.dup2, 1, 0, 0), (.iaload, 1, 0, 0), (.iconst 1, 1, 0, 0), (.iadd, 1, 0, 0), (.iastore, 1, 0, 0), (.return_, 1, 0, 0)]),
  (61, [(.iload_n 3, 1, 0, 0), (.ifCond .eq 20, 3, 82, 0)]),
  (65, [(.aload_n 0, 1, 0, 0), (.getfield 15, 3, 0, 1), (.iload_n 1, 1, 0, 0), (.iload_n 3, 1, 0, 0), (.invokestatic 121, 3, 52, 1), (.invokestatic 118, 3, 11, 2), (.dup2, 1, 0, 0), (.iaload, 1, 0, 0), (.iconst 1, 1, 0, 0), (.isub, 1, 0, 0), (.iastore, 1, 0, 0)]),
  (82, [(.aload_n 0, 1, 0, 0), (.getfield 9, 3, 0, 0), (.iload 4, 2, 0, 0), (.iload_n 1, 1, 0, 0), (.iload_n 2, 1, 0, 0), (.invokestatic 124, 3, 53, 1), (.ifCond .eq 11, 3, 104, 0)]),
  (96, [(.iload 6, 2, 0, 0), (.bipush 8, 2, 0, 0), (.isub, 1, 0, 0), (.goto 5, 3, 106, 0)]),
  (104, [(.iload 6, 2, 0, 0)]),
  (106, [(.invokestatic 68, 3, 42, 2), (.iastore, 1, 0, 0), (.iload 6, 2, 0, 0), (.bipush 8, 2, 0, 0), (.if_icmp .ne 11, 3, 125, 0)]),
  (117, [(.aload_n 0, 1, 0, 0), (.getfield 18, 3, 0, 2), (.iload_n 1, 1, 0, 0), (.iload 4, 2, 0, 0), (.iastore, 1, 0, 0)]),
  (125, [(.return_, 1, 0, 0)])]
theorem e_Board_takeBack_0 {F : List rw4 → Prop} {G : Prop} : lkp F G t_Board_takeBack 0 = F [(.iload_n 2, 1, 0, 0), (.invokestatic 110, 3, 50, 1), (.istore 4, 2, 0, 0), (.iload_n 2, 1, 0, 0), (.invokestatic 115, 3, 51, 1), (.istore 5, 2, 0, 0), (.aload_n 0, 1, 0, 0), (.getfield 9, 3, 0, 0), (.iload 5, 2, 0, 0), (.iaload, 1, 0, 0), (.invokestatic 61, 3, 3, 1), (.istore 6, 2, 0, 0), (.aload_n 0, 1, 0, 0), (.getfield 9, 3, 0, 0), (.iload 5, 2, 0, 0), (.iconst 1, 1, 0, 0), (.iload_n 1, 1, 0, 0), (.isub, 1, 0, 0), (.iload_n 3, 1, 0, 0), (.invokestatic 68, 3, 42, 2), (.iastore, 1, 0, 0), (.iload 4, 2, 0, 0), (.bipush 81, 2, 0, 0), (.if_icmp .le 19, 3, 61, 0)] := propext Iff.rfl
theorem e_Board_takeBack_45 {F : List rw4 → Prop} {G : Prop} : lkp F G t_Board_takeBack 45 = F [(.aload_n 0, 1, 0, 0), (.getfield 15, 3, 0, 1), (.iload_n 1, 1, 0, 0), (.iload 6, 2, 0, 0), (.invokestatic 118, 3, 11, 2), (.dup2, 1, 0, 0), (.iaload, 1, 0, 0), (.iconst 1, 1, 0, 0), (.iadd, 1, 0, 0), (.iastore, 1, 0, 0), (.return_, 1, 0, 0)] := propext Iff.rfl
theorem e_Board_takeBack_61 {F : List rw4 → Prop} {G : Prop} : lkp F G t_Board_takeBack 61 = F [(.iload_n 3, 1, 0, 0), (.ifCond .eq 20, 3, 82, 0)] := propext Iff.rfl
theorem e_Board_takeBack_65 {F : List rw4 → Prop} {G : Prop} : lkp F G t_Board_takeBack 65 = F [(.aload_n 0, 1, 0, 0), (.getfield 15, 3, 0, 1), (.iload_n 1, 1, 0, 0), (.iload_n 3, 1, 0, 0), (.invokestatic 121, 3, 52, 1), (.invokestatic 118, 3, 11, 2), (.dup2, 1, 0, 0), (.iaload, 1, 0, 0), (.iconst 1, 1, 0, 0), (.isub, 1, 0, 0), (.iastore, 1, 0, 0)] := propext Iff.rfl
theorem e_Board_takeBack_82 {F : List rw4 → Prop} {G : Prop} : lkp F G t_Board_takeBack 82 = F [(.aload_n 0, 1, 0, 0), (.getfield 9, 3, 0, 0), (.iload 4, 2, 0, 0), (.iload_n 1, 1, 0, 0), (.iload_n 2, 1, 0, 0), (.invokestatic 124, 3, 53, 1), (.ifCond .eq 11, 3, 104, 0)] := propext Iff.rfl
theorem e_Board_takeBack_96 {F : List rw4 → Prop} {G : Prop} : lkp F G t_Board_takeBack 96 = F [(.iload 6, 2, 0, 0), (.bipush 8, 2, 0, 0), (.isub, 1, 0, 0), (.goto 5, 3, 106, 0)] := propext Iff.rfl
theorem e_Board_takeBack_104 {F : List rw4 → Prop} {G : Prop} : lkp F G t_Board_takeBack 104 = F [(.iload 6, 2, 0, 0)] := propext Iff.rfl
theorem e_Board_takeBack_106 {F : List rw4 → Prop} {G : Prop} : lkp F G t_Board_takeBack 106 = F [(.invokestatic 68, 3, 42, 2), (.iastore, 1, 0, 0), (.iload 6, 2, 0, 0), (.bipush 8, 2, 0, 0), (.if_icmp .ne 11, 3, 125, 0)] := propext Iff.rfl
theorem e_Board_takeBack_117 {F : List rw4 → Prop} {G : Prop} : lkp F G t_Board_takeBack 117 = F [(.aload_n 0, 1, 0, 0), (.getfield 18, 3, 0, 2), (.iload_n 1, 1, 0, 0), (.iload 4, 2, 0, 0), (.iastore, 1, 0, 0)] := propext Iff.rfl
theorem e_Board_takeBack_125 {F : List rw4 → Prop} {G : Prop} : lkp F G t_Board_takeBack 125 = F [(.return_, 1, 0, 0)] := propext Iff.rfl
theorem o_Board_takeBack : tOk k_Board_takeBack t_Board_takeBack = true := by decide +kernel
/-- DroppedPieces$Board.isSameAs(LDroppedPieces$Board;)Z; heads of loops: [2, 36] -/
def t_Board_isSameAs : tb4 := [
  (0, [(.iconst 0, 1, 0, 0), (.istore_n 2, 1, 0, 0)]),
  (2, [(.iload_n 2, 1, 0, 0), (.aload_n 0, 1, 0, 0), (.getfield 9, 3, 0, 0), (.arraylength, 1, 0, 0), (.if_icmp .ge 26, 3, 34, 0)]),
  (11, [(.aload_n 0, 1, 0, 0), (.getfield 9, 3, 0, 0), (.iload_n 2, 1, 0, 0), (.iaload, 1, 0, 0), (.aload_n 1, 1, 0, 0), (.getfield 9, 3, 0, 0), (.iload_n 2, 1, 0, 0), (.iaload, 1, 0, 0), (.if_icmp .eq 5, 3, 28, 0)]),
  (26, [(.iconst 0, 1, 0, 0), (.ireturn, 1, 1, 0)]),
  (28, [(.iinc 2 1, 3, 0, 0), (.goto (-29), 3, 2, 0)]),
  (34, [(.iconst 0, 1, 0, 0), (.istore_n 2, 1, 0, 0)]),
  (36, [(.iload_n 2, 1, 0, 0), (.aload_n 0, 1, 0, 0), (.getfield 15, 3, 0, 1), (.arraylength, 1, 0, 0), (.if_icmp .ge 26, 3, 68, 0)]),
  (45, [(.aload_n 0, 1, 0, 0), (.getfield 15, 3, 0, 1), (.iload_n 2, 1, 0, 0), (.iaload, 1, 0, 0), (.aload_n 1, 1, 0, 0), (.getfield 15, 3, 0, 1), (.iload_n 2, 1, 0, 0), (.iaload, 1, 0, 0), (.if_icmp .eq 5, 3, 62, 0)]),
  (60, [(.iconst 0, 1, 0, 0), (.ireturn, 1, 1, 0)]),
  (62, [(.iinc 2 1, 3, 0, 0), (.goto (-29), 3, 36, 0)]),
  (68, [(.iconst 1, 1, 0, 0), (.ireturn, 1, 1, 0)])]
theorem e_Board_isSameAs_0 {F : List rw4 → Prop} {G : Prop} : lkp F G t_Board_isSameAs 0 = F [(.iconst 0, 1, 0, 0), (.istore_n 2, 1, 0, 0)] := propext Iff.rfl
theorem e_Board_isSameAs_2 {F : List rw4 → Prop} {G : Prop} : lkp F G t_Board_isSameAs 2 = F [(.iload_n 2, 1, 0, 0), (.aload_n 0, 1, 0, 0), (.getfield 9, 3, 0, 0), (.arraylength, 1, 0, 0), (.if_icmp .ge 26, 3, 34, 0)] := propext Iff.rfl
theorem e_Board_isSameAs_11 {F : List rw4 → Prop} {G : Prop} : lkp F G t_Board_isSameAs 11 = F [(.aload_n 0, 1, 0, 0), (.getfield 9, 3, 0, 0), (.iload_n 2, 1, 0, 0), (.iaload, 1, 0, 0), (.aload_n 1, 1, 0, 0), (.getfield 9, 3, 0, 0), (.iload_n 2, 1, 0, 0), (.iaload, 1, 0, 0), (.if_icmp .eq 5, 3, 28, 0)] := propext Iff.rfl
theorem e_Board_isSameAs_26 {F : List rw4 → Prop} {G : Prop} : lkp F G t_Board_isSameAs 26 = F [(.iconst 0, 1, 0, 0), (.ireturn, 1, 1, 0)] := propext Iff.rfl
theorem e_Board_isSameAs_28 {F : List rw4 → Prop} {G : Prop} : lkp F G t_Board_isSameAs 28 = F [(.iinc 2 1, 3, 0, 0), (.goto (-29), 3, 2, 0)] := propext Iff.rfl
theorem e_Board_isSameAs_34 {F : List rw4 → Prop} {G : Prop} : lkp F G t_Board_isSameAs 34 = F [(.iconst 0, 1, 0, 0), (.istore_n 2, 1, 0, 0)] := propext Iff.rfl
theorem e_Board_isSameAs_36 {F : List rw4 → Prop} {G : Prop} : lkp F G t_Board_isSameAs 36 = F [(.iload_n 2, 1, 0, 0), (.aload_n 0, 1, 0, 0), (.getfield 15, 3, 0, 1), (.arraylength, 1, 0, 0), (.if_icmp .ge 26, 3, 68, 0)] := propext Iff.rfl
theorem e_Board_isSameAs_45 {F : List rw4 → Prop} {G : Prop} : lkp F G t_Board_isSameAs 45 = F [(.aload_n 0, 1, 0, 0), (.getfield 15, 3, 0, 1), (.iload_n 2, 1, 0, 0), (.iaload, 1, 0, 0), (.aload_n 1, 1, 0, 0), (.getfield 15, 3, 0, 1), (.iload_n 2, 1, 0, 0), (.iaload, 1, 0, 0), (.if_icmp .eq 5, 3, 62, 0)] := propext Iff.rfl
theorem e_Board_isSameAs_60 {F : List rw4 → Prop} {G : Prop} : lkp F G t_Board_isSameAs 60 = F [(.iconst 0, 1, 0, 0), (.ireturn, 1, 1, 0)] := propext Iff.rfl
theorem e_Board_isSameAs_62 {F : List rw4 → Prop} {G : Prop} : lkp F G t_Board_isSameAs 62 = F [(.iinc 2 1, 3, 0, 0), (.goto (-29), 3, 36, 0)] := propext Iff.rfl
theorem e_Board_isSameAs_68 {F : List rw4 → Prop} {G : Prop} : lkp F G t_Board_isSameAs 68 = F [(.iconst 1, 1, 0, 0), (.ireturn, 1, 1, 0)] := propext Iff.rfl
theorem o_Board_isSameAs : tOk k_Board_isSameAs t_Board_isSameAs = true := by decide +kernel
/-- DroppedPieces$History.countSame(LDroppedPieces$Board;I)I; heads of loops: [21] -/
def t_History_countSame : tb4 := [
  (0, [(.aload_n 0, 1, 0, 0), (.getfield 25, 3, 2, 3), (.aload_n 1, 1, 0, 0), (.invokevirtual 33, 3, 49, 1), (.iconst 1, 1, 0, 0), (.istore_n 3, 1, 0, 0), (.iload_n 2, 1, 0, 0), (.istore 4, 2, 0, 0), (.aload_n 0, 1, 0, 0), (.getfield 29, 3, 2, 5), (.iconst 1, 1, 0, 0), (.isub, 1, 0, 0), (.istore 5, 2, 0, 0)]),
  (21, [(.iload 5, 2, 0, 0), (.ifCond .lt 69, 3, 92, 0)]),
  (26, [(.iconst 1, 1, 0, 0), (.iload 4, 2, 0, 0), (.isub, 1, 0, 0), (.istore 4, 2, 0, 0), (.aload_n 0, 1, 0, 0), (.getfield 25, 3, 2, 3), (.iload 4, 2, 0, 0), (.aload_n 0, 1, 0, 0), (.getfield 11, 3, 2, 0), (.iload 5, 2, 0, 0), (.iaload, 1, 0, 0), (.aload_n 0, 1, 0, 0), (.getfield 15, 3, 2, 1), (.iload 5, 2, 0, 0), (.iaload, 1, 0, 0), (.invokevirtual 37, 3, 54, 3), (.iload 4, 2, 0, 0), (.iload_n 2, 1, 0, 0), (.if_icmp .ne 28, 3, 86, 0)]),
  (61, [(.aload_n 0, 1, 0, 0), (.getfield 25, 3, 2, 3), (.aload_n 1, 1, 0, 0), (.invokevirtual 41, 3, 55, 1), (.ifCond .eq 17, 3, 86, 0)]),
  (72, [(.iinc 3 1, 3, 0, 0), (.iload_n 3, 1, 0, 0), (.iconst 4, 1, 0, 0), (.if_icmp .ne 9, 3, 86, 0)]),
  (80, [(.aload_n 0, 1, 0, 0), (.iload 5, 2, 0, 0), (.putfield 45, 3, 2, 4)]),
  (86, [(.iinc 5 (-1), 3, 0, 0), (.goto (-68), 3, 21, 0)]),
  (92, [(.iload_n 3, 1, 0, 0), (.ireturn, 1, 0, 0)])]
theorem e_History_countSame_0 {F : List rw4 → Prop} {G : Prop} : lkp F G t_History_countSame 0 = F [(.aload_n 0, 1, 0, 0), (.getfield 25, 3, 2, 3), (.aload_n 1, 1, 0, 0), (.invokevirtual 33, 3, 49, 1), (.iconst 1, 1, 0, 0), (.istore_n 3, 1, 0, 0), (.iload_n 2, 1, 0, 0), (.istore 4, 2, 0, 0), (.aload_n 0, 1, 0, 0), (.getfield 29, 3, 2, 5), (.iconst 1, 1, 0, 0), (.isub, 1, 0, 0), (.istore 5, 2, 0, 0)] := propext Iff.rfl
theorem e_History_countSame_21 {F : List rw4 → Prop} {G : Prop} : lkp F G t_History_countSame 21 = F [(.iload 5, 2, 0, 0), (.ifCond .lt 69, 3, 92, 0)] := propext Iff.rfl
theorem e_History_countSame_26 {F : List rw4 → Prop} {G : Prop} : lkp F G t_History_countSame 26 = F [(.iconst 1, 1, 0, 0), (.iload 4, 2, 0, 0), (.isub, 1, 0, 0), (.istore 4, 2, 0, 0), (.aload_n 0, 1, 0, 0), (.getfield 25, 3, 2, 3), (.iload 4, 2, 0, 0), (.aload_n 0, 1, 0, 0), (.getfield 11, 3, 2, 0), (.iload 5, 2, 0, 0), (.iaload, 1, 0, 0), (.aload_n 0, 1, 0, 0), (.getfield 15, 3, 2, 1), (.iload 5, 2, 0, 0), (.iaload, 1, 0, 0), (.invokevirtual 37, 3, 54, 3), (.iload 4, 2, 0, 0), (.iload_n 2, 1, 0, 0), (.if_icmp .ne 28, 3, 86, 0)] := propext Iff.rfl
theorem e_History_countSame_61 {F : List rw4 → Prop} {G : Prop} : lkp F G t_History_countSame 61 = F [(.aload_n 0, 1, 0, 0), (.getfield 25, 3, 2, 3), (.aload_n 1, 1, 0, 0), (.invokevirtual 41, 3, 55, 1), (.ifCond .eq 17, 3, 86, 0)] := propext Iff.rfl
theorem e_History_countSame_72 {F : List rw4 → Prop} {G : Prop} : lkp F G t_History_countSame 72 = F [(.iinc 3 1, 3, 0, 0), (.iload_n 3, 1, 0, 0), (.iconst 4, 1, 0, 0), (.if_icmp .ne 9, 3, 86, 0)] := propext Iff.rfl
theorem e_History_countSame_80 {F : List rw4 → Prop} {G : Prop} : lkp F G t_History_countSame 80 = F [(.aload_n 0, 1, 0, 0), (.iload 5, 2, 0, 0), (.putfield 45, 3, 2, 4)] := propext Iff.rfl
theorem e_History_countSame_86 {F : List rw4 → Prop} {G : Prop} : lkp F G t_History_countSame 86 = F [(.iinc 5 (-1), 3, 0, 0), (.goto (-68), 3, 21, 0)] := propext Iff.rfl
theorem e_History_countSame_92 {F : List rw4 → Prop} {G : Prop} : lkp F G t_History_countSame 92 = F [(.iload_n 3, 1, 0, 0), (.ireturn, 1, 0, 0)] := propext Iff.rfl
theorem o_History_countSame : tOk k_History_countSame t_History_countSame = true := by decide +kernel
/-- DroppedPieces$History.areAllChecks(I)Z; heads of loops: [2] -/
def t_History_areAllChecks : tb4 := [
  (0, [(.iload_n 1, 1, 0, 0), (.istore_n 2, 1, 0, 0)]),
  (2, [(.iload_n 2, 1, 0, 0), (.aload_n 0, 1, 0, 0), (.getfield 29, 3, 2, 5), (.if_icmp .ge 20, 3, 27, 0)]),
  (10, [(.aload_n 0, 1, 0, 0), (.getfield 18, 3, 2, 2), (.iload_n 2, 1, 0, 0), (.baload, 1, 0, 0), (.ifCond .ne 5, 3, 21, 0)]),
  (19, [(.iconst 0, 1, 0, 0), (.ireturn, 1, 1, 0)]),
  (21, [(.iinc 2 2, 3, 0, 0), (.goto (-22), 3, 2, 0)]),
  (27, [(.iconst 1, 1, 0, 0), (.ireturn, 1, 1, 0)])]
theorem e_History_areAllChecks_0 {F : List rw4 → Prop} {G : Prop} : lkp F G t_History_areAllChecks 0 = F [(.iload_n 1, 1, 0, 0), (.istore_n 2, 1, 0, 0)] := propext Iff.rfl
theorem e_History_areAllChecks_2 {F : List rw4 → Prop} {G : Prop} : lkp F G t_History_areAllChecks 2 = F [(.iload_n 2, 1, 0, 0), (.aload_n 0, 1, 0, 0), (.getfield 29, 3, 2, 5), (.if_icmp .ge 20, 3, 27, 0)] := propext Iff.rfl
theorem e_History_areAllChecks_10 {F : List rw4 → Prop} {G : Prop} : lkp F G t_History_areAllChecks 10 = F [(.aload_n 0, 1, 0, 0), (.getfield 18, 3, 2, 2), (.iload_n 2, 1, 0, 0), (.baload, 1, 0, 0), (.ifCond .ne 5, 3, 21, 0)] := propext Iff.rfl
theorem e_History_areAllChecks_19 {F : List rw4 → Prop} {G : Prop} : lkp F G t_History_areAllChecks 19 = F [(.iconst 0, 1, 0, 0), (.ireturn, 1, 1, 0)] := propext Iff.rfl
theorem e_History_areAllChecks_21 {F : List rw4 → Prop} {G : Prop} : lkp F G t_History_areAllChecks 21 = F [(.iinc 2 2, 3, 0, 0), (.goto (-22), 3, 2, 0)] := propext Iff.rfl
theorem e_History_areAllChecks_27 {F : List rw4 → Prop} {G : Prop} : lkp F G t_History_areAllChecks 27 = F [(.iconst 1, 1, 0, 0), (.ireturn, 1, 1, 0)] := propext Iff.rfl
theorem o_History_areAllChecks : tOk k_History_areAllChecks t_History_areAllChecks = true := by decide +kernel
/-- DroppedPieces$History.repetition(LDroppedPieces$Board;I)I; heads of loops: [] -/
def t_History_repetition : tb4 := [
  (0, [(.aload_n 0, 1, 0, 0), (.aload_n 1, 1, 0, 0), (.iload_n 2, 1, 0, 0), (.invokevirtual 48, 3, 56, 2), (.iconst 4, 1, 0, 0), (.if_icmp .ge 5, 3, 12, 0)]),
  (10, [(.iconst 0, 1, 0, 0), (.ireturn, 1, 0, 0)]),
  (12, [(.aload_n 0, 1, 0, 0), (.aload_n 0, 1, 0, 0), (.getfield 45, 3, 2, 4), (.invokevirtual 52, 3, 57, 1), (.ifCond .eq 5, 3, 25, 0)]),
  (23, [(.iconst 3, 1, 0, 0), (.ireturn, 1, 0, 0)]),
  (25, [(.aload_n 0, 1, 0, 0), (.aload_n 0, 1, 0, 0), (.getfield 45, 3, 2, 4), (.iconst 1, 1, 0, 0), (.iadd, 1, 0, 0), (.invokevirtual 52, 3, 57, 1), (.ifCond .eq 7, 3, 42, 0)]),
  (38, [(.iconst 4, 1, 0, 0), (.goto 4, 3, 43, 0)]),
  (42, [(.iconst 2, 1, 0, 0)]),
  (43, [(.ireturn, 1, 0, 0)])]
theorem e_History_repetition_0 {F : List rw4 → Prop} {G : Prop} : lkp F G t_History_repetition 0 = F [(.aload_n 0, 1, 0, 0), (.aload_n 1, 1, 0, 0), (.iload_n 2, 1, 0, 0), (.invokevirtual 48, 3, 56, 2), (.iconst 4, 1, 0, 0), (.if_icmp .ge 5, 3, 12, 0)] := propext Iff.rfl
theorem e_History_repetition_10 {F : List rw4 → Prop} {G : Prop} : lkp F G t_History_repetition 10 = F [(.iconst 0, 1, 0, 0), (.ireturn, 1, 0, 0)] := propext Iff.rfl
theorem e_History_repetition_12 {F : List rw4 → Prop} {G : Prop} : lkp F G t_History_repetition 12 = F [(.aload_n 0, 1, 0, 0), (.aload_n 0, 1, 0, 0), (.getfield 45, 3, 2, 4), (.invokevirtual 52, 3, 57, 1), (.ifCond .eq 5, 3, 25, 0)] := propext Iff.rfl
theorem e_History_repetition_23 {F : List rw4 → Prop} {G : Prop} : lkp F G t_History_repetition 23 = F [(.iconst 3, 1, 0, 0), (.ireturn, 1, 0, 0)] := propext Iff.rfl
theorem e_History_repetition_25 {F : List rw4 → Prop} {G : Prop} : lkp F G t_History_repetition 25 = F [(.aload_n 0, 1, 0, 0), (.aload_n 0, 1, 0, 0), (.getfield 45, 3, 2, 4), (.iconst 1, 1, 0, 0), (.iadd, 1, 0, 0), (.invokevirtual 52, 3, 57, 1), (.ifCond .eq 7, 3, 42, 0)] := propext Iff.rfl
theorem e_History_repetition_38 {F : List rw4 → Prop} {G : Prop} : lkp F G t_History_repetition 38 = F [(.iconst 4, 1, 0, 0), (.goto 4, 3, 43, 0)] := propext Iff.rfl
theorem e_History_repetition_42 {F : List rw4 → Prop} {G : Prop} : lkp F G t_History_repetition 42 = F [(.iconst 2, 1, 0, 0)] := propext Iff.rfl
theorem e_History_repetition_43 {F : List rw4 → Prop} {G : Prop} : lkp F G t_History_repetition 43 = F [(.ireturn, 1, 0, 0)] := propext Iff.rfl
theorem o_History_repetition : tOk k_History_repetition t_History_repetition = true := by decide +kernel
/-- DroppedPieces.outcome()I; heads of loops: [] -/
def t_DP_outcome : tb4 := [
  (0, [(.aload_n 0, 1, 0, 0), (.getfield 37, 3, 5, 3), (.getfield 117, 3, 3, 1), (.ifCond .ne 7, 3, 14, 0)]),
  (10, [(.iconst 1, 1, 0, 0), (.goto 18, 3, 29, 0)]),
  (14, [(.aload_n 0, 1, 0, 0), (.getfield 28, 3, 5, 2), (.aload_n 0, 1, 0, 0), (.getfield 10, 3, 5, 0), (.aload_n 0, 1, 0, 0), (.getfield 54, 3, 5, 5), (.invokevirtual 183, 3, 58, 2)]),
  (29, [(.ireturn, 1, 0, 0)])]
theorem e_DP_outcome_0 {F : List rw4 → Prop} {G : Prop} : lkp F G t_DP_outcome 0 = F [(.aload_n 0, 1, 0, 0), (.getfield 37, 3, 5, 3), (.getfield 117, 3, 3, 1), (.ifCond .ne 7, 3, 14, 0)] := propext Iff.rfl
theorem e_DP_outcome_10 {F : List rw4 → Prop} {G : Prop} : lkp F G t_DP_outcome 10 = F [(.iconst 1, 1, 0, 0), (.goto 18, 3, 29, 0)] := propext Iff.rfl
theorem e_DP_outcome_14 {F : List rw4 → Prop} {G : Prop} : lkp F G t_DP_outcome 14 = F [(.aload_n 0, 1, 0, 0), (.getfield 28, 3, 5, 2), (.aload_n 0, 1, 0, 0), (.getfield 10, 3, 5, 0), (.aload_n 0, 1, 0, 0), (.getfield 54, 3, 5, 5), (.invokevirtual 183, 3, 58, 2)] := propext Iff.rfl
theorem e_DP_outcome_29 {F : List rw4 → Prop} {G : Prop} : lkp F G t_DP_outcome 29 = F [(.ireturn, 1, 0, 0)] := propext Iff.rfl
theorem o_DP_outcome : tOk k_DP_outcome t_DP_outcome = true := by decide +kernel
/-- DroppedPieces.made()I; heads of loops: [] -/
def t_DP_made : tb4 := [
  (0, [(.aload_n 0, 1, 0, 0), (.getfield 28, 3, 5, 2), (.getfield 50, 3, 2, 5), (.ireturn, 1, 0, 0)])]
theorem e_DP_made_0 {F : List rw4 → Prop} {G : Prop} : lkp F G t_DP_made 0 = F [(.aload_n 0, 1, 0, 0), (.getfield 28, 3, 5, 2), (.getfield 50, 3, 2, 5), (.ireturn, 1, 0, 0)] := propext Iff.rfl
theorem o_DP_made : tOk k_DP_made t_DP_made = true := by decide +kernel
/-- DroppedPieces$Board.make(II)I; heads of loops: [] -/
def t_Board_make : tb4 := [
  (0, [(.iload_n 2, 1, 0, 0), (.invokestatic 110, 3, 50, 1), (.istore_n 3, 1, 0, 0), (.iload_n 2, 1, 0, 0), (.invokestatic 115, 3, 51, 1), (.istore 4, 2, 0, 0), (.iload_n 3, 1, 0, 0), (.bipush 81, 2, 0, 0), (.if_icmp .le 39, 3, 53, 0)]),
  (17, [(.iload_n 3, 1, 0, 0), (.bipush 81, 2, 0, 0), (.isub, 1, 0, 0), (.istore 5, 2, 0, 0), (.aload_n 0, 1, 0, 0), (.getfield 15, 3, 0, 1), (.iload_n 1, 1, 0, 0), (.iload 5, 2, 0, 0), (.invokestatic 118, 3, 11, 2), (.dup2, 1, 0, 0), (.iaload, 1, 0, 0), (.iconst 1, 1, 0, 0), (.isub, 1, 0, 0), (.iastore, 1, 0, 0), (.aload_n 0, 1, 0, 0), (.getfield 9, 3, 0, 0), (.iload 4, 2, 0, 0), (.iload_n 1, 1, 0, 0), (.iload 5, 2, 0, 0), (.invokestatic 68, 3, 42, 2), (.iastore, 1, 0, 0), (.iconst 0, 1, 0, 0), (.ireturn, 1, 0, 0)]),
  (53, [(.aload_n 0, 1, 0, 0), (.getfield 9, 3, 0, 0), (.iload 4, 2, 0, 0), (.iaload, 1, 0, 0), (.invokestatic 61, 3, 3, 1), (.istore 5, 2, 0, 0), (.iload 5, 2, 0, 0), (.ifCond .eq 21, 3, 88, 0)]),
  (70, [(.aload_n 0, 1, 0, 0), (.getfield 15, 3, 0, 1), (.iload_n 1, 1, 0, 0), (.iload 5, 2, 0, 0), (.invokestatic 121, 3, 52, 1), (.invokestatic 118, 3, 11, 2), (.dup2, 1, 0, 0), (.iaload, 1, 0, 0), (.iconst 1, 1, 0, 0), (.iadd, 1, 0, 0), (.iastore, 1, 0, 0)]),
  (88, [(.aload_n 0, 1, 0, 0), (.getfield 9, 3, 0, 0), (.iload_n 3, 1, 0, 0), (.iaload, 1, 0, 0), (.invokestatic 61, 3, 3, 1), (.istore 6, 2, 0, 0), (.aload_n 0, 1, 0, 0), (.getfield 9, 3, 0, 0), (.iload_n 3, 1, 0, 0), (.iconst 0, 1, 0, 0), (.iastore, 1, 0, 0), (.aload_n 0, 1, 0, 0), (.getfield 9, 3, 0, 0), (.iload 4, 2, 0, 0), (.iload_n 1, 1, 0, 0), (.iload_n 2, 1, 0, 0), (.invokestatic 124, 3, 53, 1), (.ifCond .eq 11, 3, 128, 0)]),
  (120, [(.iload 6, 2, 0, 0), (.bipush 8, 2, 0, 0), (.iadd, 1, 0, 0), (.goto 5, 3, 130, 0)]),
  (128, [(.iload 6, 2, 0, 0)]),
  (130, [(.invokestatic 68, 3, 42, 2), (.iastore, 1, 0, 0), (.iload 6, 2, 0, 0), (.bipush 8, 2, 0, 0), (.if_icmp .ne 11, 3, 149, 0)]),
  (141, [(.aload_n 0, 1, 0, 0), (.getfield 18, 3, 0, 2), (.iload_n 1, 1, 0, 0), (.iload 4, 2, 0, 0), (.iastore, 1, 0, 0)]),
  (149, [(.iload 5, 2, 0, 0), (.ireturn, 1, 0, 0)])]
theorem e_Board_make_0 {F : List rw4 → Prop} {G : Prop} : lkp F G t_Board_make 0 = F [(.iload_n 2, 1, 0, 0), (.invokestatic 110, 3, 50, 1), (.istore_n 3, 1, 0, 0), (.iload_n 2, 1, 0, 0), (.invokestatic 115, 3, 51, 1), (.istore 4, 2, 0, 0), (.iload_n 3, 1, 0, 0), (.bipush 81, 2, 0, 0), (.if_icmp .le 39, 3, 53, 0)] := propext Iff.rfl
theorem e_Board_make_17 {F : List rw4 → Prop} {G : Prop} : lkp F G t_Board_make 17 = F [(.iload_n 3, 1, 0, 0), (.bipush 81, 2, 0, 0), (.isub, 1, 0, 0), (.istore 5, 2, 0, 0), (.aload_n 0, 1, 0, 0), (.getfield 15, 3, 0, 1), (.iload_n 1, 1, 0, 0), (.iload 5, 2, 0, 0), (.invokestatic 118, 3, 11, 2), (.dup2, 1, 0, 0), (.iaload, 1, 0, 0), (.iconst 1, 1, 0, 0), (.isub, 1, 0, 0), (.iastore, 1, 0, 0), (.aload_n 0, 1, 0, 0), (.getfield 9, 3, 0, 0), (.iload 4, 2, 0, 0), (.iload_n 1, 1, 0, 0), (.iload 5, 2, 0, 0), (.invokestatic 68, 3, 42, 2), (.iastore, 1, 0, 0), (.iconst 0, 1, 0, 0), (.ireturn, 1, 0, 0)] := propext Iff.rfl
theorem e_Board_make_53 {F : List rw4 → Prop} {G : Prop} : lkp F G t_Board_make 53 = F [(.aload_n 0, 1, 0, 0), (.getfield 9, 3, 0, 0), (.iload 4, 2, 0, 0), (.iaload, 1, 0, 0), (.invokestatic 61, 3, 3, 1), (.istore 5, 2, 0, 0), (.iload 5, 2, 0, 0), (.ifCond .eq 21, 3, 88, 0)] := propext Iff.rfl
theorem e_Board_make_70 {F : List rw4 → Prop} {G : Prop} : lkp F G t_Board_make 70 = F [(.aload_n 0, 1, 0, 0), (.getfield 15, 3, 0, 1), (.iload_n 1, 1, 0, 0), (.iload 5, 2, 0, 0), (.invokestatic 121, 3, 52, 1), (.invokestatic 118, 3, 11, 2), (.dup2, 1, 0, 0), (.iaload, 1, 0, 0), (.iconst 1, 1, 0, 0), (.iadd, 1, 0, 0), (.iastore, 1, 0, 0)] := propext Iff.rfl
theorem e_Board_make_88 {F : List rw4 → Prop} {G : Prop} : lkp F G t_Board_make 88 = F [(.aload_n 0, 1, 0, 0), (.getfield 9, 3, 0, 0), (.iload_n 3, 1, 0, 0), (.iaload, 1, 0, 0), (.invokestatic 61, 3, 3, 1), (.istore 6, 2, 0, 0), (.aload_n 0, 1, 0, 0), (.getfield 9, 3, 0, 0), (.iload_n 3, 1, 0, 0), (.iconst 0, 1, 0, 0), (.iastore, 1, 0, 0), (.aload_n 0, 1, 0, 0), (.getfield 9, 3, 0, 0), (.iload 4, 2, 0, 0), (.iload_n 1, 1, 0, 0), (.iload_n 2, 1, 0, 0), (.invokestatic 124, 3, 53, 1), (.ifCond .eq 11, 3, 128, 0)] := propext Iff.rfl
theorem e_Board_make_120 {F : List rw4 → Prop} {G : Prop} : lkp F G t_Board_make 120 = F [(.iload 6, 2, 0, 0), (.bipush 8, 2, 0, 0), (.iadd, 1, 0, 0), (.goto 5, 3, 130, 0)] := propext Iff.rfl
theorem e_Board_make_128 {F : List rw4 → Prop} {G : Prop} : lkp F G t_Board_make 128 = F [(.iload 6, 2, 0, 0)] := propext Iff.rfl
theorem e_Board_make_130 {F : List rw4 → Prop} {G : Prop} : lkp F G t_Board_make 130 = F [(.invokestatic 68, 3, 42, 2), (.iastore, 1, 0, 0), (.iload 6, 2, 0, 0), (.bipush 8, 2, 0, 0), (.if_icmp .ne 11, 3, 149, 0)] := propext Iff.rfl
theorem e_Board_make_141 {F : List rw4 → Prop} {G : Prop} : lkp F G t_Board_make 141 = F [(.aload_n 0, 1, 0, 0), (.getfield 18, 3, 0, 2), (.iload_n 1, 1, 0, 0), (.iload 4, 2, 0, 0), (.iastore, 1, 0, 0)] := propext Iff.rfl
theorem e_Board_make_149 {F : List rw4 → Prop} {G : Prop} : lkp F G t_Board_make 149 = F [(.iload 5, 2, 0, 0), (.ireturn, 1, 0, 0)] := propext Iff.rfl
theorem o_Board_make : tOk k_Board_make t_Board_make = true := by decide +kernel
/-- DroppedPieces.isMatedBehind(I)Z; heads of loops: [] -/
def t_DP_isMatedBehind : tb4 := [
  (0, [(.aload_n 0, 1, 0, 0), (.getfield 10, 3, 5, 0), (.aload_n 0, 1, 0, 0), (.getfield 54, 3, 5, 5), (.iload_n 1, 1, 0, 0), (.invokevirtual 146, 3, 61, 2), (.istore_n 2, 1, 0, 0), (.aload_n 0, 1, 0, 0), (.getfield 10, 3, 5, 0), (.iconst 1, 1, 0, 0), (.aload_n 0, 1, 0, 0), (.getfield 54, 3, 5, 5), (.isub, 1, 0, 0), (.invokevirtual 107, 3, 23, 1), (.istore_n 3, 1, 0, 0), (.iload_n 3, 1, 0, 0), (.ifCond .eq 36, 3, 64, 0)]),
  (31, [(.aload_n 0, 1, 0, 0), (.getfield 21, 3, 5, 1), (.iconst 1, 1, 0, 0), (.aload_n 0, 1, 0, 0), (.getfield 54, 3, 5, 5), (.isub, 1, 0, 0), (.aload_n 0, 1, 0, 0), (.getfield 41, 3, 5, 4), (.invokevirtual 113, 3, 47, 2), (.aload_n 0, 1, 0, 0), (.getfield 41, 3, 5, 4), (.getfield 117, 3, 3, 1), (.ifCond .ne 7, 3, 62, 0)]),
  (58, [(.iconst 1, 1, 0, 0), (.goto 4, 3, 63, 0)]),
  (62, [(.iconst 0, 1, 0, 0)]),
  (63, [(.istore_n 3, 1, 0, 0)]),
  (64, [(.aload_n 0, 1, 0, 0), (.getfield 10, 3, 5, 0), (.aload_n 0, 1, 0, 0), (.getfield 54, 3, 5, 5), (.iload_n 1, 1, 0, 0), (.iload_n 2, 1, 0, 0), (.invokevirtual 164, 3, 54, 3), (.iload_n 3, 1, 0, 0), (.ireturn, 1, 1, 0)])]
theorem e_DP_isMatedBehind_0 {F : List rw4 → Prop} {G : Prop} : lkp F G t_DP_isMatedBehind 0 = F [(.aload_n 0, 1, 0, 0), (.getfield 10, 3, 5, 0), (.aload_n 0, 1, 0, 0), (.getfield 54, 3, 5, 5), (.iload_n 1, 1, 0, 0), (.invokevirtual 146, 3, 61, 2), (.istore_n 2, 1, 0, 0), (.aload_n 0, 1, 0, 0), (.getfield 10, 3, 5, 0), (.iconst 1, 1, 0, 0), (.aload_n 0, 1, 0, 0), (.getfield 54, 3, 5, 5), (.isub, 1, 0, 0), (.invokevirtual 107, 3, 23, 1), (.istore_n 3, 1, 0, 0), (.iload_n 3, 1, 0, 0), (.ifCond .eq 36, 3, 64, 0)] := propext Iff.rfl
theorem e_DP_isMatedBehind_31 {F : List rw4 → Prop} {G : Prop} : lkp F G t_DP_isMatedBehind 31 = F [(.aload_n 0, 1, 0, 0), (.getfield 21, 3, 5, 1), (.iconst 1, 1, 0, 0), (.aload_n 0, 1, 0, 0), (.getfield 54, 3, 5, 5), (.isub, 1, 0, 0), (.aload_n 0, 1, 0, 0), (.getfield 41, 3, 5, 4), (.invokevirtual 113, 3, 47, 2), (.aload_n 0, 1, 0, 0), (.getfield 41, 3, 5, 4), (.getfield 117, 3, 3, 1), (.ifCond .ne 7, 3, 62, 0)] := propext Iff.rfl
theorem e_DP_isMatedBehind_58 {F : List rw4 → Prop} {G : Prop} : lkp F G t_DP_isMatedBehind 58 = F [(.iconst 1, 1, 0, 0), (.goto 4, 3, 63, 0)] := propext Iff.rfl
theorem e_DP_isMatedBehind_62 {F : List rw4 → Prop} {G : Prop} : lkp F G t_DP_isMatedBehind 62 = F [(.iconst 0, 1, 0, 0)] := propext Iff.rfl
theorem e_DP_isMatedBehind_63 {F : List rw4 → Prop} {G : Prop} : lkp F G t_DP_isMatedBehind 63 = F [(.istore_n 3, 1, 0, 0)] := propext Iff.rfl
theorem e_DP_isMatedBehind_64 {F : List rw4 → Prop} {G : Prop} : lkp F G t_DP_isMatedBehind 64 = F [(.aload_n 0, 1, 0, 0), (.getfield 10, 3, 5, 0), (.aload_n 0, 1, 0, 0), (.getfield 54, 3, 5, 5), (.iload_n 1, 1, 0, 0), (.iload_n 2, 1, 0, 0), (.invokevirtual 164, 3, 54, 3), (.iload_n 3, 1, 0, 0), (.ireturn, 1, 1, 0)] := propext Iff.rfl
theorem o_DP_isMatedBehind : tOk k_DP_isMatedBehind t_DP_isMatedBehind = true := by decide +kernel
/-- DroppedPieces.countReplies()I; heads of loops: [4] -/
def t_DP_countReplies : tb4 := [
  (0, [(.iconst 0, 1, 0, 0), (.istore_n 1, 1, 0, 0), (.iconst 0, 1, 0, 0), (.istore_n 2, 1, 0, 0)]),
  (4, [(.iload_n 2, 1, 0, 0), (.aload_n 0, 1, 0, 0), (.getfield 37, 3, 5, 3), (.getfield 117, 3, 3, 1), (.if_icmp .ge 74, 3, 86, 0)]),
  (15, [(.aload_n 0, 1, 0, 0), (.getfield 37, 3, 5, 3), (.getfield 125, 3, 3, 0), (.iload_n 2, 1, 0, 0), (.iaload, 1, 0, 0), (.istore_n 3, 1, 0, 0), (.aload_n 0, 1, 0, 0), (.getfield 10, 3, 5, 0), (.aload_n 0, 1, 0, 0), (.getfield 54, 3, 5, 5), (.iload_n 3, 1, 0, 0), (.invokevirtual 146, 3, 61, 2), (.istore 4, 2, 0, 0), (.aload_n 0, 1, 0, 0), (.getfield 21, 3, 5, 1), (.iconst 1, 1, 0, 0), (.aload_n 0, 1, 0, 0), (.getfield 54, 3, 5, 5), (.isub, 1, 0, 0), (.aload_n 0, 1, 0, 0), (.getfield 41, 3, 5, 4), (.invokevirtual 113, 3, 47, 2), (.iload_n 1, 1, 0, 0), (.aload_n 0, 1, 0, 0), (.getfield 41, 3, 5, 4), (.getfield 117, 3, 3, 1), (.iadd, 1, 0, 0), (.istore_n 1, 1, 0, 0), (.aload_n 0, 1, 0, 0), (.getfield 10, 3, 5, 0), (.aload_n 0, 1, 0, 0), (.getfield 54, 3, 5, 5), (.iload_n 3, 1, 0, 0), (.iload 4, 2, 0, 0), (.invokevirtual 164, 3, 54, 3), (.iinc 2 1, 3, 0, 0), (.goto (-79), 3, 4, 0)]),
  (86, [(.iload_n 1, 1, 0, 0), (.ireturn, 1, 0, 0)])]
theorem e_DP_countReplies_0 {F : List rw4 → Prop} {G : Prop} : lkp F G t_DP_countReplies 0 = F [(.iconst 0, 1, 0, 0), (.istore_n 1, 1, 0, 0), (.iconst 0, 1, 0, 0), (.istore_n 2, 1, 0, 0)] := propext Iff.rfl
theorem e_DP_countReplies_4 {F : List rw4 → Prop} {G : Prop} : lkp F G t_DP_countReplies 4 = F [(.iload_n 2, 1, 0, 0), (.aload_n 0, 1, 0, 0), (.getfield 37, 3, 5, 3), (.getfield 117, 3, 3, 1), (.if_icmp .ge 74, 3, 86, 0)] := propext Iff.rfl
theorem e_DP_countReplies_15 {F : List rw4 → Prop} {G : Prop} : lkp F G t_DP_countReplies 15 = F [(.aload_n 0, 1, 0, 0), (.getfield 37, 3, 5, 3), (.getfield 125, 3, 3, 0), (.iload_n 2, 1, 0, 0), (.iaload, 1, 0, 0), (.istore_n 3, 1, 0, 0), (.aload_n 0, 1, 0, 0), (.getfield 10, 3, 5, 0), (.aload_n 0, 1, 0, 0), (.getfield 54, 3, 5, 5), (.iload_n 3, 1, 0, 0), (.invokevirtual 146, 3, 61, 2), (.istore 4, 2, 0, 0), (.aload_n 0, 1, 0, 0), (.getfield 21, 3, 5, 1), (.iconst 1, 1, 0, 0), (.aload_n 0, 1, 0, 0), (.getfield 54, 3, 5, 5), (.isub, 1, 0, 0), (.aload_n 0, 1, 0, 0), (.getfield 41, 3, 5, 4), (.invokevirtual 113, 3, 47, 2), (.iload_n 1, 1, 0, 0), (.aload_n 0, 1, 0, 0), (.getfield 41, 3, 5, 4), (.getfield 117, 3, 3, 1), (.iadd, 1, 0, 0), (.istore_n 1, 1, 0, 0), (.aload_n 0, 1, 0, 0), (.getfield 10, 3, 5, 0), (.aload_n 0, 1, 0, 0), (.getfield 54, 3, 5, 5), (.iload_n 3, 1, 0, 0), (.iload 4, 2, 0, 0), (.invokevirtual 164, 3, 54, 3), (.iinc 2 1, 3, 0, 0), (.goto (-79), 3, 4, 0)] := propext Iff.rfl
theorem e_DP_countReplies_86 {F : List rw4 → Prop} {G : Prop} : lkp F G t_DP_countReplies 86 = F [(.iload_n 1, 1, 0, 0), (.ireturn, 1, 0, 0)] := propext Iff.rfl
theorem o_DP_countReplies : tOk k_DP_countReplies t_DP_countReplies = true := by decide +kernel
/-- DroppedPieces$Board.countOf(I)I; heads of loops: [4] -/
def t_Board_countOf : tb4 := [
  (0, [(.iconst 0, 1, 0, 0), (.istore_n 2, 1, 0, 0), (.iconst 0, 1, 0, 0), (.istore_n 3, 1, 0, 0)]),
  (4, [(.iload_n 3, 1, 0, 0), (.aload_n 0, 1, 0, 0), (.getfield 9, 3, 0, 0), (.arraylength, 1, 0, 0), (.if_icmp .ge 22, 3, 32, 0)]),
  (13, [(.aload_n 0, 1, 0, 0), (.getfield 9, 3, 0, 0), (.iload_n 3, 1, 0, 0), (.iaload, 1, 0, 0), (.iload_n 1, 1, 0, 0), (.if_icmp .ne 6, 3, 26, 0)]),
  (23, [(.iinc 2 1, 3, 0, 0)]),
  (26, [(.iinc 3 1, 3, 0, 0), (.goto (-25), 3, 4, 0)]),
  (32, [(.iload_n 2, 1, 0, 0), (.ireturn, 1, 0, 0)])]
theorem e_Board_countOf_0 {F : List rw4 → Prop} {G : Prop} : lkp F G t_Board_countOf 0 = F [(.iconst 0, 1, 0, 0), (.istore_n 2, 1, 0, 0), (.iconst 0, 1, 0, 0), (.istore_n 3, 1, 0, 0)] := propext Iff.rfl
theorem e_Board_countOf_4 {F : List rw4 → Prop} {G : Prop} : lkp F G t_Board_countOf 4 = F [(.iload_n 3, 1, 0, 0), (.aload_n 0, 1, 0, 0), (.getfield 9, 3, 0, 0), (.arraylength, 1, 0, 0), (.if_icmp .ge 22, 3, 32, 0)] := propext Iff.rfl
theorem e_Board_countOf_13 {F : List rw4 → Prop} {G : Prop} : lkp F G t_Board_countOf 13 = F [(.aload_n 0, 1, 0, 0), (.getfield 9, 3, 0, 0), (.iload_n 3, 1, 0, 0), (.iaload, 1, 0, 0), (.iload_n 1, 1, 0, 0), (.if_icmp .ne 6, 3, 26, 0)] := propext Iff.rfl
theorem e_Board_countOf_23 {F : List rw4 → Prop} {G : Prop} : lkp F G t_Board_countOf 23 = F [(.iinc 2 1, 3, 0, 0)] := propext Iff.rfl
theorem e_Board_countOf_26 {F : List rw4 → Prop} {G : Prop} : lkp F G t_Board_countOf 26 = F [(.iinc 3 1, 3, 0, 0), (.goto (-25), 3, 4, 0)] := propext Iff.rfl
theorem e_Board_countOf_32 {F : List rw4 → Prop} {G : Prop} : lkp F G t_Board_countOf 32 = F [(.iload_n 2, 1, 0, 0), (.ireturn, 1, 0, 0)] := propext Iff.rfl
theorem o_Board_countOf : tOk k_Board_countOf t_Board_countOf = true := by decide +kernel
/-- DroppedPieces$Board.hasStuckPiece()Z; heads of loops: [2] -/
def t_Board_hasStuckPiece : tb4 := [
  (0, [(.iconst 0, 1, 0, 0), (.istore_n 1, 1, 0, 0)]),
  (2, [(.iload_n 1, 1, 0, 0), (.aload_n 0, 1, 0, 0), (.getfield 9, 3, 0, 0), (.arraylength, 1, 0, 0), (.if_icmp .ge 42, 3, 50, 0)]),
  (11, [(.aload_n 0, 1, 0, 0), (.getfield 9, 3, 0, 0), (.iload_n 1, 1, 0, 0), (.iaload, 1, 0, 0), (.istore_n 2, 1, 0, 0), (.iload_n 2, 1, 0, 0), (.ifCond .eq 25, 3, 44, 0)]),
  (22, [(.iload_n 2, 1, 0, 0), (.ifCond .le 7, 3, 30, 0)]),
  (26, [(.iconst 0, 1, 0, 0), (.goto 4, 3, 31, 0)]),
  (30, [(.iconst 1, 1, 0, 0)]),
  (31, [(.iload_n 2, 1, 0, 0), (.invokestatic 61, 3, 3, 1), (.iload_n 1, 1, 0, 0), (.invokestatic 64, 3, 39, 3), (.ifCond .eq 5, 3, 44, 0)]),
  (42, [(.iconst 1, 1, 0, 0), (.ireturn, 1, 1, 0)]),
  (44, [(.iinc 1 1, 3, 0, 0), (.goto (-45), 3, 2, 0)]),
  (50, [(.iconst 0, 1, 0, 0), (.ireturn, 1, 1, 0)])]
theorem e_Board_hasStuckPiece_0 {F : List rw4 → Prop} {G : Prop} : lkp F G t_Board_hasStuckPiece 0 = F [(.iconst 0, 1, 0, 0), (.istore_n 1, 1, 0, 0)] := propext Iff.rfl
theorem e_Board_hasStuckPiece_2 {F : List rw4 → Prop} {G : Prop} : lkp F G t_Board_hasStuckPiece 2 = F [(.iload_n 1, 1, 0, 0), (.aload_n 0, 1, 0, 0), (.getfield 9, 3, 0, 0), (.arraylength, 1, 0, 0), (.if_icmp .ge 42, 3, 50, 0)] := propext Iff.rfl
theorem e_Board_hasStuckPiece_11 {F : List rw4 → Prop} {G : Prop} : lkp F G t_Board_hasStuckPiece 11 = F [(.aload_n 0, 1, 0, 0), (.getfield 9, 3, 0, 0), (.iload_n 1, 1, 0, 0), (.iaload, 1, 0, 0), (.istore_n 2, 1, 0, 0), (.iload_n 2, 1, 0, 0), (.ifCond .eq 25, 3, 44, 0)] := propext Iff.rfl
theorem e_Board_hasStuckPiece_22 {F : List rw4 → Prop} {G : Prop} : lkp F G t_Board_hasStuckPiece 22 = F [(.iload_n 2, 1, 0, 0), (.ifCond .le 7, 3, 30, 0)] := propext Iff.rfl
theorem e_Board_hasStuckPiece_26 {F : List rw4 → Prop} {G : Prop} : lkp F G t_Board_hasStuckPiece 26 = F [(.iconst 0, 1, 0, 0), (.goto 4, 3, 31, 0)] := propext Iff.rfl
theorem e_Board_hasStuckPiece_30 {F : List rw4 → Prop} {G : Prop} : lkp F G t_Board_hasStuckPiece 30 = F [(.iconst 1, 1, 0, 0)] := propext Iff.rfl
theorem e_Board_hasStuckPiece_31 {F : List rw4 → Prop} {G : Prop} : lkp F G t_Board_hasStuckPiece 31 = F [(.iload_n 2, 1, 0, 0), (.invokestatic 61, 3, 3, 1), (.iload_n 1, 1, 0, 0), (.invokestatic 64, 3, 39, 3), (.ifCond .eq 5, 3, 44, 0)] := propext Iff.rfl
theorem e_Board_hasStuckPiece_42 {F : List rw4 → Prop} {G : Prop} : lkp F G t_Board_hasStuckPiece 42 = F [(.iconst 1, 1, 0, 0), (.ireturn, 1, 1, 0)] := propext Iff.rfl
theorem e_Board_hasStuckPiece_44 {F : List rw4 → Prop} {G : Prop} : lkp F G t_Board_hasStuckPiece 44 = F [(.iinc 1 1, 3, 0, 0), (.goto (-45), 3, 2, 0)] := propext Iff.rfl
theorem e_Board_hasStuckPiece_50 {F : List rw4 → Prop} {G : Prop} : lkp F G t_Board_hasStuckPiece 50 = F [(.iconst 0, 1, 0, 0), (.ireturn, 1, 1, 0)] := propext Iff.rfl
theorem o_Board_hasStuckPiece : tOk k_Board_hasStuckPiece t_Board_hasStuckPiece = true := by decide +kernel
/-- java/lang/Integer.bitCount(I)I; heads of loops: [] -/
def t_Integer_bitCount : tb4 := [
  (0, [(.iload_n 0, 1, 0, 0), (.iload_n 0, 1, 0, 0), (.iconst 1, 1, 0, 0), (.iushr, 1, 0, 0), (.ldc_w 265, 3, 1431655765, 0), (.iand, 1, 0, 0), (.isub, 1, 0, 0), (.istore_n 0, 1, 0, 0), (.iload_n 0, 1, 0, 0), (.ldc_w 266, 3, 858993459, 0), (.iand, 1, 0, 0), (.iload_n 0, 1, 0, 0), (.iconst 2, 1, 0, 0), (.iushr, 1, 0, 0), (.ldc_w 266, 3, 858993459, 0), (.iand, 1, 0, 0), (.iadd, 1, 0, 0), (.istore_n 0, 1, 0, 0), (.iload_n 0, 1, 0, 0), (.iload_n 0, 1, 0, 0), (.iconst 4, 1, 0, 0), (.iushr, 1, 0, 0), (.iadd, 1, 0, 0), (.ldc_w 267, 3, 252645135, 0), (.iand, 1, 0, 0), (.istore_n 0, 1, 0, 0), (.iload_n 0, 1, 0, 0), (.iload_n 0, 1, 0, 0), (.bipush 8, 2, 0, 0), (.iushr, 1, 0, 0), (.iadd, 1, 0, 0), (.istore_n 0, 1, 0, 0), (.iload_n 0, 1, 0, 0), (.iload_n 0, 1, 0, 0), (.bipush 16, 2, 0, 0), (.iushr, 1, 0, 0), (.iadd, 1, 0, 0), (.istore_n 0, 1, 0, 0), (.iload_n 0, 1, 0, 0), (.bipush 63, 2, 0, 0), (.iand, 1, 0, 0), (.ireturn, 1, 0, 0)])]
theorem e_Integer_bitCount_0 {F : List rw4 → Prop} {G : Prop} : lkp F G t_Integer_bitCount 0 = F [(.iload_n 0, 1, 0, 0), (.iload_n 0, 1, 0, 0), (.iconst 1, 1, 0, 0), (.iushr, 1, 0, 0), (.ldc_w 265, 3, 1431655765, 0), (.iand, 1, 0, 0), (.isub, 1, 0, 0), (.istore_n 0, 1, 0, 0), (.iload_n 0, 1, 0, 0), (.ldc_w 266, 3, 858993459, 0), (.iand, 1, 0, 0), (.iload_n 0, 1, 0, 0), (.iconst 2, 1, 0, 0), (.iushr, 1, 0, 0), (.ldc_w 266, 3, 858993459, 0), (.iand, 1, 0, 0), (.iadd, 1, 0, 0), (.istore_n 0, 1, 0, 0), (.iload_n 0, 1, 0, 0), (.iload_n 0, 1, 0, 0), (.iconst 4, 1, 0, 0), (.iushr, 1, 0, 0), (.iadd, 1, 0, 0), (.ldc_w 267, 3, 252645135, 0), (.iand, 1, 0, 0), (.istore_n 0, 1, 0, 0), (.iload_n 0, 1, 0, 0), (.iload_n 0, 1, 0, 0), (.bipush 8, 2, 0, 0), (.iushr, 1, 0, 0), (.iadd, 1, 0, 0), (.istore_n 0, 1, 0, 0), (.iload_n 0, 1, 0, 0), (.iload_n 0, 1, 0, 0), (.bipush 16, 2, 0, 0), (.iushr, 1, 0, 0), (.iadd, 1, 0, 0), (.istore_n 0, 1, 0, 0), (.iload_n 0, 1, 0, 0), (.bipush 63, 2, 0, 0), (.iand, 1, 0, 0), (.ireturn, 1, 0, 0)] := propext Iff.rfl
theorem o_Integer_bitCount : tOk k_Integer_bitCount t_Integer_bitCount = true := by decide +kernel
/-- DroppedPieces$Board.hasTwoPawnsInColumn(I)Z; heads of loops: [] -/
def t_Board_hasTwoPawnsInColumn : tb4 := [
  (0, [(.aload_n 0, 1, 0, 0), (.iload_n 1, 1, 0, 0), (.iconst 1, 1, 0, 0), (.invokestatic 68, 3, 42, 2), (.invokevirtual 46, 3, 120, 1), (.aload_n 0, 1, 0, 0), (.iload_n 1, 1, 0, 0), (.invokevirtual 72, 3, 43, 1), (.invokestatic 75, 3, 122, 1), (.if_icmp .eq 7, 3, 24, 0)]),
  (20, [(.iconst 1, 1, 0, 0), (.goto 4, 3, 25, 0)]),
  (24, [(.iconst 0, 1, 0, 0)]),
  (25, [(.ireturn, 1, 1, 0)])]
theorem e_Board_hasTwoPawnsInColumn_0 {F : List rw4 → Prop} {G : Prop} : lkp F G t_Board_hasTwoPawnsInColumn 0 = F [(.aload_n 0, 1, 0, 0), (.iload_n 1, 1, 0, 0), (.iconst 1, 1, 0, 0), (.invokestatic 68, 3, 42, 2), (.invokevirtual 46, 3, 120, 1), (.aload_n 0, 1, 0, 0), (.iload_n 1, 1, 0, 0), (.invokevirtual 72, 3, 43, 1), (.invokestatic 75, 3, 122, 1), (.if_icmp .eq 7, 3, 24, 0)] := propext Iff.rfl
theorem e_Board_hasTwoPawnsInColumn_20 {F : List rw4 → Prop} {G : Prop} : lkp F G t_Board_hasTwoPawnsInColumn 20 = F [(.iconst 1, 1, 0, 0), (.goto 4, 3, 25, 0)] := propext Iff.rfl
theorem e_Board_hasTwoPawnsInColumn_24 {F : List rw4 → Prop} {G : Prop} : lkp F G t_Board_hasTwoPawnsInColumn 24 = F [(.iconst 0, 1, 0, 0)] := propext Iff.rfl
theorem e_Board_hasTwoPawnsInColumn_25 {F : List rw4 → Prop} {G : Prop} : lkp F G t_Board_hasTwoPawnsInColumn 25 = F [(.ireturn, 1, 1, 0)] := propext Iff.rfl
theorem o_Board_hasTwoPawnsInColumn : tOk k_Board_hasTwoPawnsInColumn t_Board_hasTwoPawnsInColumn = true := by decide +kernel
/-- DroppedPieces$Board.mayStart(I)Z; heads of loops: [] -/
def t_Board_mayStart : tb4 := [
  (0, [(.aload_n 0, 1, 0, 0), (.bipush 8, 2, 0, 0), (.invokevirtual 46, 3, 120, 1), (.iconst 1, 1, 0, 0), (.if_icmp .ne 13, 3, 20, 0)]),
  (10, [(.aload_n 0, 1, 0, 0), (.bipush (-8), 2, 0, 0), (.invokevirtual 46, 3, 120, 1), (.iconst 1, 1, 0, 0), (.if_icmp .eq 5, 3, 22, 0)]),
  (20, [(.iconst 0, 1, 0, 0), (.ireturn, 1, 1, 0)]),
  (22, [(.aload_n 0, 1, 0, 0), (.invokevirtual 50, 3, 121, 0), (.ifCond .ne 19, 3, 45, 0)]),
  (29, [(.aload_n 0, 1, 0, 0), (.iconst 0, 1, 0, 0), (.invokevirtual 54, 3, 123, 1), (.ifCond .ne 11, 3, 45, 0)]),
  (37, [(.aload_n 0, 1, 0, 0), (.iconst 1, 1, 0, 0), (.invokevirtual 54, 3, 123, 1), (.ifCond .eq 5, 3, 47, 0)]),
  (45, [(.iconst 0, 1, 0, 0), (.ireturn, 1, 1, 0)]),
  (47, [(.aload_n 0, 1, 0, 0), (.invokevirtual 37, 3, 4, 0), (.aload_n 0, 1, 0, 0), (.iconst 1, 1, 0, 0), (.iload_n 1, 1, 0, 0), (.isub, 1, 0, 0), (.invokevirtual 58, 3, 23, 1), (.ifCond .ne 7, 3, 65, 0)]),
  (61, [(.iconst 1, 1, 0, 0), (.goto 4, 3, 66, 0)]),
  (65, [(.iconst 0, 1, 0, 0)]),
  (66, [(.ireturn, 1, 1, 0)])]
theorem e_Board_mayStart_0 {F : List rw4 → Prop} {G : Prop} : lkp F G t_Board_mayStart 0 = F [(.aload_n 0, 1, 0, 0), (.bipush 8, 2, 0, 0), (.invokevirtual 46, 3, 120, 1), (.iconst 1, 1, 0, 0), (.if_icmp .ne 13, 3, 20, 0)] := propext Iff.rfl
theorem e_Board_mayStart_10 {F : List rw4 → Prop} {G : Prop} : lkp F G t_Board_mayStart 10 = F [(.aload_n 0, 1, 0, 0), (.bipush (-8), 2, 0, 0), (.invokevirtual 46, 3, 120, 1), (.iconst 1, 1, 0, 0), (.if_icmp .eq 5, 3, 22, 0)] := propext Iff.rfl
theorem e_Board_mayStart_20 {F : List rw4 → Prop} {G : Prop} : lkp F G t_Board_mayStart 20 = F [(.iconst 0, 1, 0, 0), (.ireturn, 1, 1, 0)] := propext Iff.rfl
theorem e_Board_mayStart_22 {F : List rw4 → Prop} {G : Prop} : lkp F G t_Board_mayStart 22 = F [(.aload_n 0, 1, 0, 0), (.invokevirtual 50, 3, 121, 0), (.ifCond .ne 19, 3, 45, 0)] := propext Iff.rfl
theorem e_Board_mayStart_29 {F : List rw4 → Prop} {G : Prop} : lkp F G t_Board_mayStart 29 = F [(.aload_n 0, 1, 0, 0), (.iconst 0, 1, 0, 0), (.invokevirtual 54, 3, 123, 1), (.ifCond .ne 11, 3, 45, 0)] := propext Iff.rfl
theorem e_Board_mayStart_37 {F : List rw4 → Prop} {G : Prop} : lkp F G t_Board_mayStart 37 = F [(.aload_n 0, 1, 0, 0), (.iconst 1, 1, 0, 0), (.invokevirtual 54, 3, 123, 1), (.ifCond .eq 5, 3, 47, 0)] := propext Iff.rfl
theorem e_Board_mayStart_45 {F : List rw4 → Prop} {G : Prop} : lkp F G t_Board_mayStart 45 = F [(.iconst 0, 1, 0, 0), (.ireturn, 1, 1, 0)] := propext Iff.rfl
theorem e_Board_mayStart_47 {F : List rw4 → Prop} {G : Prop} : lkp F G t_Board_mayStart 47 = F [(.aload_n 0, 1, 0, 0), (.invokevirtual 37, 3, 4, 0), (.aload_n 0, 1, 0, 0), (.iconst 1, 1, 0, 0), (.iload_n 1, 1, 0, 0), (.isub, 1, 0, 0), (.invokevirtual 58, 3, 23, 1), (.ifCond .ne 7, 3, 65, 0)] := propext Iff.rfl
theorem e_Board_mayStart_61 {F : List rw4 → Prop} {G : Prop} : lkp F G t_Board_mayStart 61 = F [(.iconst 1, 1, 0, 0), (.goto 4, 3, 66, 0)] := propext Iff.rfl
theorem e_Board_mayStart_65 {F : List rw4 → Prop} {G : Prop} : lkp F G t_Board_mayStart 65 = F [(.iconst 0, 1, 0, 0)] := propext Iff.rfl
theorem e_Board_mayStart_66 {F : List rw4 → Prop} {G : Prop} : lkp F G t_Board_mayStart 66 = F [(.ireturn, 1, 1, 0)] := propext Iff.rfl
theorem o_Board_mayStart : tOk k_Board_mayStart t_Board_mayStart = true := by decide +kernel
/-- DroppedPieces$History.add(IIZ)V; heads of loops: [] -/
def t_History_add : tb4 := [
  (0, [(.aload_n 0, 1, 0, 0), (.getfield 29, 3, 2, 5), (.sipush 150, 3, 0, 0), (.if_icmp .ge 43, 3, 50, 0)]),
  (10, [(.aload_n 0, 1, 0, 0), (.getfield 11, 3, 2, 0), (.aload_n 0, 1, 0, 0), (.getfield 29, 3, 2, 5), (.iload_n 1, 1, 0, 0), (.iastore, 1, 0, 0), (.aload_n 0, 1, 0, 0), (.getfield 15, 3, 2, 1), (.aload_n 0, 1, 0, 0), (.getfield 29, 3, 2, 5), (.iload_n 2, 1, 0, 0), (.iastore, 1, 0, 0), (.aload_n 0, 1, 0, 0), (.getfield 18, 3, 2, 2), (.aload_n 0, 1, 0, 0), (.getfield 29, 3, 2, 5), (.iload_n 3, 1, 0, 0), (.bastore, 1, 0, 0), (.aload_n 0, 1, 0, 0), (.dup, 1, 0, 0), (.getfield 29, 3, 2, 5), (.iconst 1, 1, 0, 0), (.iadd, 1, 0, 0), (.putfield 29, 3, 2, 5)]),
  (50, [(.return_, 1, 0, 0)])]
theorem e_History_add_0 {F : List rw4 → Prop} {G : Prop} : lkp F G t_History_add 0 = F [(.aload_n 0, 1, 0, 0), (.getfield 29, 3, 2, 5), (.sipush 150, 3, 0, 0), (.if_icmp .ge 43, 3, 50, 0)] := propext Iff.rfl
theorem e_History_add_10 {F : List rw4 → Prop} {G : Prop} : lkp F G t_History_add 10 = F [(.aload_n 0, 1, 0, 0), (.getfield 11, 3, 2, 0), (.aload_n 0, 1, 0, 0), (.getfield 29, 3, 2, 5), (.iload_n 1, 1, 0, 0), (.iastore, 1, 0, 0), (.aload_n 0, 1, 0, 0), (.getfield 15, 3, 2, 1), (.aload_n 0, 1, 0, 0), (.getfield 29, 3, 2, 5), (.iload_n 2, 1, 0, 0), (.iastore, 1, 0, 0), (.aload_n 0, 1, 0, 0), (.getfield 18, 3, 2, 2), (.aload_n 0, 1, 0, 0), (.getfield 29, 3, 2, 5), (.iload_n 3, 1, 0, 0), (.bastore, 1, 0, 0), (.aload_n 0, 1, 0, 0), (.dup, 1, 0, 0), (.getfield 29, 3, 2, 5), (.iconst 1, 1, 0, 0), (.iadd, 1, 0, 0), (.putfield 29, 3, 2, 5)] := propext Iff.rfl
theorem e_History_add_50 {F : List rw4 → Prop} {G : Prop} : lkp F G t_History_add 50 = F [(.return_, 1, 0, 0)] := propext Iff.rfl
theorem o_History_add : tOk k_History_add t_History_add = true := by decide +kernel
/-- DroppedPieces$Pieces.isValue(I)Z; heads of loops: [] -/
def t_Pieces_isValue : tb4 := [
  (0, [(.iload_n 0, 1, 0, 0), (.bipush (-15), 2, 0, 0), (.if_icmp .lt 25, 3, 28, 0)]),
  (6, [(.iload_n 0, 1, 0, 0), (.bipush 15, 2, 0, 0), (.if_icmp .gt 19, 3, 28, 0)]),
  (12, [(.iload_n 0, 1, 0, 0), (.bipush 13, 2, 0, 0), (.if_icmp .eq 13, 3, 28, 0)]),
  (18, [(.iload_n 0, 1, 0, 0), (.bipush (-13), 2, 0, 0), (.if_icmp .eq 7, 3, 28, 0)]),
  (24, [(.iconst 1, 1, 0, 0), (.goto 4, 3, 29, 0)]),
  (28, [(.iconst 0, 1, 0, 0)]),
  (29, [(.ireturn, 1, 1, 0)])]
theorem e_Pieces_isValue_0 {F : List rw4 → Prop} {G : Prop} : lkp F G t_Pieces_isValue 0 = F [(.iload_n 0, 1, 0, 0), (.bipush (-15), 2, 0, 0), (.if_icmp .lt 25, 3, 28, 0)] := propext Iff.rfl
theorem e_Pieces_isValue_6 {F : List rw4 → Prop} {G : Prop} : lkp F G t_Pieces_isValue 6 = F [(.iload_n 0, 1, 0, 0), (.bipush 15, 2, 0, 0), (.if_icmp .gt 19, 3, 28, 0)] := propext Iff.rfl
theorem e_Pieces_isValue_12 {F : List rw4 → Prop} {G : Prop} : lkp F G t_Pieces_isValue 12 = F [(.iload_n 0, 1, 0, 0), (.bipush 13, 2, 0, 0), (.if_icmp .eq 13, 3, 28, 0)] := propext Iff.rfl
theorem e_Pieces_isValue_18 {F : List rw4 → Prop} {G : Prop} : lkp F G t_Pieces_isValue 18 = F [(.iload_n 0, 1, 0, 0), (.bipush (-13), 2, 0, 0), (.if_icmp .eq 7, 3, 28, 0)] := propext Iff.rfl
theorem e_Pieces_isValue_24 {F : List rw4 → Prop} {G : Prop} : lkp F G t_Pieces_isValue 24 = F [(.iconst 1, 1, 0, 0), (.goto 4, 3, 29, 0)] := propext Iff.rfl
theorem e_Pieces_isValue_28 {F : List rw4 → Prop} {G : Prop} : lkp F G t_Pieces_isValue 28 = F [(.iconst 0, 1, 0, 0)] := propext Iff.rfl
theorem e_Pieces_isValue_29 {F : List rw4 → Prop} {G : Prop} : lkp F G t_Pieces_isValue 29 = F [(.ireturn, 1, 1, 0)] := propext Iff.rfl
theorem o_Pieces_isValue : tOk k_Pieces_isValue t_Pieces_isValue = true := by decide +kernel
