/-! the code of the reference, second half (by program: wip/whole/gen/code.py) -/
/-- DroppedPiecesModel.refused(ZZZ)Z; heads of loops: [] -/
def t_Model_refused : tb4 := [
  (0, [(.aload_n 0, 1, 0, 0), (.iload_n 1, 1, 0, 0), (.ifCond .eq 7, 3, 9, 0)]),
  (5, [(.iconst 1, 1, 0, 0), (.goto 20, 3, 26, 0)]),
  (9, [(.iload_n 2, 1, 0, 0), (.ifCond .eq 7, 3, 17, 0)]),
  (13, [(.iconst 2, 1, 0, 0), (.goto 12, 3, 26, 0)]),
  (17, [(.iload_n 3, 1, 0, 0), (.ifCond .eq 7, 3, 25, 0)]),
  (21, [(.iconst 3, 1, 0, 0), (.goto 4, 3, 26, 0)]),
  (25, [(.iconst 0, 1, 0, 0)]),
  (26, [(.putfield 39, 3, 6, 0), (.aload_n 0, 1, 0, 0), (.getfield 39, 3, 6, 0), (.ifCond .le 7, 3, 40, 0)]),
  (36, [(.iconst 1, 1, 0, 0), (.goto 4, 3, 41, 0)]),
  (40, [(.iconst 0, 1, 0, 0)]),
  (41, [(.ireturn, 1, 1, 0)])]
theorem e_Model_refused_0 {F : List rw4 → Prop} {G : Prop} : lkp F G t_Model_refused 0 = F [(.aload_n 0, 1, 0, 0), (.iload_n 1, 1, 0, 0), (.ifCond .eq 7, 3, 9, 0)] := propext Iff.rfl
theorem e_Model_refused_5 {F : List rw4 → Prop} {G : Prop} : lkp F G t_Model_refused 5 = F [(.iconst 1, 1, 0, 0), (.goto 20, 3, 26, 0)] := propext Iff.rfl
theorem e_Model_refused_9 {F : List rw4 → Prop} {G : Prop} : lkp F G t_Model_refused 9 = F [(.iload_n 2, 1, 0, 0), (.ifCond .eq 7, 3, 17, 0)] := propext Iff.rfl
theorem e_Model_refused_13 {F : List rw4 → Prop} {G : Prop} : lkp F G t_Model_refused 13 = F [(.iconst 2, 1, 0, 0), (.goto 12, 3, 26, 0)] := propext Iff.rfl
theorem e_Model_refused_17 {F : List rw4 → Prop} {G : Prop} : lkp F G t_Model_refused 17 = F [(.iload_n 3, 1, 0, 0), (.ifCond .eq 7, 3, 25, 0)] := propext Iff.rfl
theorem e_Model_refused_21 {F : List rw4 → Prop} {G : Prop} : lkp F G t_Model_refused 21 = F [(.iconst 3, 1, 0, 0), (.goto 4, 3, 26, 0)] := propext Iff.rfl
theorem e_Model_refused_25 {F : List rw4 → Prop} {G : Prop} : lkp F G t_Model_refused 25 = F [(.iconst 0, 1, 0, 0)] := propext Iff.rfl
theorem e_Model_refused_26 {F : List rw4 → Prop} {G : Prop} : lkp F G t_Model_refused 26 = F [(.putfield 39, 3, 6, 0), (.aload_n 0, 1, 0, 0), (.getfield 39, 3, 6, 0), (.ifCond .le 7, 3, 40, 0)] := propext Iff.rfl
theorem e_Model_refused_36 {F : List rw4 → Prop} {G : Prop} : lkp F G t_Model_refused 36 = F [(.iconst 1, 1, 0, 0), (.goto 4, 3, 41, 0)] := propext Iff.rfl
theorem e_Model_refused_40 {F : List rw4 → Prop} {G : Prop} : lkp F G t_Model_refused 40 = F [(.iconst 0, 1, 0, 0)] := propext Iff.rfl
theorem e_Model_refused_41 {F : List rw4 → Prop} {G : Prop} : lkp F G t_Model_refused 41 = F [(.ireturn, 1, 1, 0)] := propext Iff.rfl
theorem o_Model_refused : tOk k_Model_refused t_Model_refused = true := by decide +kernel
/-- DroppedPiecesModel.isSquare(I)Z; heads of loops: [] -/
def t_Model_isSquare : tb4 := [
  (0, [(.iload_n 0, 1, 0, 0), (.ifCond .lt 13, 3, 14, 0)]),
  (4, [(.iload_n 0, 1, 0, 0), (.bipush 81, 2, 0, 0), (.if_icmp .ge 7, 3, 14, 0)]),
  (10, [(.iconst 1, 1, 0, 0), (.goto 4, 3, 15, 0)]),
  (14, [(.iconst 0, 1, 0, 0)]),
  (15, [(.ireturn, 1, 1, 0)])]
theorem e_Model_isSquare_0 {F : List rw4 → Prop} {G : Prop} : lkp F G t_Model_isSquare 0 = F [(.iload_n 0, 1, 0, 0), (.ifCond .lt 13, 3, 14, 0)] := propext Iff.rfl
theorem e_Model_isSquare_4 {F : List rw4 → Prop} {G : Prop} : lkp F G t_Model_isSquare 4 = F [(.iload_n 0, 1, 0, 0), (.bipush 81, 2, 0, 0), (.if_icmp .ge 7, 3, 14, 0)] := propext Iff.rfl
theorem e_Model_isSquare_10 {F : List rw4 → Prop} {G : Prop} : lkp F G t_Model_isSquare 10 = F [(.iconst 1, 1, 0, 0), (.goto 4, 3, 15, 0)] := propext Iff.rfl
theorem e_Model_isSquare_14 {F : List rw4 → Prop} {G : Prop} : lkp F G t_Model_isSquare 14 = F [(.iconst 0, 1, 0, 0)] := propext Iff.rfl
theorem e_Model_isSquare_15 {F : List rw4 → Prop} {G : Prop} : lkp F G t_Model_isSquare 15 = F [(.ireturn, 1, 1, 0)] := propext Iff.rfl
theorem o_Model_isSquare : tOk k_Model_isSquare t_Model_isSquare = true := by decide +kernel
/-- DroppedPiecesModel.put(II)I; heads of loops: [] -/
def t_Model_put : tb4 := [
  (0, [(.iload_n 2, 1, 0, 0), (.bipush (-15), 2, 0, 0), (.if_icmp .lt 22, 3, 25, 0)]),
  (6, [(.iload_n 2, 1, 0, 0), (.bipush 15, 2, 0, 0), (.if_icmp .gt 16, 3, 25, 0)]),
  (12, [(.iload_n 2, 1, 0, 0), (.invokestatic 43, 3, 65, 1), (.bipush 13, 2, 0, 0), (.if_icmp .eq 7, 3, 25, 0)]),
  (21, [(.iconst 1, 1, 0, 0), (.goto 4, 3, 26, 0)]),
  (25, [(.iconst 0, 1, 0, 0)]),
  (26, [(.istore_n 3, 1, 0, 0), (.aload_n 0, 1, 0, 0), (.aload_n 0, 1, 0, 0), (.getfield 121, 3, 6, 4), (.ifCond .ne 7, 3, 39, 0)]),
  (35, [(.iconst 1, 1, 0, 0), (.goto 4, 3, 40, 0)]),
  (39, [(.iconst 0, 1, 0, 0)]),
  (40, [(.iload_n 1, 1, 0, 0), (.invokestatic 128, 3, 93, 1), (.ifCond .ne 7, 3, 51, 0)]),
  (47, [(.iconst 1, 1, 0, 0), (.goto 4, 3, 52, 0)]),
  (51, [(.iconst 0, 1, 0, 0)]),
  (52, [(.iload_n 3, 1, 0, 0), (.ifCond .ne 7, 3, 60, 0)]),
  (56, [(.iconst 1, 1, 0, 0), (.goto 4, 3, 61, 0)]),
  (60, [(.iconst 0, 1, 0, 0)]),
  (61, [(.invokevirtual 131, 3, 92, 3), (.ifCond .eq 5, 3, 69, 0)]),
  (67, [(.iconst 0, 1, 0, 0), (.ireturn, 1, 0, 0)]),
  (69, [(.aload_n 0, 1, 0, 0), (.getfield 7, 3, 6, 1), (.iload_n 1, 1, 0, 0), (.iaload, 1, 0, 0), (.istore 4, 2, 0, 0), (.aload_n 0, 1, 0, 0), (.getfield 7, 3, 6, 1), (.iload_n 1, 1, 0, 0), (.iload_n 2, 1, 0, 0), (.iastore, 1, 0, 0), (.iload 4, 2, 0, 0), (.ireturn, 1, 0, 0)])]
theorem e_Model_put_0 {F : List rw4 → Prop} {G : Prop} : lkp F G t_Model_put 0 = F [(.iload_n 2, 1, 0, 0), (.bipush (-15), 2, 0, 0), (.if_icmp .lt 22, 3, 25, 0)] := propext Iff.rfl
theorem e_Model_put_6 {F : List rw4 → Prop} {G : Prop} : lkp F G t_Model_put 6 = F [(.iload_n 2, 1, 0, 0), (.bipush 15, 2, 0, 0), (.if_icmp .gt 16, 3, 25, 0)] := propext Iff.rfl
theorem e_Model_put_12 {F : List rw4 → Prop} {G : Prop} : lkp F G t_Model_put 12 = F [(.iload_n 2, 1, 0, 0), (.invokestatic 43, 3, 65, 1), (.bipush 13, 2, 0, 0), (.if_icmp .eq 7, 3, 25, 0)] := propext Iff.rfl
theorem e_Model_put_21 {F : List rw4 → Prop} {G : Prop} : lkp F G t_Model_put 21 = F [(.iconst 1, 1, 0, 0), (.goto 4, 3, 26, 0)] := propext Iff.rfl
theorem e_Model_put_25 {F : List rw4 → Prop} {G : Prop} : lkp F G t_Model_put 25 = F [(.iconst 0, 1, 0, 0)] := propext Iff.rfl
theorem e_Model_put_26 {F : List rw4 → Prop} {G : Prop} : lkp F G t_Model_put 26 = F [(.istore_n 3, 1, 0, 0), (.aload_n 0, 1, 0, 0), (.aload_n 0, 1, 0, 0), (.getfield 121, 3, 6, 4), (.ifCond .ne 7, 3, 39, 0)] := propext Iff.rfl
theorem e_Model_put_35 {F : List rw4 → Prop} {G : Prop} : lkp F G t_Model_put 35 = F [(.iconst 1, 1, 0, 0), (.goto 4, 3, 40, 0)] := propext Iff.rfl
theorem e_Model_put_39 {F : List rw4 → Prop} {G : Prop} : lkp F G t_Model_put 39 = F [(.iconst 0, 1, 0, 0)] := propext Iff.rfl
theorem e_Model_put_40 {F : List rw4 → Prop} {G : Prop} : lkp F G t_Model_put 40 = F [(.iload_n 1, 1, 0, 0), (.invokestatic 128, 3, 93, 1), (.ifCond .ne 7, 3, 51, 0)] := propext Iff.rfl
theorem e_Model_put_47 {F : List rw4 → Prop} {G : Prop} : lkp F G t_Model_put 47 = F [(.iconst 1, 1, 0, 0), (.goto 4, 3, 52, 0)] := propext Iff.rfl
theorem e_Model_put_51 {F : List rw4 → Prop} {G : Prop} : lkp F G t_Model_put 51 = F [(.iconst 0, 1, 0, 0)] := propext Iff.rfl
theorem e_Model_put_52 {F : List rw4 → Prop} {G : Prop} : lkp F G t_Model_put 52 = F [(.iload_n 3, 1, 0, 0), (.ifCond .ne 7, 3, 60, 0)] := propext Iff.rfl
theorem e_Model_put_56 {F : List rw4 → Prop} {G : Prop} : lkp F G t_Model_put 56 = F [(.iconst 1, 1, 0, 0), (.goto 4, 3, 61, 0)] := propext Iff.rfl
theorem e_Model_put_60 {F : List rw4 → Prop} {G : Prop} : lkp F G t_Model_put 60 = F [(.iconst 0, 1, 0, 0)] := propext Iff.rfl
theorem e_Model_put_61 {F : List rw4 → Prop} {G : Prop} : lkp F G t_Model_put 61 = F [(.invokevirtual 131, 3, 92, 3), (.ifCond .eq 5, 3, 69, 0)] := propext Iff.rfl
theorem e_Model_put_67 {F : List rw4 → Prop} {G : Prop} : lkp F G t_Model_put 67 = F [(.iconst 0, 1, 0, 0), (.ireturn, 1, 0, 0)] := propext Iff.rfl
theorem e_Model_put_69 {F : List rw4 → Prop} {G : Prop} : lkp F G t_Model_put 69 = F [(.aload_n 0, 1, 0, 0), (.getfield 7, 3, 6, 1), (.iload_n 1, 1, 0, 0), (.iaload, 1, 0, 0), (.istore 4, 2, 0, 0), (.aload_n 0, 1, 0, 0), (.getfield 7, 3, 6, 1), (.iload_n 1, 1, 0, 0), (.iload_n 2, 1, 0, 0), (.iastore, 1, 0, 0), (.iload 4, 2, 0, 0), (.ireturn, 1, 0, 0)] := propext Iff.rfl
theorem o_Model_put : tOk k_Model_put t_Model_put = true := by decide +kernel
/-- DroppedPiecesModel.isPlayer(I)Z; heads of loops: [] -/
def t_Model_isPlayer : tb4 := [
  (0, [(.iload_n 0, 1, 0, 0), (.ifCond .eq 8, 3, 9, 0)]),
  (4, [(.iload_n 0, 1, 0, 0), (.iconst 1, 1, 0, 0), (.if_icmp .ne 7, 3, 13, 0)]),
  (9, [(.iconst 1, 1, 0, 0), (.goto 4, 3, 14, 0)]),
  (13, [(.iconst 0, 1, 0, 0)]),
  (14, [(.ireturn, 1, 1, 0)])]
theorem e_Model_isPlayer_0 {F : List rw4 → Prop} {G : Prop} : lkp F G t_Model_isPlayer 0 = F [(.iload_n 0, 1, 0, 0), (.ifCond .eq 8, 3, 9, 0)] := propext Iff.rfl
theorem e_Model_isPlayer_4 {F : List rw4 → Prop} {G : Prop} : lkp F G t_Model_isPlayer 4 = F [(.iload_n 0, 1, 0, 0), (.iconst 1, 1, 0, 0), (.if_icmp .ne 7, 3, 13, 0)] := propext Iff.rfl
theorem e_Model_isPlayer_9 {F : List rw4 → Prop} {G : Prop} : lkp F G t_Model_isPlayer 9 = F [(.iconst 1, 1, 0, 0), (.goto 4, 3, 14, 0)] := propext Iff.rfl
theorem e_Model_isPlayer_13 {F : List rw4 → Prop} {G : Prop} : lkp F G t_Model_isPlayer 13 = F [(.iconst 0, 1, 0, 0)] := propext Iff.rfl
theorem e_Model_isPlayer_14 {F : List rw4 → Prop} {G : Prop} : lkp F G t_Model_isPlayer 14 = F [(.ireturn, 1, 1, 0)] := propext Iff.rfl
theorem o_Model_isPlayer : tOk k_Model_isPlayer t_Model_isPlayer = true := by decide +kernel
/-- DroppedPiecesModel.give(III)V; heads of loops: [] -/
def t_Model_give : tb4 := [
  (0, [(.aload_n 0, 1, 0, 0), (.aload_n 0, 1, 0, 0), (.getfield 121, 3, 6, 4), (.ifCond .ne 7, 3, 12, 0)]),
  (8, [(.iconst 1, 1, 0, 0), (.goto 4, 3, 13, 0)]),
  (12, [(.iconst 0, 1, 0, 0)]),
  (13, [(.iload_n 1, 1, 0, 0), (.invokestatic 135, 3, 95, 1), (.ifCond .eq 24, 3, 41, 0)]),
  (20, [(.iload_n 2, 1, 0, 0), (.iconst 1, 1, 0, 0), (.if_icmp .lt 19, 3, 41, 0)]),
  (25, [(.iload_n 2, 1, 0, 0), (.bipush 7, 2, 0, 0), (.if_icmp .gt 13, 3, 41, 0)]),
  (31, [(.iload_n 3, 1, 0, 0), (.ifCond .lt 9, 3, 41, 0)]),
  (35, [(.iload_n 3, 1, 0, 0), (.bipush 18, 2, 0, 0), (.if_icmp .le 7, 3, 45, 0)]),
  (41, [(.iconst 1, 1, 0, 0), (.goto 4, 3, 46, 0)]),
  (45, [(.iconst 0, 1, 0, 0)]),
  (46, [(.iconst 0, 1, 0, 0), (.invokevirtual 131, 3, 92, 3), (.ifCond .ne 15, 3, 65, 0)]),
  (53, [(.aload_n 0, 1, 0, 0), (.getfield 13, 3, 6, 2), (.bipush 8, 2, 0, 0), (.iload_n 1, 1, 0, 0), (.imul, 1, 0, 0), (.iload_n 2, 1, 0, 0), (.iadd, 1, 0, 0), (.iload_n 3, 1, 0, 0), (.iastore, 1, 0, 0)]),
  (65, [(.return_, 1, 0, 0)])]
theorem e_Model_give_0 {F : List rw4 → Prop} {G : Prop} : lkp F G t_Model_give 0 = F [(.aload_n 0, 1, 0, 0), (.aload_n 0, 1, 0, 0), (.getfield 121, 3, 6, 4), (.ifCond .ne 7, 3, 12, 0)] := propext Iff.rfl
theorem e_Model_give_8 {F : List rw4 → Prop} {G : Prop} : lkp F G t_Model_give 8 = F [(.iconst 1, 1, 0, 0), (.goto 4, 3, 13, 0)] := propext Iff.rfl
theorem e_Model_give_12 {F : List rw4 → Prop} {G : Prop} : lkp F G t_Model_give 12 = F [(.iconst 0, 1, 0, 0)] := propext Iff.rfl
theorem e_Model_give_13 {F : List rw4 → Prop} {G : Prop} : lkp F G t_Model_give 13 = F [(.iload_n 1, 1, 0, 0), (.invokestatic 135, 3, 95, 1), (.ifCond .eq 24, 3, 41, 0)] := propext Iff.rfl
theorem e_Model_give_20 {F : List rw4 → Prop} {G : Prop} : lkp F G t_Model_give 20 = F [(.iload_n 2, 1, 0, 0), (.iconst 1, 1, 0, 0), (.if_icmp .lt 19, 3, 41, 0)] := propext Iff.rfl
theorem e_Model_give_25 {F : List rw4 → Prop} {G : Prop} : lkp F G t_Model_give 25 = F [(.iload_n 2, 1, 0, 0), (.bipush 7, 2, 0, 0), (.if_icmp .gt 13, 3, 41, 0)] := propext Iff.rfl
theorem e_Model_give_31 {F : List rw4 → Prop} {G : Prop} : lkp F G t_Model_give 31 = F [(.iload_n 3, 1, 0, 0), (.ifCond .lt 9, 3, 41, 0)] := propext Iff.rfl
theorem e_Model_give_35 {F : List rw4 → Prop} {G : Prop} : lkp F G t_Model_give 35 = F [(.iload_n 3, 1, 0, 0), (.bipush 18, 2, 0, 0), (.if_icmp .le 7, 3, 45, 0)] := propext Iff.rfl
theorem e_Model_give_41 {F : List rw4 → Prop} {G : Prop} : lkp F G t_Model_give 41 = F [(.iconst 1, 1, 0, 0), (.goto 4, 3, 46, 0)] := propext Iff.rfl
theorem e_Model_give_45 {F : List rw4 → Prop} {G : Prop} : lkp F G t_Model_give 45 = F [(.iconst 0, 1, 0, 0)] := propext Iff.rfl
theorem e_Model_give_46 {F : List rw4 → Prop} {G : Prop} : lkp F G t_Model_give 46 = F [(.iconst 0, 1, 0, 0), (.invokevirtual 131, 3, 92, 3), (.ifCond .ne 15, 3, 65, 0)] := propext Iff.rfl
theorem e_Model_give_53 {F : List rw4 → Prop} {G : Prop} : lkp F G t_Model_give 53 = F [(.aload_n 0, 1, 0, 0), (.getfield 13, 3, 6, 2), (.bipush 8, 2, 0, 0), (.iload_n 1, 1, 0, 0), (.imul, 1, 0, 0), (.iload_n 2, 1, 0, 0), (.iadd, 1, 0, 0), (.iload_n 3, 1, 0, 0), (.iastore, 1, 0, 0)] := propext Iff.rfl
theorem e_Model_give_65 {F : List rw4 → Prop} {G : Prop} : lkp F G t_Model_give 65 = F [(.return_, 1, 0, 0)] := propext Iff.rfl
theorem o_Model_give : tOk k_Model_give t_Model_give = true := by decide +kernel
/-- DroppedPiecesModel.isSound()Z; heads of loops: [4, 14, 114] -/
def t_Model_isSound : tb4 := [
  (0, [(.iconst 1, 1, 0, 0), (.istore_n 1, 1, 0, 0), (.iconst 0, 1, 0, 0), (.istore_n 2, 1, 0, 0)]),
  (4, [(.iload_n 2, 1, 0, 0), (.iconst 2, 1, 0, 0), (.if_icmp .ge 179, 3, 185, 0)]),
  (9, [(.iconst 0, 1, 0, 0), (.istore_n 3, 1, 0, 0), (.iconst 0, 1, 0, 0), (.istore 4, 2, 0, 0)]),
  (14, [(.iload 4, 2, 0, 0), (.bipush 81, 2, 0, 0), (.if_icmp .ge 146, 3, 164, 0)]),
  (21, [(.aload_n 0, 1, 0, 0), (.getfield 7, 3, 6, 1), (.iload 4, 2, 0, 0), (.iaload, 1, 0, 0), (.iload_n 2, 1, 0, 0), (.invokestatic 54, 3, 66, 2), (.ifCond .eq 126, 3, 158, 0)]),
  (35, [(.aload_n 0, 1, 0, 0), (.getfield 7, 3, 6, 1), (.iload 4, 2, 0, 0), (.iaload, 1, 0, 0), (.invokestatic 43, 3, 65, 1), (.istore 5, 2, 0, 0), (.iload 5, 2, 0, 0), (.bipush 8, 2, 0, 0), (.if_icmp .ne 9, 3, 60, 0)]),
  (54, [(.iload_n 3, 1, 0, 0), (.iconst 1, 1, 0, 0), (.iadd, 1, 0, 0), (.goto 4, 3, 61, 0)]),
  (60, [(.iload_n 3, 1, 0, 0)]),
  (61, [(.istore_n 3, 1, 0, 0), (.aload_n 0, 1, 0, 0), (.getfield 16, 3, 6, 3), (.iload_n 2, 1, 0, 0), (.iload 5, 2, 0, 0), (.bipush 8, 2, 0, 0), (.if_icmp .ne 8, 3, 79, 0)]),
  (74, [(.iload 4, 2, 0, 0), (.goto 9, 3, 85, 0)]),
  (79, [(.aload_n 0, 1, 0, 0), (.getfield 16, 3, 6, 3), (.iload_n 2, 1, 0, 0), (.iaload, 1, 0, 0)]),
  (85, [(.iastore, 1, 0, 0), (.iload_n 1, 1, 0, 0), (.ifCond .eq 18, 3, 105, 0)]),
  (90, [(.iload 5, 2, 0, 0), (.iload_n 2, 1, 0, 0), (.iload 4, 2, 0, 0), (.invokestatic 71, 3, 75, 3), (.ifCond .ne 7, 3, 105, 0)]),
  (101, [(.iconst 1, 1, 0, 0), (.goto 4, 3, 106, 0)]),
  (105, [(.iconst 0, 1, 0, 0)]),
  (106, [(.istore_n 1, 1, 0, 0), (.iload 4, 2, 0, 0), (.bipush 9, 2, 0, 0), (.isub, 1, 0, 0), (.istore 6, 2, 0, 0)]),
  (114, [(.iload 6, 2, 0, 0), (.ifCond .lt 42, 3, 158, 0)]),
  (119, [(.iload 5, 2, 0, 0), (.iconst 1, 1, 0, 0), (.if_icmp .ne 36, 3, 158, 0)]),
  (125, [(.iload_n 1, 1, 0, 0), (.ifCond .eq 24, 3, 150, 0)]),
  (129, [(.aload_n 0, 1, 0, 0), (.getfield 7, 3, 6, 1), (.iload 6, 2, 0, 0), (.iaload, 1, 0, 0), (.aload_n 0, 1, 0, 0), (.getfield 7, 3, 6, 1), (.iload 4, 2, 0, 0), (.iaload, 1, 0, 0), (.if_icmp .eq 7, 3, 150, 0)]),
  (146, [(.iconst 1, 1, 0, 0), (.goto 4, 3, 151, 0)]),
  (150, [(.iconst 0, 1, 0, 0)]),
  (151, [(.istore_n 1, 1, 0, 0), (.iinc 6 (-9), 3, 0, 0), (.goto (-41), 3, 114, 0)]),
  (158, [(.iinc 4 1, 3, 0, 0), (.goto (-147), 3, 14, 0)]),
  (164, [(.iload_n 1, 1, 0, 0), (.ifCond .eq 12, 3, 177, 0)]),
  (168, [(.iload_n 3, 1, 0, 0), (.iconst 1, 1, 0, 0), (.if_icmp .ne 7, 3, 177, 0)]),
  (173, [(.iconst 1, 1, 0, 0), (.goto 4, 3, 178, 0)]),
  (177, [(.iconst 0, 1, 0, 0)]),
  (178, [(.istore_n 1, 1, 0, 0), (.iinc 2 1, 3, 0, 0), (.goto (-178), 3, 4, 0)]),
  (185, [(.iload_n 1, 1, 0, 0), (.ireturn, 1, 1, 0)])]
theorem e_Model_isSound_0 {F : List rw4 → Prop} {G : Prop} : lkp F G t_Model_isSound 0 = F [(.iconst 1, 1, 0, 0), (.istore_n 1, 1, 0, 0), (.iconst 0, 1, 0, 0), (.istore_n 2, 1, 0, 0)] := propext Iff.rfl
theorem e_Model_isSound_4 {F : List rw4 → Prop} {G : Prop} : lkp F G t_Model_isSound 4 = F [(.iload_n 2, 1, 0, 0), (.iconst 2, 1, 0, 0), (.if_icmp .ge 179, 3, 185, 0)] := propext Iff.rfl
theorem e_Model_isSound_9 {F : List rw4 → Prop} {G : Prop} : lkp F G t_Model_isSound 9 = F [(.iconst 0, 1, 0, 0), (.istore_n 3, 1, 0, 0), (.iconst 0, 1, 0, 0), (.istore 4, 2, 0, 0)] := propext Iff.rfl
theorem e_Model_isSound_14 {F : List rw4 → Prop} {G : Prop} : lkp F G t_Model_isSound 14 = F [(.iload 4, 2, 0, 0), (.bipush 81, 2, 0, 0), (.if_icmp .ge 146, 3, 164, 0)] := propext Iff.rfl
theorem e_Model_isSound_21 {F : List rw4 → Prop} {G : Prop} : lkp F G t_Model_isSound 21 = F [(.aload_n 0, 1, 0, 0), (.getfield 7, 3, 6, 1), (.iload 4, 2, 0, 0), (.iaload, 1, 0, 0), (.iload_n 2, 1, 0, 0), (.invokestatic 54, 3, 66, 2), (.ifCond .eq 126, 3, 158, 0)] := propext Iff.rfl
theorem e_Model_isSound_35 {F : List rw4 → Prop} {G : Prop} : lkp F G t_Model_isSound 35 = F [(.aload_n 0, 1, 0, 0), (.getfield 7, 3, 6, 1), (.iload 4, 2, 0, 0), (.iaload, 1, 0, 0), (.invokestatic 43, 3, 65, 1), (.istore 5, 2, 0, 0), (.iload 5, 2, 0, 0), (.bipush 8, 2, 0, 0), (.if_icmp .ne 9, 3, 60, 0)] := propext Iff.rfl
theorem e_Model_isSound_54 {F : List rw4 → Prop} {G : Prop} : lkp F G t_Model_isSound 54 = F [(.iload_n 3, 1, 0, 0), (.iconst 1, 1, 0, 0), (.iadd, 1, 0, 0), (.goto 4, 3, 61, 0)] := propext Iff.rfl
theorem e_Model_isSound_60 {F : List rw4 → Prop} {G : Prop} : lkp F G t_Model_isSound 60 = F [(.iload_n 3, 1, 0, 0)] := propext Iff.rfl
theorem e_Model_isSound_61 {F : List rw4 → Prop} {G : Prop} : lkp F G t_Model_isSound 61 = F [(.istore_n 3, 1, 0, 0), (.aload_n 0, 1, 0, 0), (.getfield 16, 3, 6, 3), (.iload_n 2, 1, 0, 0), (.iload 5, 2, 0, 0), (.bipush 8, 2, 0, 0), (.if_icmp .ne 8, 3, 79, 0)] := propext Iff.rfl
theorem e_Model_isSound_74 {F : List rw4 → Prop} {G : Prop} : lkp F G t_Model_isSound 74 = F [(.iload 4, 2, 0, 0), (.goto 9, 3, 85, 0)] := propext Iff.rfl
theorem e_Model_isSound_79 {F : List rw4 → Prop} {G : Prop} : lkp F G t_Model_isSound 79 = F [(.aload_n 0, 1, 0, 0), (.getfield 16, 3, 6, 3), (.iload_n 2, 1, 0, 0), (.iaload, 1, 0, 0)] := propext Iff.rfl
theorem e_Model_isSound_85 {F : List rw4 → Prop} {G : Prop} : lkp F G t_Model_isSound 85 = F [(.iastore, 1, 0, 0), (.iload_n 1, 1, 0, 0), (.ifCond .eq 18, 3, 105, 0)] := propext Iff.rfl
theorem e_Model_isSound_90 {F : List rw4 → Prop} {G : Prop} : lkp F G t_Model_isSound 90 = F [(.iload 5, 2, 0, 0), (.iload_n 2, 1, 0, 0), (.iload 4, 2, 0, 0), (.invokestatic 71, 3, 75, 3), (.ifCond .ne 7, 3, 105, 0)] := propext Iff.rfl
theorem e_Model_isSound_101 {F : List rw4 → Prop} {G : Prop} : lkp F G t_Model_isSound 101 = F [(.iconst 1, 1, 0, 0), (.goto 4, 3, 106, 0)] := propext Iff.rfl
theorem e_Model_isSound_105 {F : List rw4 → Prop} {G : Prop} : lkp F G t_Model_isSound 105 = F [(.iconst 0, 1, 0, 0)] := propext Iff.rfl
theorem e_Model_isSound_106 {F : List rw4 → Prop} {G : Prop} : lkp F G t_Model_isSound 106 = F [(.istore_n 1, 1, 0, 0), (.iload 4, 2, 0, 0), (.bipush 9, 2, 0, 0), (.isub, 1, 0, 0), (.istore 6, 2, 0, 0)] := propext Iff.rfl
theorem e_Model_isSound_114 {F : List rw4 → Prop} {G : Prop} : lkp F G t_Model_isSound 114 = F [(.iload 6, 2, 0, 0), (.ifCond .lt 42, 3, 158, 0)] := propext Iff.rfl
theorem e_Model_isSound_119 {F : List rw4 → Prop} {G : Prop} : lkp F G t_Model_isSound 119 = F [(.iload 5, 2, 0, 0), (.iconst 1, 1, 0, 0), (.if_icmp .ne 36, 3, 158, 0)] := propext Iff.rfl
theorem e_Model_isSound_125 {F : List rw4 → Prop} {G : Prop} : lkp F G t_Model_isSound 125 = F [(.iload_n 1, 1, 0, 0), (.ifCond .eq 24, 3, 150, 0)] := propext Iff.rfl
theorem e_Model_isSound_129 {F : List rw4 → Prop} {G : Prop} : lkp F G t_Model_isSound 129 = F [(.aload_n 0, 1, 0, 0), (.getfield 7, 3, 6, 1), (.iload 6, 2, 0, 0), (.iaload, 1, 0, 0), (.aload_n 0, 1, 0, 0), (.getfield 7, 3, 6, 1), (.iload 4, 2, 0, 0), (.iaload, 1, 0, 0), (.if_icmp .eq 7, 3, 150, 0)] := propext Iff.rfl
theorem e_Model_isSound_146 {F : List rw4 → Prop} {G : Prop} : lkp F G t_Model_isSound 146 = F [(.iconst 1, 1, 0, 0), (.goto 4, 3, 151, 0)] := propext Iff.rfl
theorem e_Model_isSound_150 {F : List rw4 → Prop} {G : Prop} : lkp F G t_Model_isSound 150 = F [(.iconst 0, 1, 0, 0)] := propext Iff.rfl
theorem e_Model_isSound_151 {F : List rw4 → Prop} {G : Prop} : lkp F G t_Model_isSound 151 = F [(.istore_n 1, 1, 0, 0), (.iinc 6 (-9), 3, 0, 0), (.goto (-41), 3, 114, 0)] := propext Iff.rfl
theorem e_Model_isSound_158 {F : List rw4 → Prop} {G : Prop} : lkp F G t_Model_isSound 158 = F [(.iinc 4 1, 3, 0, 0), (.goto (-147), 3, 14, 0)] := propext Iff.rfl
theorem e_Model_isSound_164 {F : List rw4 → Prop} {G : Prop} : lkp F G t_Model_isSound 164 = F [(.iload_n 1, 1, 0, 0), (.ifCond .eq 12, 3, 177, 0)] := propext Iff.rfl
theorem e_Model_isSound_168 {F : List rw4 → Prop} {G : Prop} : lkp F G t_Model_isSound 168 = F [(.iload_n 3, 1, 0, 0), (.iconst 1, 1, 0, 0), (.if_icmp .ne 7, 3, 177, 0)] := propext Iff.rfl
theorem e_Model_isSound_173 {F : List rw4 → Prop} {G : Prop} : lkp F G t_Model_isSound 173 = F [(.iconst 1, 1, 0, 0), (.goto 4, 3, 178, 0)] := propext Iff.rfl
theorem e_Model_isSound_177 {F : List rw4 → Prop} {G : Prop} : lkp F G t_Model_isSound 177 = F [(.iconst 0, 1, 0, 0)] := propext Iff.rfl
theorem e_Model_isSound_178 {F : List rw4 → Prop} {G : Prop} : lkp F G t_Model_isSound 178 = F [(.istore_n 1, 1, 0, 0), (.iinc 2 1, 3, 0, 0), (.goto (-178), 3, 4, 0)] := propext Iff.rfl
theorem e_Model_isSound_185 {F : List rw4 → Prop} {G : Prop} : lkp F G t_Model_isSound 185 = F [(.iload_n 1, 1, 0, 0), (.ireturn, 1, 1, 0)] := propext Iff.rfl
theorem o_Model_isSound : tOk k_Model_isSound t_Model_isSound = true := by decide +kernel
/-- DroppedPiecesModel.start(I)V; heads of loops: [] -/
def t_Model_start : tb4 := [
  (0, [(.aload_n 0, 1, 0, 0), (.getfield 121, 3, 6, 4), (.ifCond .eq 31, 3, 35, 0)]),
  (7, [(.iload_n 1, 1, 0, 0), (.invokestatic 135, 3, 95, 1), (.ifCond .eq 24, 3, 35, 0)]),
  (14, [(.aload_n 0, 1, 0, 0), (.invokevirtual 138, 3, 97, 0), (.ifCond .eq 17, 3, 35, 0)]),
  (21, [(.aload_n 0, 1, 0, 0), (.iconst 1, 1, 0, 0), (.iload_n 1, 1, 0, 0), (.isub, 1, 0, 0), (.invokevirtual 88, 3, 73, 1), (.ifCond .ne 7, 3, 35, 0)]),
  (31, [(.iconst 1, 1, 0, 0), (.goto 4, 3, 36, 0)]),
  (35, [(.iconst 0, 1, 0, 0)]),
  (36, [(.istore_n 2, 1, 0, 0), (.aload_n 0, 1, 0, 0), (.aload_n 0, 1, 0, 0), (.getfield 121, 3, 6, 4), (.ifCond .ne 7, 3, 49, 0)]),
  (45, [(.iconst 1, 1, 0, 0), (.goto 4, 3, 50, 0)]),
  (49, [(.iconst 0, 1, 0, 0)]),
  (50, [(.iload_n 2, 1, 0, 0), (.ifCond .ne 7, 3, 58, 0)]),
  (54, [(.iconst 1, 1, 0, 0), (.goto 4, 3, 59, 0)]),
  (58, [(.iconst 0, 1, 0, 0)]),
  (59, [(.iconst 0, 1, 0, 0), (.invokevirtual 131, 3, 92, 3), (.ifCond .eq 4, 3, 67, 0)]),
  (66, [(.return_, 1, 0, 0)]),
  (67, [(.aload_n 0, 1, 0, 0), (.iconst 0, 1, 0, 0), (.putfield 121, 3, 6, 4), (.aload_n 0, 1, 0, 0), (.iload_n 1, 1, 0, 0), (.putfield 108, 3, 6, 5), (.aload_n 0, 1, 0, 0), (.iconst 0, 1, 0, 0), (.putfield 115, 3, 6, 6), (.aload_n 0, 1, 0, 0), (.invokevirtual 125, 3, 89, 0), (.return_, 1, 0, 0)])]
theorem e_Model_start_0 {F : List rw4 → Prop} {G : Prop} : lkp F G t_Model_start 0 = F [(.aload_n 0, 1, 0, 0), (.getfield 121, 3, 6, 4), (.ifCond .eq 31, 3, 35, 0)] := propext Iff.rfl
theorem e_Model_start_7 {F : List rw4 → Prop} {G : Prop} : lkp F G t_Model_start 7 = F [(.iload_n 1, 1, 0, 0), (.invokestatic 135, 3, 95, 1), (.ifCond .eq 24, 3, 35, 0)] := propext Iff.rfl
theorem e_Model_start_14 {F : List rw4 → Prop} {G : Prop} : lkp F G t_Model_start 14 = F [(.aload_n 0, 1, 0, 0), (.invokevirtual 138, 3, 97, 0), (.ifCond .eq 17, 3, 35, 0)] := propext Iff.rfl
theorem e_Model_start_21 {F : List rw4 → Prop} {G : Prop} : lkp F G t_Model_start 21 = F [(.aload_n 0, 1, 0, 0), (.iconst 1, 1, 0, 0), (.iload_n 1, 1, 0, 0), (.isub, 1, 0, 0), (.invokevirtual 88, 3, 73, 1), (.ifCond .ne 7, 3, 35, 0)] := propext Iff.rfl
theorem e_Model_start_31 {F : List rw4 → Prop} {G : Prop} : lkp F G t_Model_start 31 = F [(.iconst 1, 1, 0, 0), (.goto 4, 3, 36, 0)] := propext Iff.rfl
theorem e_Model_start_35 {F : List rw4 → Prop} {G : Prop} : lkp F G t_Model_start 35 = F [(.iconst 0, 1, 0, 0)] := propext Iff.rfl
theorem e_Model_start_36 {F : List rw4 → Prop} {G : Prop} : lkp F G t_Model_start 36 = F [(.istore_n 2, 1, 0, 0), (.aload_n 0, 1, 0, 0), (.aload_n 0, 1, 0, 0), (.getfield 121, 3, 6, 4), (.ifCond .ne 7, 3, 49, 0)] := propext Iff.rfl
theorem e_Model_start_45 {F : List rw4 → Prop} {G : Prop} : lkp F G t_Model_start 45 = F [(.iconst 1, 1, 0, 0), (.goto 4, 3, 50, 0)] := propext Iff.rfl
theorem e_Model_start_49 {F : List rw4 → Prop} {G : Prop} : lkp F G t_Model_start 49 = F [(.iconst 0, 1, 0, 0)] := propext Iff.rfl
theorem e_Model_start_50 {F : List rw4 → Prop} {G : Prop} : lkp F G t_Model_start 50 = F [(.iload_n 2, 1, 0, 0), (.ifCond .ne 7, 3, 58, 0)] := propext Iff.rfl
theorem e_Model_start_54 {F : List rw4 → Prop} {G : Prop} : lkp F G t_Model_start 54 = F [(.iconst 1, 1, 0, 0), (.goto 4, 3, 59, 0)] := propext Iff.rfl
theorem e_Model_start_58 {F : List rw4 → Prop} {G : Prop} : lkp F G t_Model_start 58 = F [(.iconst 0, 1, 0, 0)] := propext Iff.rfl
theorem e_Model_start_59 {F : List rw4 → Prop} {G : Prop} : lkp F G t_Model_start 59 = F [(.iconst 0, 1, 0, 0), (.invokevirtual 131, 3, 92, 3), (.ifCond .eq 4, 3, 67, 0)] := propext Iff.rfl
theorem e_Model_start_66 {F : List rw4 → Prop} {G : Prop} : lkp F G t_Model_start 66 = F [(.return_, 1, 0, 0)] := propext Iff.rfl
theorem e_Model_start_67 {F : List rw4 → Prop} {G : Prop} : lkp F G t_Model_start 67 = F [(.aload_n 0, 1, 0, 0), (.iconst 0, 1, 0, 0), (.putfield 121, 3, 6, 4), (.aload_n 0, 1, 0, 0), (.iload_n 1, 1, 0, 0), (.putfield 108, 3, 6, 5), (.aload_n 0, 1, 0, 0), (.iconst 0, 1, 0, 0), (.putfield 115, 3, 6, 6), (.aload_n 0, 1, 0, 0), (.invokevirtual 125, 3, 89, 0), (.return_, 1, 0, 0)] := propext Iff.rfl
theorem o_Model_start : tOk k_Model_start t_Model_start = true := by decide +kernel
/-- DroppedPiecesModel.at(I)I; heads of loops: [] -/
def t_Model_at : tb4 := [
  (0, [(.aload_n 0, 1, 0, 0), (.iload_n 1, 1, 0, 0), (.invokestatic 128, 3, 93, 1), (.ifCond .ne 7, 3, 12, 0)]),
  (8, [(.iconst 1, 1, 0, 0), (.goto 4, 3, 13, 0)]),
  (12, [(.iconst 0, 1, 0, 0)]),
  (13, [(.iconst 0, 1, 0, 0), (.iconst 0, 1, 0, 0), (.invokevirtual 131, 3, 92, 3), (.ifCond .eq 7, 3, 25, 0)]),
  (21, [(.iconst 0, 1, 0, 0), (.goto 9, 3, 31, 0)]),
  (25, [(.aload_n 0, 1, 0, 0), (.getfield 7, 3, 6, 1), (.iload_n 1, 1, 0, 0), (.iaload, 1, 0, 0)]),
  (31, [(.ireturn, 1, 0, 0)])]
theorem e_Model_at_0 {F : List rw4 → Prop} {G : Prop} : lkp F G t_Model_at 0 = F [(.aload_n 0, 1, 0, 0), (.iload_n 1, 1, 0, 0), (.invokestatic 128, 3, 93, 1), (.ifCond .ne 7, 3, 12, 0)] := propext Iff.rfl
theorem e_Model_at_8 {F : List rw4 → Prop} {G : Prop} : lkp F G t_Model_at 8 = F [(.iconst 1, 1, 0, 0), (.goto 4, 3, 13, 0)] := propext Iff.rfl
theorem e_Model_at_12 {F : List rw4 → Prop} {G : Prop} : lkp F G t_Model_at 12 = F [(.iconst 0, 1, 0, 0)] := propext Iff.rfl
theorem e_Model_at_13 {F : List rw4 → Prop} {G : Prop} : lkp F G t_Model_at 13 = F [(.iconst 0, 1, 0, 0), (.iconst 0, 1, 0, 0), (.invokevirtual 131, 3, 92, 3), (.ifCond .eq 7, 3, 25, 0)] := propext Iff.rfl
theorem e_Model_at_21 {F : List rw4 → Prop} {G : Prop} : lkp F G t_Model_at 21 = F [(.iconst 0, 1, 0, 0), (.goto 9, 3, 31, 0)] := propext Iff.rfl
theorem e_Model_at_25 {F : List rw4 → Prop} {G : Prop} : lkp F G t_Model_at 25 = F [(.aload_n 0, 1, 0, 0), (.getfield 7, 3, 6, 1), (.iload_n 1, 1, 0, 0), (.iaload, 1, 0, 0)] := propext Iff.rfl
theorem e_Model_at_31 {F : List rw4 → Prop} {G : Prop} : lkp F G t_Model_at 31 = F [(.ireturn, 1, 0, 0)] := propext Iff.rfl
theorem o_Model_at : tOk k_Model_at t_Model_at = true := by decide +kernel
/-- DroppedPiecesModel.hand(II)I; heads of loops: [] -/
def t_Model_hand : tb4 := [
  (0, [(.aload_n 0, 1, 0, 0), (.iconst 0, 1, 0, 0), (.putfield 39, 3, 6, 0), (.iload_n 1, 1, 0, 0), (.invokestatic 135, 3, 95, 1), (.ifCond .eq 27, 3, 36, 0)]),
  (12, [(.iload_n 2, 1, 0, 0), (.ifCond .le 23, 3, 36, 0)]),
  (16, [(.iload_n 2, 1, 0, 0), (.bipush 8, 2, 0, 0), (.if_icmp .ge 17, 3, 36, 0)]),
  (22, [(.aload_n 0, 1, 0, 0), (.getfield 13, 3, 6, 2), (.bipush 8, 2, 0, 0), (.iload_n 1, 1, 0, 0), (.imul, 1, 0, 0), (.iload_n 2, 1, 0, 0), (.iadd, 1, 0, 0), (.iaload, 1, 0, 0), (.goto 4, 3, 37, 0)]),
  (36, [(.iconst 0, 1, 0, 0)]),
  (37, [(.ireturn, 1, 0, 0)])]
theorem e_Model_hand_0 {F : List rw4 → Prop} {G : Prop} : lkp F G t_Model_hand 0 = F [(.aload_n 0, 1, 0, 0), (.iconst 0, 1, 0, 0), (.putfield 39, 3, 6, 0), (.iload_n 1, 1, 0, 0), (.invokestatic 135, 3, 95, 1), (.ifCond .eq 27, 3, 36, 0)] := propext Iff.rfl
theorem e_Model_hand_12 {F : List rw4 → Prop} {G : Prop} : lkp F G t_Model_hand 12 = F [(.iload_n 2, 1, 0, 0), (.ifCond .le 23, 3, 36, 0)] := propext Iff.rfl
theorem e_Model_hand_16 {F : List rw4 → Prop} {G : Prop} : lkp F G t_Model_hand 16 = F [(.iload_n 2, 1, 0, 0), (.bipush 8, 2, 0, 0), (.if_icmp .ge 17, 3, 36, 0)] := propext Iff.rfl
theorem e_Model_hand_22 {F : List rw4 → Prop} {G : Prop} : lkp F G t_Model_hand 22 = F [(.aload_n 0, 1, 0, 0), (.getfield 13, 3, 6, 2), (.bipush 8, 2, 0, 0), (.iload_n 1, 1, 0, 0), (.imul, 1, 0, 0), (.iload_n 2, 1, 0, 0), (.iadd, 1, 0, 0), (.iaload, 1, 0, 0), (.goto 4, 3, 37, 0)] := propext Iff.rfl
theorem e_Model_hand_36 {F : List rw4 → Prop} {G : Prop} : lkp F G t_Model_hand 36 = F [(.iconst 0, 1, 0, 0)] := propext Iff.rfl
theorem e_Model_hand_37 {F : List rw4 → Prop} {G : Prop} : lkp F G t_Model_hand 37 = F [(.ireturn, 1, 0, 0)] := propext Iff.rfl
theorem o_Model_hand : tOk k_Model_hand t_Model_hand = true := by decide +kernel
/-- DroppedPiecesModel.player()I; heads of loops: [] -/
def t_Model_player : tb4 := [
  (0, [(.aload_n 0, 1, 0, 0), (.iconst 0, 1, 0, 0), (.putfield 39, 3, 6, 0), (.aload_n 0, 1, 0, 0), (.getfield 121, 3, 6, 4), (.ifCond .eq 7, 3, 16, 0)]),
  (12, [(.iconst (-1), 1, 0, 0), (.goto 7, 3, 20, 0)]),
  (16, [(.aload_n 0, 1, 0, 0), (.getfield 108, 3, 6, 5)]),
  (20, [(.ireturn, 1, 0, 0)])]
theorem e_Model_player_0 {F : List rw4 → Prop} {G : Prop} : lkp F G t_Model_player 0 = F [(.aload_n 0, 1, 0, 0), (.iconst 0, 1, 0, 0), (.putfield 39, 3, 6, 0), (.aload_n 0, 1, 0, 0), (.getfield 121, 3, 6, 4), (.ifCond .eq 7, 3, 16, 0)] := propext Iff.rfl
theorem e_Model_player_12 {F : List rw4 → Prop} {G : Prop} : lkp F G t_Model_player 12 = F [(.iconst (-1), 1, 0, 0), (.goto 7, 3, 20, 0)] := propext Iff.rfl
theorem e_Model_player_16 {F : List rw4 → Prop} {G : Prop} : lkp F G t_Model_player 16 = F [(.aload_n 0, 1, 0, 0), (.getfield 108, 3, 6, 5)] := propext Iff.rfl
theorem e_Model_player_20 {F : List rw4 → Prop} {G : Prop} : lkp F G t_Model_player 20 = F [(.ireturn, 1, 0, 0)] := propext Iff.rfl
theorem o_Model_player : tOk k_Model_player t_Model_player = true := by decide +kernel
/-- DroppedPiecesModel.reaches(II)Z; heads of loops: [] -/
def t_Model_reaches : tb4 := [
  (0, [(.aload_n 0, 1, 0, 0), (.iconst 0, 1, 0, 0), (.putfield 39, 3, 6, 0), (.iload_n 1, 1, 0, 0), (.invokestatic 135, 3, 95, 1), (.ifCond .eq 23, 3, 32, 0)]),
  (12, [(.iload_n 2, 1, 0, 0), (.invokestatic 128, 3, 93, 1), (.ifCond .eq 16, 3, 32, 0)]),
  (19, [(.aload_n 0, 1, 0, 0), (.iload_n 1, 1, 0, 0), (.iload_n 2, 1, 0, 0), (.invokevirtual 61, 3, 72, 2), (.ifCond .eq 7, 3, 32, 0)]),
  (28, [(.iconst 1, 1, 0, 0), (.goto 4, 3, 33, 0)]),
  (32, [(.iconst 0, 1, 0, 0)]),
  (33, [(.ireturn, 1, 1, 0)])]
theorem e_Model_reaches_0 {F : List rw4 → Prop} {G : Prop} : lkp F G t_Model_reaches 0 = F [(.aload_n 0, 1, 0, 0), (.iconst 0, 1, 0, 0), (.putfield 39, 3, 6, 0), (.iload_n 1, 1, 0, 0), (.invokestatic 135, 3, 95, 1), (.ifCond .eq 23, 3, 32, 0)] := propext Iff.rfl
theorem e_Model_reaches_12 {F : List rw4 → Prop} {G : Prop} : lkp F G t_Model_reaches 12 = F [(.iload_n 2, 1, 0, 0), (.invokestatic 128, 3, 93, 1), (.ifCond .eq 16, 3, 32, 0)] := propext Iff.rfl
theorem e_Model_reaches_19 {F : List rw4 → Prop} {G : Prop} : lkp F G t_Model_reaches 19 = F [(.aload_n 0, 1, 0, 0), (.iload_n 1, 1, 0, 0), (.iload_n 2, 1, 0, 0), (.invokevirtual 61, 3, 72, 2), (.ifCond .eq 7, 3, 32, 0)] := propext Iff.rfl
theorem e_Model_reaches_28 {F : List rw4 → Prop} {G : Prop} : lkp F G t_Model_reaches 28 = F [(.iconst 1, 1, 0, 0), (.goto 4, 3, 33, 0)] := propext Iff.rfl
theorem e_Model_reaches_32 {F : List rw4 → Prop} {G : Prop} : lkp F G t_Model_reaches 32 = F [(.iconst 0, 1, 0, 0)] := propext Iff.rfl
theorem e_Model_reaches_33 {F : List rw4 → Prop} {G : Prop} : lkp F G t_Model_reaches 33 = F [(.ireturn, 1, 1, 0)] := propext Iff.rfl
theorem o_Model_reaches : tOk k_Model_reaches t_Model_reaches = true := by decide +kernel
/-- DroppedPiecesModel.inCheck(I)Z; heads of loops: [] -/
def t_Model_inCheck : tb4 := [
  (0, [(.aload_n 0, 1, 0, 0), (.iconst 0, 1, 0, 0), (.putfield 39, 3, 6, 0), (.iload_n 1, 1, 0, 0), (.invokestatic 135, 3, 95, 1), (.ifCond .eq 22, 3, 31, 0)]),
  (12, [(.aload_n 0, 1, 0, 0), (.getfield 121, 3, 6, 4), (.ifCond .ne 15, 3, 31, 0)]),
  (19, [(.aload_n 0, 1, 0, 0), (.iload_n 1, 1, 0, 0), (.invokevirtual 88, 3, 73, 1), (.ifCond .eq 7, 3, 31, 0)]),
  (27, [(.iconst 1, 1, 0, 0), (.goto 4, 3, 32, 0)]),
  (31, [(.iconst 0, 1, 0, 0)]),
  (32, [(.ireturn, 1, 1, 0)])]
theorem e_Model_inCheck_0 {F : List rw4 → Prop} {G : Prop} : lkp F G t_Model_inCheck 0 = F [(.aload_n 0, 1, 0, 0), (.iconst 0, 1, 0, 0), (.putfield 39, 3, 6, 0), (.iload_n 1, 1, 0, 0), (.invokestatic 135, 3, 95, 1), (.ifCond .eq 22, 3, 31, 0)] := propext Iff.rfl
theorem e_Model_inCheck_12 {F : List rw4 → Prop} {G : Prop} : lkp F G t_Model_inCheck 12 = F [(.aload_n 0, 1, 0, 0), (.getfield 121, 3, 6, 4), (.ifCond .ne 15, 3, 31, 0)] := propext Iff.rfl
theorem e_Model_inCheck_19 {F : List rw4 → Prop} {G : Prop} : lkp F G t_Model_inCheck 19 = F [(.aload_n 0, 1, 0, 0), (.iload_n 1, 1, 0, 0), (.invokevirtual 88, 3, 73, 1), (.ifCond .eq 7, 3, 31, 0)] := propext Iff.rfl
theorem e_Model_inCheck_27 {F : List rw4 → Prop} {G : Prop} : lkp F G t_Model_inCheck 27 = F [(.iconst 1, 1, 0, 0), (.goto 4, 3, 32, 0)] := propext Iff.rfl
theorem e_Model_inCheck_31 {F : List rw4 → Prop} {G : Prop} : lkp F G t_Model_inCheck 31 = F [(.iconst 0, 1, 0, 0)] := propext Iff.rfl
theorem e_Model_inCheck_32 {F : List rw4 → Prop} {G : Prop} : lkp F G t_Model_inCheck 32 = F [(.ireturn, 1, 1, 0)] := propext Iff.rfl
theorem o_Model_inCheck : tOk k_Model_inCheck t_Model_inCheck = true := by decide +kernel
/-- DroppedPiecesModel.moves()I; heads of loops: [] -/
def t_Model_moves : tb4 := [
  (0, [(.aload_n 0, 1, 0, 0), (.aload_n 0, 1, 0, 0), (.getfield 121, 3, 6, 4), (.iconst 0, 1, 0, 0), (.iconst 0, 1, 0, 0), (.invokevirtual 131, 3, 92, 3), (.ifCond .eq 7, 3, 17, 0)]),
  (13, [(.iconst 0, 1, 0, 0), (.goto 14, 3, 28, 0)]),
  (17, [(.aload_n 0, 1, 0, 0), (.iconst 0, 1, 0, 0), (.aload_n 0, 1, 0, 0), (.getfield 108, 3, 6, 5), (.ldc 142, 2, 100000, 0), (.invokevirtual 143, 3, 84, 3)]),
  (28, [(.ireturn, 1, 0, 0)])]
theorem e_Model_moves_0 {F : List rw4 → Prop} {G : Prop} : lkp F G t_Model_moves 0 = F [(.aload_n 0, 1, 0, 0), (.aload_n 0, 1, 0, 0), (.getfield 121, 3, 6, 4), (.iconst 0, 1, 0, 0), (.iconst 0, 1, 0, 0), (.invokevirtual 131, 3, 92, 3), (.ifCond .eq 7, 3, 17, 0)] := propext Iff.rfl
theorem e_Model_moves_13 {F : List rw4 → Prop} {G : Prop} : lkp F G t_Model_moves 13 = F [(.iconst 0, 1, 0, 0), (.goto 14, 3, 28, 0)] := propext Iff.rfl
theorem e_Model_moves_17 {F : List rw4 → Prop} {G : Prop} : lkp F G t_Model_moves 17 = F [(.aload_n 0, 1, 0, 0), (.iconst 0, 1, 0, 0), (.aload_n 0, 1, 0, 0), (.getfield 108, 3, 6, 5), (.ldc 142, 2, 100000, 0), (.invokevirtual 143, 3, 84, 3)] := propext Iff.rfl
theorem e_Model_moves_28 {F : List rw4 → Prop} {G : Prop} : lkp F G t_Model_moves 28 = F [(.ireturn, 1, 0, 0)] := propext Iff.rfl
theorem o_Model_moves : tOk k_Model_moves t_Model_moves = true := by decide +kernel
/-- DroppedPiecesModel.move(I)I; heads of loops: [] -/
def t_Model_move : tb4 := [
  (0, [(.aload_n 0, 1, 0, 0), (.getfield 121, 3, 6, 4), (.ifCond .ne 7, 3, 11, 0)]),
  (7, [(.iload_n 1, 1, 0, 0), (.ifCond .ge 7, 3, 15, 0)]),
  (11, [(.iconst (-1), 1, 0, 0), (.goto 8, 3, 20, 0)]),
  (15, [(.aload_n 0, 1, 0, 0), (.iload_n 1, 1, 0, 0), (.invokevirtual 147, 3, 85, 1)]),
  (20, [(.istore_n 2, 1, 0, 0), (.aload_n 0, 1, 0, 0), (.aload_n 0, 1, 0, 0), (.getfield 121, 3, 6, 4), (.iload_n 2, 1, 0, 0), (.ifCond .ge 7, 3, 34, 0)]),
  (30, [(.iconst 1, 1, 0, 0), (.goto 4, 3, 35, 0)]),
  (34, [(.iconst 0, 1, 0, 0)]),
  (35, [(.iconst 0, 1, 0, 0), (.invokevirtual 131, 3, 92, 3), (.ifCond .eq 7, 3, 46, 0)]),
  (42, [(.iconst 0, 1, 0, 0), (.goto 4, 3, 47, 0)]),
  (46, [(.iload_n 2, 1, 0, 0)]),
  (47, [(.ireturn, 1, 0, 0)])]
theorem e_Model_move_0 {F : List rw4 → Prop} {G : Prop} : lkp F G t_Model_move 0 = F [(.aload_n 0, 1, 0, 0), (.getfield 121, 3, 6, 4), (.ifCond .ne 7, 3, 11, 0)] := propext Iff.rfl
theorem e_Model_move_7 {F : List rw4 → Prop} {G : Prop} : lkp F G t_Model_move 7 = F [(.iload_n 1, 1, 0, 0), (.ifCond .ge 7, 3, 15, 0)] := propext Iff.rfl
theorem e_Model_move_11 {F : List rw4 → Prop} {G : Prop} : lkp F G t_Model_move 11 = F [(.iconst (-1), 1, 0, 0), (.goto 8, 3, 20, 0)] := propext Iff.rfl
theorem e_Model_move_15 {F : List rw4 → Prop} {G : Prop} : lkp F G t_Model_move 15 = F [(.aload_n 0, 1, 0, 0), (.iload_n 1, 1, 0, 0), (.invokevirtual 147, 3, 85, 1)] := propext Iff.rfl
theorem e_Model_move_20 {F : List rw4 → Prop} {G : Prop} : lkp F G t_Model_move 20 = F [(.istore_n 2, 1, 0, 0), (.aload_n 0, 1, 0, 0), (.aload_n 0, 1, 0, 0), (.getfield 121, 3, 6, 4), (.iload_n 2, 1, 0, 0), (.ifCond .ge 7, 3, 34, 0)] := propext Iff.rfl
theorem e_Model_move_30 {F : List rw4 → Prop} {G : Prop} : lkp F G t_Model_move 30 = F [(.iconst 1, 1, 0, 0), (.goto 4, 3, 35, 0)] := propext Iff.rfl
theorem e_Model_move_34 {F : List rw4 → Prop} {G : Prop} : lkp F G t_Model_move 34 = F [(.iconst 0, 1, 0, 0)] := propext Iff.rfl
theorem e_Model_move_35 {F : List rw4 → Prop} {G : Prop} : lkp F G t_Model_move 35 = F [(.iconst 0, 1, 0, 0), (.invokevirtual 131, 3, 92, 3), (.ifCond .eq 7, 3, 46, 0)] := propext Iff.rfl
theorem e_Model_move_42 {F : List rw4 → Prop} {G : Prop} : lkp F G t_Model_move 42 = F [(.iconst 0, 1, 0, 0), (.goto 4, 3, 47, 0)] := propext Iff.rfl
theorem e_Model_move_46 {F : List rw4 → Prop} {G : Prop} : lkp F G t_Model_move 46 = F [(.iload_n 2, 1, 0, 0)] := propext Iff.rfl
theorem e_Model_move_47 {F : List rw4 → Prop} {G : Prop} : lkp F G t_Model_move 47 = F [(.ireturn, 1, 0, 0)] := propext Iff.rfl
theorem o_Model_move : tOk k_Model_move t_Model_move = true := by decide +kernel
/-- DroppedPiecesModel.isLegal(I)Z; heads of loops: [] -/
def t_Model_isLegal : tb4 := [
  (0, [(.aload_n 0, 1, 0, 0), (.aload_n 0, 1, 0, 0), (.getfield 121, 3, 6, 4), (.iconst 0, 1, 0, 0), (.iconst 0, 1, 0, 0), (.invokevirtual 131, 3, 92, 3), (.ifCond .ne 15, 3, 25, 0)]),
  (13, [(.aload_n 0, 1, 0, 0), (.iload_n 1, 1, 0, 0), (.invokevirtual 150, 3, 87, 1), (.ifCond .eq 7, 3, 25, 0)]),
  (21, [(.iconst 1, 1, 0, 0), (.goto 4, 3, 26, 0)]),
  (25, [(.iconst 0, 1, 0, 0)]),
  (26, [(.ireturn, 1, 1, 0)])]
theorem e_Model_isLegal_0 {F : List rw4 → Prop} {G : Prop} : lkp F G t_Model_isLegal 0 = F [(.aload_n 0, 1, 0, 0), (.aload_n 0, 1, 0, 0), (.getfield 121, 3, 6, 4), (.iconst 0, 1, 0, 0), (.iconst 0, 1, 0, 0), (.invokevirtual 131, 3, 92, 3), (.ifCond .ne 15, 3, 25, 0)] := propext Iff.rfl
theorem e_Model_isLegal_13 {F : List rw4 → Prop} {G : Prop} : lkp F G t_Model_isLegal 13 = F [(.aload_n 0, 1, 0, 0), (.iload_n 1, 1, 0, 0), (.invokevirtual 150, 3, 87, 1), (.ifCond .eq 7, 3, 25, 0)] := propext Iff.rfl
theorem e_Model_isLegal_21 {F : List rw4 → Prop} {G : Prop} : lkp F G t_Model_isLegal 21 = F [(.iconst 1, 1, 0, 0), (.goto 4, 3, 26, 0)] := propext Iff.rfl
theorem e_Model_isLegal_25 {F : List rw4 → Prop} {G : Prop} : lkp F G t_Model_isLegal 25 = F [(.iconst 0, 1, 0, 0)] := propext Iff.rfl
theorem e_Model_isLegal_26 {F : List rw4 → Prop} {G : Prop} : lkp F G t_Model_isLegal 26 = F [(.ireturn, 1, 1, 0)] := propext Iff.rfl
theorem o_Model_isLegal : tOk k_Model_isLegal t_Model_isLegal = true := by decide +kernel
/-- DroppedPiecesModel.isSame(I)Z; heads of loops: [19] -/
def t_Model_isSame : tb4 := [
  (0, [(.aload_n 0, 1, 0, 0), (.getfield 115, 3, 6, 6), (.iload_n 1, 1, 0, 0), (.isub, 1, 0, 0), (.iconst 2, 1, 0, 0), (.irem, 1, 0, 0), (.ifCond .ne 7, 3, 15, 0)]),
  (11, [(.iconst 1, 1, 0, 0), (.goto 4, 3, 16, 0)]),
  (15, [(.iconst 0, 1, 0, 0)]),
  (16, [(.istore_n 2, 1, 0, 0), (.iconst 0, 1, 0, 0), (.istore_n 3, 1, 0, 0)]),
  (19, [(.iload_n 3, 1, 0, 0), (.bipush 9, 2, 0, 0), (.if_icmp .ge 48, 3, 70, 0)]),
  (25, [(.iload_n 2, 1, 0, 0), (.ifCond .eq 44, 3, 70, 0)]),
  (29, [(.aload_n 0, 1, 0, 0), (.getfield 25, 3, 6, 9), (.bipush 9, 2, 0, 0), (.iload_n 1, 1, 0, 0), (.imul, 1, 0, 0), (.iload_n 3, 1, 0, 0), (.iadd, 1, 0, 0), (.laload, 1, 0, 0), (.aload_n 0, 1, 0, 0), (.getfield 25, 3, 6, 9), (.bipush 9, 2, 0, 0), (.aload_n 0, 1, 0, 0), (.getfield 115, 3, 6, 6), (.imul, 1, 0, 0), (.iload_n 3, 1, 0, 0), (.iadd, 1, 0, 0), (.laload, 1, 0, 0), (.lcmp, 1, 0, 0), (.ifCond .ne 7, 3, 62, 0)]),
  (58, [(.iconst 1, 1, 0, 0), (.goto 4, 3, 63, 0)]),
  (62, [(.iconst 0, 1, 0, 0)]),
  (63, [(.istore_n 2, 1, 0, 0), (.iinc 3 1, 3, 0, 0), (.goto (-48), 3, 19, 0)]),
  (70, [(.iload_n 2, 1, 0, 0), (.ireturn, 1, 1, 0)])]
theorem e_Model_isSame_0 {F : List rw4 → Prop} {G : Prop} : lkp F G t_Model_isSame 0 = F [(.aload_n 0, 1, 0, 0), (.getfield 115, 3, 6, 6), (.iload_n 1, 1, 0, 0), (.isub, 1, 0, 0), (.iconst 2, 1, 0, 0), (.irem, 1, 0, 0), (.ifCond .ne 7, 3, 15, 0)] := propext Iff.rfl
theorem e_Model_isSame_11 {F : List rw4 → Prop} {G : Prop} : lkp F G t_Model_isSame 11 = F [(.iconst 1, 1, 0, 0), (.goto 4, 3, 16, 0)] := propext Iff.rfl
theorem e_Model_isSame_15 {F : List rw4 → Prop} {G : Prop} : lkp F G t_Model_isSame 15 = F [(.iconst 0, 1, 0, 0)] := propext Iff.rfl
theorem e_Model_isSame_16 {F : List rw4 → Prop} {G : Prop} : lkp F G t_Model_isSame 16 = F [(.istore_n 2, 1, 0, 0), (.iconst 0, 1, 0, 0), (.istore_n 3, 1, 0, 0)] := propext Iff.rfl
theorem e_Model_isSame_19 {F : List rw4 → Prop} {G : Prop} : lkp F G t_Model_isSame 19 = F [(.iload_n 3, 1, 0, 0), (.bipush 9, 2, 0, 0), (.if_icmp .ge 48, 3, 70, 0)] := propext Iff.rfl
theorem e_Model_isSame_25 {F : List rw4 → Prop} {G : Prop} : lkp F G t_Model_isSame 25 = F [(.iload_n 2, 1, 0, 0), (.ifCond .eq 44, 3, 70, 0)] := propext Iff.rfl
theorem e_Model_isSame_29 {F : List rw4 → Prop} {G : Prop} : lkp F G t_Model_isSame 29 = F [(.aload_n 0, 1, 0, 0), (.getfield 25, 3, 6, 9), (.bipush 9, 2, 0, 0), (.iload_n 1, 1, 0, 0), (.imul, 1, 0, 0), (.iload_n 3, 1, 0, 0), (.iadd, 1, 0, 0), (.laload, 1, 0, 0), (.aload_n 0, 1, 0, 0), (.getfield 25, 3, 6, 9), (.bipush 9, 2, 0, 0), (.aload_n 0, 1, 0, 0), (.getfield 115, 3, 6, 6), (.imul, 1, 0, 0), (.iload_n 3, 1, 0, 0), (.iadd, 1, 0, 0), (.laload, 1, 0, 0), (.lcmp, 1, 0, 0), (.ifCond .ne 7, 3, 62, 0)] := propext Iff.rfl
theorem e_Model_isSame_58 {F : List rw4 → Prop} {G : Prop} : lkp F G t_Model_isSame 58 = F [(.iconst 1, 1, 0, 0), (.goto 4, 3, 63, 0)] := propext Iff.rfl
theorem e_Model_isSame_62 {F : List rw4 → Prop} {G : Prop} : lkp F G t_Model_isSame 62 = F [(.iconst 0, 1, 0, 0)] := propext Iff.rfl
theorem e_Model_isSame_63 {F : List rw4 → Prop} {G : Prop} : lkp F G t_Model_isSame 63 = F [(.istore_n 2, 1, 0, 0), (.iinc 3 1, 3, 0, 0), (.goto (-48), 3, 19, 0)] := propext Iff.rfl
theorem e_Model_isSame_70 {F : List rw4 → Prop} {G : Prop} : lkp F G t_Model_isSame 70 = F [(.iload_n 2, 1, 0, 0), (.ireturn, 1, 1, 0)] := propext Iff.rfl
theorem o_Model_isSame : tOk k_Model_isSame t_Model_isSame = true := by decide +kernel
/-- DroppedPiecesModel.often()I; heads of loops: [4] -/
def t_Model_often : tb4 := [
  (0, [(.iconst 0, 1, 0, 0), (.istore_n 1, 1, 0, 0), (.iconst 0, 1, 0, 0), (.istore_n 2, 1, 0, 0)]),
  (4, [(.iload_n 2, 1, 0, 0), (.aload_n 0, 1, 0, 0), (.getfield 115, 3, 6, 6), (.if_icmp .gt 25, 3, 34, 0)]),
  (12, [(.aload_n 0, 1, 0, 0), (.iload_n 2, 1, 0, 0), (.invokevirtual 153, 3, 107, 1), (.ifCond .eq 9, 3, 26, 0)]),
  (20, [(.iload_n 1, 1, 0, 0), (.iconst 1, 1, 0, 0), (.iadd, 1, 0, 0), (.goto 4, 3, 27, 0)]),
  (26, [(.iload_n 1, 1, 0, 0)]),
  (27, [(.istore_n 1, 1, 0, 0), (.iinc 2 1, 3, 0, 0), (.goto (-27), 3, 4, 0)]),
  (34, [(.iload_n 1, 1, 0, 0), (.ireturn, 1, 0, 0)])]
theorem e_Model_often_0 {F : List rw4 → Prop} {G : Prop} : lkp F G t_Model_often 0 = F [(.iconst 0, 1, 0, 0), (.istore_n 1, 1, 0, 0), (.iconst 0, 1, 0, 0), (.istore_n 2, 1, 0, 0)] := propext Iff.rfl
theorem e_Model_often_4 {F : List rw4 → Prop} {G : Prop} : lkp F G t_Model_often 4 = F [(.iload_n 2, 1, 0, 0), (.aload_n 0, 1, 0, 0), (.getfield 115, 3, 6, 6), (.if_icmp .gt 25, 3, 34, 0)] := propext Iff.rfl
theorem e_Model_often_12 {F : List rw4 → Prop} {G : Prop} : lkp F G t_Model_often 12 = F [(.aload_n 0, 1, 0, 0), (.iload_n 2, 1, 0, 0), (.invokevirtual 153, 3, 107, 1), (.ifCond .eq 9, 3, 26, 0)] := propext Iff.rfl
theorem e_Model_often_20 {F : List rw4 → Prop} {G : Prop} : lkp F G t_Model_often 20 = F [(.iload_n 1, 1, 0, 0), (.iconst 1, 1, 0, 0), (.iadd, 1, 0, 0), (.goto 4, 3, 27, 0)] := propext Iff.rfl
theorem e_Model_often_26 {F : List rw4 → Prop} {G : Prop} : lkp F G t_Model_often 26 = F [(.iload_n 1, 1, 0, 0)] := propext Iff.rfl
theorem e_Model_often_27 {F : List rw4 → Prop} {G : Prop} : lkp F G t_Model_often 27 = F [(.istore_n 1, 1, 0, 0), (.iinc 2 1, 3, 0, 0), (.goto (-27), 3, 4, 0)] := propext Iff.rfl
theorem e_Model_often_34 {F : List rw4 → Prop} {G : Prop} : lkp F G t_Model_often 34 = F [(.iload_n 1, 1, 0, 0), (.ireturn, 1, 0, 0)] := propext Iff.rfl
theorem o_Model_often : tOk k_Model_often t_Model_often = true := by decide +kernel
/-- DroppedPiecesModel.before(I)I; heads of loops: [9] -/
def t_Model_before : tb4 := [
  (0, [(.iload_n 1, 1, 0, 0), (.istore_n 2, 1, 0, 0), (.aload_n 0, 1, 0, 0), (.getfield 115, 3, 6, 6), (.iconst 1, 1, 0, 0), (.isub, 1, 0, 0), (.istore_n 3, 1, 0, 0)]),
  (9, [(.iload_n 3, 1, 0, 0), (.ifCond .lt 26, 3, 36, 0)]),
  (13, [(.aload_n 0, 1, 0, 0), (.iload_n 3, 1, 0, 0), (.invokevirtual 153, 3, 107, 1), (.ifCond .eq 12, 3, 30, 0)]),
  (21, [(.iinc 2 (-1), 3, 0, 0), (.iload_n 2, 1, 0, 0), (.ifCond .ne 5, 3, 30, 0)]),
  (28, [(.iload_n 3, 1, 0, 0), (.ireturn, 1, 0, 0)]),
  (30, [(.iinc 3 (-1), 3, 0, 0), (.goto (-24), 3, 9, 0)]),
  (36, [(.iconst 0, 1, 0, 0), (.ireturn, 1, 0, 0)])]
theorem e_Model_before_0 {F : List rw4 → Prop} {G : Prop} : lkp F G t_Model_before 0 = F [(.iload_n 1, 1, 0, 0), (.istore_n 2, 1, 0, 0), (.aload_n 0, 1, 0, 0), (.getfield 115, 3, 6, 6), (.iconst 1, 1, 0, 0), (.isub, 1, 0, 0), (.istore_n 3, 1, 0, 0)] := propext Iff.rfl
theorem e_Model_before_9 {F : List rw4 → Prop} {G : Prop} : lkp F G t_Model_before 9 = F [(.iload_n 3, 1, 0, 0), (.ifCond .lt 26, 3, 36, 0)] := propext Iff.rfl
theorem e_Model_before_13 {F : List rw4 → Prop} {G : Prop} : lkp F G t_Model_before 13 = F [(.aload_n 0, 1, 0, 0), (.iload_n 3, 1, 0, 0), (.invokevirtual 153, 3, 107, 1), (.ifCond .eq 12, 3, 30, 0)] := propext Iff.rfl
theorem e_Model_before_21 {F : List rw4 → Prop} {G : Prop} : lkp F G t_Model_before 21 = F [(.iinc 2 (-1), 3, 0, 0), (.iload_n 2, 1, 0, 0), (.ifCond .ne 5, 3, 30, 0)] := propext Iff.rfl
theorem e_Model_before_28 {F : List rw4 → Prop} {G : Prop} : lkp F G t_Model_before 28 = F [(.iload_n 3, 1, 0, 0), (.ireturn, 1, 0, 0)] := propext Iff.rfl
theorem e_Model_before_30 {F : List rw4 → Prop} {G : Prop} : lkp F G t_Model_before 30 = F [(.iinc 3 (-1), 3, 0, 0), (.goto (-24), 3, 9, 0)] := propext Iff.rfl
theorem e_Model_before_36 {F : List rw4 → Prop} {G : Prop} : lkp F G t_Model_before 36 = F [(.iconst 0, 1, 0, 0), (.ireturn, 1, 0, 0)] := propext Iff.rfl
theorem o_Model_before : tOk k_Model_before t_Model_before = true := by decide +kernel
/-- DroppedPiecesModel.allChecks(IZ)Z; heads of loops: [5] -/
def t_Model_allChecks : tb4 := [
  (0, [(.iconst 1, 1, 0, 0), (.istore_n 3, 1, 0, 0), (.iload_n 1, 1, 0, 0), (.istore 4, 2, 0, 0)]),
  (5, [(.iload 4, 2, 0, 0), (.aload_n 0, 1, 0, 0), (.getfield 115, 3, 6, 6), (.if_icmp .ge 64, 3, 75, 0)]),
  (14, [(.aload_n 0, 1, 0, 0), (.getfield 115, 3, 6, 6), (.iload 4, 2, 0, 0), (.isub, 1, 0, 0), (.iconst 2, 1, 0, 0), (.irem, 1, 0, 0), (.iload_n 2, 1, 0, 0), (.ifCond .eq 7, 3, 31, 0)]),
  (27, [(.iconst 1, 1, 0, 0), (.goto 4, 3, 32, 0)]),
  (31, [(.iconst 0, 1, 0, 0)]),
  (32, [(.if_icmp .ne 7, 3, 39, 0)]),
  (35, [(.iconst 1, 1, 0, 0), (.goto 4, 3, 40, 0)]),
  (39, [(.iconst 0, 1, 0, 0)]),
  (40, [(.istore 5, 2, 0, 0), (.iload_n 3, 1, 0, 0), (.ifCond .eq 24, 3, 67, 0)]),
  (46, [(.iload 5, 2, 0, 0), (.ifCond .eq 15, 3, 63, 0)]),
  (51, [(.aload_n 0, 1, 0, 0), (.getfield 29, 3, 6, 10), (.iload 4, 2, 0, 0), (.iconst 1, 1, 0, 0), (.iadd, 1, 0, 0), (.baload, 1, 0, 0), (.ifCond .eq 7, 3, 67, 0)]),
  (63, [(.iconst 1, 1, 0, 0), (.goto 4, 3, 68, 0)]),
  (67, [(.iconst 0, 1, 0, 0)]),
  (68, [(.istore_n 3, 1, 0, 0), (.iinc 4 1, 3, 0, 0), (.goto (-67), 3, 5, 0)]),
  (75, [(.iload_n 3, 1, 0, 0), (.ireturn, 1, 1, 0)])]
theorem e_Model_allChecks_0 {F : List rw4 → Prop} {G : Prop} : lkp F G t_Model_allChecks 0 = F [(.iconst 1, 1, 0, 0), (.istore_n 3, 1, 0, 0), (.iload_n 1, 1, 0, 0), (.istore 4, 2, 0, 0)] := propext Iff.rfl
theorem e_Model_allChecks_5 {F : List rw4 → Prop} {G : Prop} : lkp F G t_Model_allChecks 5 = F [(.iload 4, 2, 0, 0), (.aload_n 0, 1, 0, 0), (.getfield 115, 3, 6, 6), (.if_icmp .ge 64, 3, 75, 0)] := propext Iff.rfl
theorem e_Model_allChecks_14 {F : List rw4 → Prop} {G : Prop} : lkp F G t_Model_allChecks 14 = F [(.aload_n 0, 1, 0, 0), (.getfield 115, 3, 6, 6), (.iload 4, 2, 0, 0), (.isub, 1, 0, 0), (.iconst 2, 1, 0, 0), (.irem, 1, 0, 0), (.iload_n 2, 1, 0, 0), (.ifCond .eq 7, 3, 31, 0)] := propext Iff.rfl
theorem e_Model_allChecks_27 {F : List rw4 → Prop} {G : Prop} : lkp F G t_Model_allChecks 27 = F [(.iconst 1, 1, 0, 0), (.goto 4, 3, 32, 0)] := propext Iff.rfl
theorem e_Model_allChecks_31 {F : List rw4 → Prop} {G : Prop} : lkp F G t_Model_allChecks 31 = F [(.iconst 0, 1, 0, 0)] := propext Iff.rfl
theorem e_Model_allChecks_32 {F : List rw4 → Prop} {G : Prop} : lkp F G t_Model_allChecks 32 = F [(.if_icmp .ne 7, 3, 39, 0)] := propext Iff.rfl
theorem e_Model_allChecks_35 {F : List rw4 → Prop} {G : Prop} : lkp F G t_Model_allChecks 35 = F [(.iconst 1, 1, 0, 0), (.goto 4, 3, 40, 0)] := propext Iff.rfl
theorem e_Model_allChecks_39 {F : List rw4 → Prop} {G : Prop} : lkp F G t_Model_allChecks 39 = F [(.iconst 0, 1, 0, 0)] := propext Iff.rfl
theorem e_Model_allChecks_40 {F : List rw4 → Prop} {G : Prop} : lkp F G t_Model_allChecks 40 = F [(.istore 5, 2, 0, 0), (.iload_n 3, 1, 0, 0), (.ifCond .eq 24, 3, 67, 0)] := propext Iff.rfl
theorem e_Model_allChecks_46 {F : List rw4 → Prop} {G : Prop} : lkp F G t_Model_allChecks 46 = F [(.iload 5, 2, 0, 0), (.ifCond .eq 15, 3, 63, 0)] := propext Iff.rfl
theorem e_Model_allChecks_51 {F : List rw4 → Prop} {G : Prop} : lkp F G t_Model_allChecks 51 = F [(.aload_n 0, 1, 0, 0), (.getfield 29, 3, 6, 10), (.iload 4, 2, 0, 0), (.iconst 1, 1, 0, 0), (.iadd, 1, 0, 0), (.baload, 1, 0, 0), (.ifCond .eq 7, 3, 67, 0)] := propext Iff.rfl
theorem e_Model_allChecks_63 {F : List rw4 → Prop} {G : Prop} : lkp F G t_Model_allChecks 63 = F [(.iconst 1, 1, 0, 0), (.goto 4, 3, 68, 0)] := propext Iff.rfl
theorem e_Model_allChecks_67 {F : List rw4 → Prop} {G : Prop} : lkp F G t_Model_allChecks 67 = F [(.iconst 0, 1, 0, 0)] := propext Iff.rfl
theorem e_Model_allChecks_68 {F : List rw4 → Prop} {G : Prop} : lkp F G t_Model_allChecks 68 = F [(.istore_n 3, 1, 0, 0), (.iinc 4 1, 3, 0, 0), (.goto (-67), 3, 5, 0)] := propext Iff.rfl
theorem e_Model_allChecks_75 {F : List rw4 → Prop} {G : Prop} : lkp F G t_Model_allChecks 75 = F [(.iload_n 3, 1, 0, 0), (.ireturn, 1, 1, 0)] := propext Iff.rfl
theorem o_Model_allChecks : tOk k_Model_allChecks t_Model_allChecks = true := by decide +kernel
/-- DroppedPiecesModel.resultNow()I; heads of loops: [] -/
def t_Model_resultNow : tb4 := [
  (0, [(.aload_n 0, 1, 0, 0), (.iconst 0, 1, 0, 0), (.aload_n 0, 1, 0, 0), (.getfield 108, 3, 6, 5), (.iconst 1, 1, 0, 0), (.invokevirtual 143, 3, 84, 3), (.ifCond .ne 5, 3, 15, 0)]),
  (13, [(.iconst 1, 1, 0, 0), (.ireturn, 1, 0, 0)]),
  (15, [(.aload_n 0, 1, 0, 0), (.invokevirtual 156, 3, 108, 0), (.iconst 4, 1, 0, 0), (.if_icmp .ge 5, 3, 25, 0)]),
  (23, [(.iconst 0, 1, 0, 0), (.ireturn, 1, 0, 0)]),
  (25, [(.aload_n 0, 1, 0, 0), (.iconst 3, 1, 0, 0), (.invokevirtual 160, 3, 109, 1), (.istore_n 1, 1, 0, 0), (.aload_n 0, 1, 0, 0), (.iload_n 1, 1, 0, 0), (.iconst 0, 1, 0, 0), (.invokevirtual 163, 3, 110, 2), (.ifCond .eq 7, 3, 44, 0)]),
  (40, [(.iconst 3, 1, 0, 0), (.goto 17, 3, 58, 0)]),
  (44, [(.aload_n 0, 1, 0, 0), (.iload_n 1, 1, 0, 0), (.iconst 1, 1, 0, 0), (.invokevirtual 163, 3, 110, 2), (.ifCond .eq 7, 3, 57, 0)]),
  (53, [(.iconst 4, 1, 0, 0), (.goto 4, 3, 58, 0)]),
  (57, [(.iconst 2, 1, 0, 0)]),
  (58, [(.ireturn, 1, 0, 0)])]
theorem e_Model_resultNow_0 {F : List rw4 → Prop} {G : Prop} : lkp F G t_Model_resultNow 0 = F [(.aload_n 0, 1, 0, 0), (.iconst 0, 1, 0, 0), (.aload_n 0, 1, 0, 0), (.getfield 108, 3, 6, 5), (.iconst 1, 1, 0, 0), (.invokevirtual 143, 3, 84, 3), (.ifCond .ne 5, 3, 15, 0)] := propext Iff.rfl
theorem e_Model_resultNow_13 {F : List rw4 → Prop} {G : Prop} : lkp F G t_Model_resultNow 13 = F [(.iconst 1, 1, 0, 0), (.ireturn, 1, 0, 0)] := propext Iff.rfl
theorem e_Model_resultNow_15 {F : List rw4 → Prop} {G : Prop} : lkp F G t_Model_resultNow 15 = F [(.aload_n 0, 1, 0, 0), (.invokevirtual 156, 3, 108, 0), (.iconst 4, 1, 0, 0), (.if_icmp .ge 5, 3, 25, 0)] := propext Iff.rfl
theorem e_Model_resultNow_23 {F : List rw4 → Prop} {G : Prop} : lkp F G t_Model_resultNow 23 = F [(.iconst 0, 1, 0, 0), (.ireturn, 1, 0, 0)] := propext Iff.rfl
theorem e_Model_resultNow_25 {F : List rw4 → Prop} {G : Prop} : lkp F G t_Model_resultNow 25 = F [(.aload_n 0, 1, 0, 0), (.iconst 3, 1, 0, 0), (.invokevirtual 160, 3, 109, 1), (.istore_n 1, 1, 0, 0), (.aload_n 0, 1, 0, 0), (.iload_n 1, 1, 0, 0), (.iconst 0, 1, 0, 0), (.invokevirtual 163, 3, 110, 2), (.ifCond .eq 7, 3, 44, 0)] := propext Iff.rfl
theorem e_Model_resultNow_40 {F : List rw4 → Prop} {G : Prop} : lkp F G t_Model_resultNow 40 = F [(.iconst 3, 1, 0, 0), (.goto 17, 3, 58, 0)] := propext Iff.rfl
theorem e_Model_resultNow_44 {F : List rw4 → Prop} {G : Prop} : lkp F G t_Model_resultNow 44 = F [(.aload_n 0, 1, 0, 0), (.iload_n 1, 1, 0, 0), (.iconst 1, 1, 0, 0), (.invokevirtual 163, 3, 110, 2), (.ifCond .eq 7, 3, 57, 0)] := propext Iff.rfl
theorem e_Model_resultNow_53 {F : List rw4 → Prop} {G : Prop} : lkp F G t_Model_resultNow 53 = F [(.iconst 4, 1, 0, 0), (.goto 4, 3, 58, 0)] := propext Iff.rfl
theorem e_Model_resultNow_57 {F : List rw4 → Prop} {G : Prop} : lkp F G t_Model_resultNow 57 = F [(.iconst 2, 1, 0, 0)] := propext Iff.rfl
theorem e_Model_resultNow_58 {F : List rw4 → Prop} {G : Prop} : lkp F G t_Model_resultNow 58 = F [(.ireturn, 1, 0, 0)] := propext Iff.rfl
theorem o_Model_resultNow : tOk k_Model_resultNow t_Model_resultNow = true := by decide +kernel
/-- DroppedPiecesModel.result()I; heads of loops: [] -/
def t_Model_result : tb4 := [
  (0, [(.aload_n 0, 1, 0, 0), (.aload_n 0, 1, 0, 0), (.getfield 121, 3, 6, 4), (.iconst 0, 1, 0, 0), (.iconst 0, 1, 0, 0), (.invokevirtual 131, 3, 92, 3), (.ifCond .eq 7, 3, 17, 0)]),
  (13, [(.iconst 0, 1, 0, 0), (.goto 7, 3, 21, 0)]),
  (17, [(.aload_n 0, 1, 0, 0), (.invokevirtual 167, 3, 111, 0)]),
  (21, [(.ireturn, 1, 0, 0)])]
theorem e_Model_result_0 {F : List rw4 → Prop} {G : Prop} : lkp F G t_Model_result 0 = F [(.aload_n 0, 1, 0, 0), (.aload_n 0, 1, 0, 0), (.getfield 121, 3, 6, 4), (.iconst 0, 1, 0, 0), (.iconst 0, 1, 0, 0), (.invokevirtual 131, 3, 92, 3), (.ifCond .eq 7, 3, 17, 0)] := propext Iff.rfl
theorem e_Model_result_13 {F : List rw4 → Prop} {G : Prop} : lkp F G t_Model_result 13 = F [(.iconst 0, 1, 0, 0), (.goto 7, 3, 21, 0)] := propext Iff.rfl
theorem e_Model_result_17 {F : List rw4 → Prop} {G : Prop} : lkp F G t_Model_result 17 = F [(.aload_n 0, 1, 0, 0), (.invokevirtual 167, 3, 111, 0)] := propext Iff.rfl
theorem e_Model_result_21 {F : List rw4 → Prop} {G : Prop} : lkp F G t_Model_result 21 = F [(.ireturn, 1, 0, 0)] := propext Iff.rfl
theorem o_Model_result : tOk k_Model_result t_Model_result = true := by decide +kernel
/-- DroppedPiecesModel.times()I; heads of loops: [] -/
def t_Model_times : tb4 := [
  (0, [(.aload_n 0, 1, 0, 0), (.aload_n 0, 1, 0, 0), (.getfield 121, 3, 6, 4), (.iconst 0, 1, 0, 0), (.iconst 0, 1, 0, 0), (.invokevirtual 131, 3, 92, 3), (.ifCond .eq 7, 3, 17, 0)]),
  (13, [(.iconst 0, 1, 0, 0), (.goto 7, 3, 21, 0)]),
  (17, [(.aload_n 0, 1, 0, 0), (.invokevirtual 156, 3, 108, 0)]),
  (21, [(.ireturn, 1, 0, 0)])]
theorem e_Model_times_0 {F : List rw4 → Prop} {G : Prop} : lkp F G t_Model_times 0 = F [(.aload_n 0, 1, 0, 0), (.aload_n 0, 1, 0, 0), (.getfield 121, 3, 6, 4), (.iconst 0, 1, 0, 0), (.iconst 0, 1, 0, 0), (.invokevirtual 131, 3, 92, 3), (.ifCond .eq 7, 3, 17, 0)] := propext Iff.rfl
theorem e_Model_times_13 {F : List rw4 → Prop} {G : Prop} : lkp F G t_Model_times 13 = F [(.iconst 0, 1, 0, 0), (.goto 7, 3, 21, 0)] := propext Iff.rfl
theorem e_Model_times_17 {F : List rw4 → Prop} {G : Prop} : lkp F G t_Model_times 17 = F [(.aload_n 0, 1, 0, 0), (.invokevirtual 156, 3, 108, 0)] := propext Iff.rfl
theorem e_Model_times_21 {F : List rw4 → Prop} {G : Prop} : lkp F G t_Model_times 21 = F [(.ireturn, 1, 0, 0)] := propext Iff.rfl
theorem o_Model_times : tOk k_Model_times t_Model_times = true := by decide +kernel
/-- DroppedPiecesModel.play(I)I; heads of loops: [] -/
def t_Model_play : tb4 := [
  (0, [(.aload_n 0, 1, 0, 0), (.getfield 121, 3, 6, 4), (.ifCond .ne 20, 3, 24, 0)]),
  (7, [(.aload_n 0, 1, 0, 0), (.getfield 115, 3, 6, 6), (.sipush 150, 3, 0, 0), (.if_icmp .eq 10, 3, 24, 0)]),
  (17, [(.aload_n 0, 1, 0, 0), (.invokevirtual 167, 3, 111, 0), (.ifCond .eq 7, 3, 28, 0)]),
  (24, [(.iconst 1, 1, 0, 0), (.goto 4, 3, 29, 0)]),
  (28, [(.iconst 0, 1, 0, 0)]),
  (29, [(.istore_n 2, 1, 0, 0), (.aload_n 0, 1, 0, 0), (.iload_n 2, 1, 0, 0), (.iload_n 2, 1, 0, 0), (.ifCond .ne 15, 3, 48, 0)]),
  (36, [(.aload_n 0, 1, 0, 0), (.iload_n 1, 1, 0, 0), (.invokevirtual 150, 3, 87, 1), (.ifCond .ne 7, 3, 48, 0)]),
  (44, [(.iconst 1, 1, 0, 0), (.goto 4, 3, 49, 0)]),
  (48, [(.iconst 0, 1, 0, 0)]),
  (49, [(.iconst 0, 1, 0, 0), (.invokevirtual 131, 3, 92, 3), (.ifCond .eq 5, 3, 58, 0)]),
  (56, [(.iconst 0, 1, 0, 0), (.ireturn, 1, 0, 0)]),
  (58, [(.aload_n 0, 1, 0, 0), (.iconst 0, 1, 0, 0), (.aload_n 0, 1, 0, 0), (.getfield 108, 3, 6, 5), (.iload_n 1, 1, 0, 0), (.bipush 127, 2, 0, 0), (.iand, 1, 1, 7), (.iload_n 1, 1, 0, 0), (.bipush 7, 2, 0, 0), (.ishr, 1, 0, 0), (.bipush 127, 2, 0, 0), (.iand, 1, 1, 7), (.iload_n 1, 1, 0, 0), (.bipush 14, 2, 0, 0), (.ishr, 1, 0, 0), (.invokevirtual 84, 3, 78, 5), (.aload_n 0, 1, 0, 0), (.getfield 19, 3, 6, 7), (.aload_n 0, 1, 0, 0), (.getfield 115, 3, 6, 6), (.iload_n 1, 1, 0, 0), (.iastore, 1, 0, 0), (.aload_n 0, 1, 0, 0), (.getfield 22, 3, 6, 8), (.aload_n 0, 1, 0, 0), (.getfield 115, 3, 6, 6), (.aload_n 0, 1, 0, 0), (.getfield 33, 3, 6, 11), (.iconst 0, 1, 0, 0), (.iaload, 1, 0, 0), (.iastore, 1, 0, 0), (.aload_n 0, 1, 0, 0), (.dup, 1, 0, 0), (.getfield 115, 3, 6, 6), (.iconst 1, 1, 0, 0), (.iadd, 1, 0, 0), (.putfield 115, 3, 6, 6), (.aload_n 0, 1, 0, 0), (.iconst 1, 1, 0, 0), (.aload_n 0, 1, 0, 0), (.getfield 108, 3, 6, 5), (.isub, 1, 0, 0), (.putfield 108, 3, 6, 5), (.aload_n 0, 1, 0, 0), (.invokevirtual 125, 3, 89, 0), (.aload_n 0, 1, 0, 0), (.getfield 22, 3, 6, 8), (.aload_n 0, 1, 0, 0), (.getfield 115, 3, 6, 6), (.iconst 1, 1, 0, 0), (.isub, 1, 0, 0), (.iaload, 1, 0, 0), (.invokestatic 43, 3, 65, 1), (.ireturn, 1, 0, 0)])]
theorem e_Model_play_0 {F : List rw4 → Prop} {G : Prop} : lkp F G t_Model_play 0 = F [(.aload_n 0, 1, 0, 0), (.getfield 121, 3, 6, 4), (.ifCond .ne 20, 3, 24, 0)] := propext Iff.rfl
theorem e_Model_play_7 {F : List rw4 → Prop} {G : Prop} : lkp F G t_Model_play 7 = F [(.aload_n 0, 1, 0, 0), (.getfield 115, 3, 6, 6), (.sipush 150, 3, 0, 0), (.if_icmp .eq 10, 3, 24, 0)] := propext Iff.rfl
theorem e_Model_play_17 {F : List rw4 → Prop} {G : Prop} : lkp F G t_Model_play 17 = F [(.aload_n 0, 1, 0, 0), (.invokevirtual 167, 3, 111, 0), (.ifCond .eq 7, 3, 28, 0)] := propext Iff.rfl
theorem e_Model_play_24 {F : List rw4 → Prop} {G : Prop} : lkp F G t_Model_play 24 = F [(.iconst 1, 1, 0, 0), (.goto 4, 3, 29, 0)] := propext Iff.rfl
theorem e_Model_play_28 {F : List rw4 → Prop} {G : Prop} : lkp F G t_Model_play 28 = F [(.iconst 0, 1, 0, 0)] := propext Iff.rfl
theorem e_Model_play_29 {F : List rw4 → Prop} {G : Prop} : lkp F G t_Model_play 29 = F [(.istore_n 2, 1, 0, 0), (.aload_n 0, 1, 0, 0), (.iload_n 2, 1, 0, 0), (.iload_n 2, 1, 0, 0), (.ifCond .ne 15, 3, 48, 0)] := propext Iff.rfl
theorem e_Model_play_36 {F : List rw4 → Prop} {G : Prop} : lkp F G t_Model_play 36 = F [(.aload_n 0, 1, 0, 0), (.iload_n 1, 1, 0, 0), (.invokevirtual 150, 3, 87, 1), (.ifCond .ne 7, 3, 48, 0)] := propext Iff.rfl
theorem e_Model_play_44 {F : List rw4 → Prop} {G : Prop} : lkp F G t_Model_play 44 = F [(.iconst 1, 1, 0, 0), (.goto 4, 3, 49, 0)] := propext Iff.rfl
theorem e_Model_play_48 {F : List rw4 → Prop} {G : Prop} : lkp F G t_Model_play 48 = F [(.iconst 0, 1, 0, 0)] := propext Iff.rfl
theorem e_Model_play_49 {F : List rw4 → Prop} {G : Prop} : lkp F G t_Model_play 49 = F [(.iconst 0, 1, 0, 0), (.invokevirtual 131, 3, 92, 3), (.ifCond .eq 5, 3, 58, 0)] := propext Iff.rfl
theorem e_Model_play_56 {F : List rw4 → Prop} {G : Prop} : lkp F G t_Model_play 56 = F [(.iconst 0, 1, 0, 0), (.ireturn, 1, 0, 0)] := propext Iff.rfl
theorem e_Model_play_58 {F : List rw4 → Prop} {G : Prop} : lkp F G t_Model_play 58 = F [(.aload_n 0, 1, 0, 0), (.iconst 0, 1, 0, 0), (.aload_n 0, 1, 0, 0), (.getfield 108, 3, 6, 5), (.iload_n 1, 1, 0, 0), (.bipush 127, 2, 0, 0), (.iand, 1, 1, 7), (.iload_n 1, 1, 0, 0), (.bipush 7, 2, 0, 0), (.ishr, 1, 0, 0), (.bipush 127, 2, 0, 0), (.iand, 1, 1, 7), (.iload_n 1, 1, 0, 0), (.bipush 14, 2, 0, 0), (.ishr, 1, 0, 0), (.invokevirtual 84, 3, 78, 5), (.aload_n 0, 1, 0, 0), (.getfield 19, 3, 6, 7), (.aload_n 0, 1, 0, 0), (.getfield 115, 3, 6, 6), (.iload_n 1, 1, 0, 0), (.iastore, 1, 0, 0), (.aload_n 0, 1, 0, 0), (.getfield 22, 3, 6, 8), (.aload_n 0, 1, 0, 0), (.getfield 115, 3, 6, 6), (.aload_n 0, 1, 0, 0), (.getfield 33, 3, 6, 11), (.iconst 0, 1, 0, 0), (.iaload, 1, 0, 0), (.iastore, 1, 0, 0), (.aload_n 0, 1, 0, 0), (.dup, 1, 0, 0), (.getfield 115, 3, 6, 6), (.iconst 1, 1, 0, 0), (.iadd, 1, 0, 0), (.putfield 115, 3, 6, 6), (.aload_n 0, 1, 0, 0), (.iconst 1, 1, 0, 0), (.aload_n 0, 1, 0, 0), (.getfield 108, 3, 6, 5), (.isub, 1, 0, 0), (.putfield 108, 3, 6, 5), (.aload_n 0, 1, 0, 0), (.invokevirtual 125, 3, 89, 0), (.aload_n 0, 1, 0, 0), (.getfield 22, 3, 6, 8), (.aload_n 0, 1, 0, 0), (.getfield 115, 3, 6, 6), (.iconst 1, 1, 0, 0), (.isub, 1, 0, 0), (.iaload, 1, 0, 0), (.invokestatic 43, 3, 65, 1), (.ireturn, 1, 0, 0)] := propext Iff.rfl
theorem o_Model_play : tOk k_Model_play t_Model_play = true := by decide +kernel
/-- DroppedPiecesModel.back()I; heads of loops: [] -/
def t_Model_back : tb4 := [
  (0, [(.aload_n 0, 1, 0, 0), (.aload_n 0, 1, 0, 0), (.getfield 121, 3, 6, 4), (.aload_n 0, 1, 0, 0), (.getfield 115, 3, 6, 6), (.ifCond .ne 7, 3, 16, 0)]),
  (12, [(.iconst 1, 1, 0, 0), (.goto 4, 3, 17, 0)]),
  (16, [(.iconst 0, 1, 0, 0)]),
  (17, [(.iconst 0, 1, 0, 0), (.invokevirtual 131, 3, 92, 3), (.ifCond .eq 5, 3, 26, 0)]),
  (24, [(.iconst 0, 1, 0, 0), (.ireturn, 1, 0, 0)]),
  (26, [(.aload_n 0, 1, 0, 0), (.dup, 1, 0, 0), (.getfield 115, 3, 6, 6), (.iconst 1, 1, 0, 0), (.isub, 1, 0, 0), (.putfield 115, 3, 6, 6), (.aload_n 0, 1, 0, 0), (.iconst 1, 1, 0, 0), (.aload_n 0, 1, 0, 0), (.getfield 108, 3, 6, 5), (.isub, 1, 0, 0), (.putfield 108, 3, 6, 5), (.aload_n 0, 1, 0, 0), (.getfield 19, 3, 6, 7), (.aload_n 0, 1, 0, 0), (.getfield 115, 3, 6, 6), (.iaload, 1, 0, 0), (.istore_n 1, 1, 0, 0), (.aload_n 0, 1, 0, 0), (.getfield 33, 3, 6, 11), (.iconst 0, 1, 0, 0), (.aload_n 0, 1, 0, 0), (.getfield 22, 3, 6, 8), (.aload_n 0, 1, 0, 0), (.getfield 115, 3, 6, 6), (.iaload, 1, 0, 0), (.iastore, 1, 0, 0), (.aload_n 0, 1, 0, 0), (.iconst 0, 1, 0, 0), (.aload_n 0, 1, 0, 0), (.getfield 108, 3, 6, 5), (.iload_n 1, 1, 0, 0), (.bipush 127, 2, 0, 0), (.iand, 1, 1, 7), (.iload_n 1, 1, 0, 0), (.bipush 7, 2, 0, 0), (.ishr, 1, 0, 0), (.bipush 127, 2, 0, 0), (.iand, 1, 1, 7), (.iload_n 1, 1, 0, 0), (.bipush 14, 2, 0, 0), (.ishr, 1, 0, 0), (.invokevirtual 92, 3, 79, 5), (.iload_n 1, 1, 0, 0), (.ireturn, 1, 0, 0)])]
theorem e_Model_back_0 {F : List rw4 → Prop} {G : Prop} : lkp F G t_Model_back 0 = F [(.aload_n 0, 1, 0, 0), (.aload_n 0, 1, 0, 0), (.getfield 121, 3, 6, 4), (.aload_n 0, 1, 0, 0), (.getfield 115, 3, 6, 6), (.ifCond .ne 7, 3, 16, 0)] := propext Iff.rfl
theorem e_Model_back_12 {F : List rw4 → Prop} {G : Prop} : lkp F G t_Model_back 12 = F [(.iconst 1, 1, 0, 0), (.goto 4, 3, 17, 0)] := propext Iff.rfl
theorem e_Model_back_16 {F : List rw4 → Prop} {G : Prop} : lkp F G t_Model_back 16 = F [(.iconst 0, 1, 0, 0)] := propext Iff.rfl
theorem e_Model_back_17 {F : List rw4 → Prop} {G : Prop} : lkp F G t_Model_back 17 = F [(.iconst 0, 1, 0, 0), (.invokevirtual 131, 3, 92, 3), (.ifCond .eq 5, 3, 26, 0)] := propext Iff.rfl
theorem e_Model_back_24 {F : List rw4 → Prop} {G : Prop} : lkp F G t_Model_back 24 = F [(.iconst 0, 1, 0, 0), (.ireturn, 1, 0, 0)] := propext Iff.rfl
theorem e_Model_back_26 {F : List rw4 → Prop} {G : Prop} : lkp F G t_Model_back 26 = F [(.aload_n 0, 1, 0, 0), (.dup, 1, 0, 0), (.getfield 115, 3, 6, 6), (.iconst 1, 1, 0, 0), (.isub, 1, 0, 0), (.putfield 115, 3, 6, 6), (.aload_n 0, 1, 0, 0), (.iconst 1, 1, 0, 0), (.aload_n 0, 1, 0, 0), (.getfield 108, 3, 6, 5), (.isub, 1, 0, 0), (.putfield 108, 3, 6, 5), (.aload_n 0, 1, 0, 0), (.getfield 19, 3, 6, 7), (.aload_n 0, 1, 0, 0), (.getfield 115, 3, 6, 6), (.iaload, 1, 0, 0), (.istore_n 1, 1, 0, 0), (.aload_n 0, 1, 0, 0), (.getfield 33, 3, 6, 11), (.iconst 0, 1, 0, 0), (.aload_n 0, 1, 0, 0), (.getfield 22, 3, 6, 8), (.aload_n 0, 1, 0, 0), (.getfield 115, 3, 6, 6), (.iaload, 1, 0, 0), (.iastore, 1, 0, 0), (.aload_n 0, 1, 0, 0), (.iconst 0, 1, 0, 0), (.aload_n 0, 1, 0, 0), (.getfield 108, 3, 6, 5), (.iload_n 1, 1, 0, 0), (.bipush 127, 2, 0, 0), (.iand, 1, 1, 7), (.iload_n 1, 1, 0, 0), (.bipush 7, 2, 0, 0), (.ishr, 1, 0, 0), (.bipush 127, 2, 0, 0), (.iand, 1, 1, 7), (.iload_n 1, 1, 0, 0), (.bipush 14, 2, 0, 0), (.ishr, 1, 0, 0), (.invokevirtual 92, 3, 79, 5), (.iload_n 1, 1, 0, 0), (.ireturn, 1, 0, 0)] := propext Iff.rfl
theorem o_Model_back : tOk k_Model_back t_Model_back = true := by decide +kernel
/-- DroppedPiecesModel.made()I; heads of loops: [] -/
def t_Model_made : tb4 := [
  (0, [(.aload_n 0, 1, 0, 0), (.iconst 0, 1, 0, 0), (.putfield 39, 3, 6, 0), (.aload_n 0, 1, 0, 0), (.getfield 121, 3, 6, 4), (.ifCond .eq 7, 3, 16, 0)]),
  (12, [(.iconst 0, 1, 0, 0), (.goto 7, 3, 20, 0)]),
  (16, [(.aload_n 0, 1, 0, 0), (.getfield 115, 3, 6, 6)]),
  (20, [(.ireturn, 1, 0, 0)])]
theorem e_Model_made_0 {F : List rw4 → Prop} {G : Prop} : lkp F G t_Model_made 0 = F [(.aload_n 0, 1, 0, 0), (.iconst 0, 1, 0, 0), (.putfield 39, 3, 6, 0), (.aload_n 0, 1, 0, 0), (.getfield 121, 3, 6, 4), (.ifCond .eq 7, 3, 16, 0)] := propext Iff.rfl
theorem e_Model_made_12 {F : List rw4 → Prop} {G : Prop} : lkp F G t_Model_made 12 = F [(.iconst 0, 1, 0, 0), (.goto 7, 3, 20, 0)] := propext Iff.rfl
theorem e_Model_made_16 {F : List rw4 → Prop} {G : Prop} : lkp F G t_Model_made 16 = F [(.aload_n 0, 1, 0, 0), (.getfield 115, 3, 6, 6)] := propext Iff.rfl
theorem e_Model_made_20 {F : List rw4 → Prop} {G : Prop} : lkp F G t_Model_made 20 = F [(.ireturn, 1, 0, 0)] := propext Iff.rfl
theorem o_Model_made : tOk k_Model_made t_Model_made = true := by decide +kernel
/-- DroppedPiecesModel.twoDeep()I; heads of loops: [4, 67, 81] -/
def t_Model_twoDeep : tb4 := [
  (0, [(.iconst 0, 1, 0, 0), (.istore_n 1, 1, 0, 0), (.iconst 0, 1, 0, 0), (.istore_n 2, 1, 0, 0)]),
  (4, [(.iload_n 2, 1, 0, 0), (.bipush 89, 2, 0, 0), (.if_icmp .ge 159, 3, 166, 0)]),
  (10, [(.iload_n 2, 1, 0, 0), (.bipush 81, 2, 0, 0), (.if_icmp .ge 19, 3, 32, 0)]),
  (16, [(.aload_n 0, 1, 0, 0), (.getfield 7, 3, 6, 1), (.iload_n 2, 1, 0, 0), (.iaload, 1, 0, 0), (.aload_n 0, 1, 0, 0), (.getfield 108, 3, 6, 5), (.invokestatic 54, 3, 66, 2), (.goto 34, 3, 63, 0)]),
  (32, [(.iload_n 2, 1, 0, 0), (.bipush 81, 2, 0, 0), (.if_icmp .le 27, 3, 62, 0)]),
  (38, [(.aload_n 0, 1, 0, 0), (.getfield 13, 3, 6, 2), (.bipush 8, 2, 0, 0), (.aload_n 0, 1, 0, 0), (.getfield 108, 3, 6, 5), (.imul, 1, 0, 0), (.iload_n 2, 1, 0, 0), (.iadd, 1, 0, 0), (.bipush 81, 2, 0, 0), (.isub, 1, 0, 0), (.iaload, 1, 0, 0), (.ifCond .le 7, 3, 62, 0)]),
  (58, [(.iconst 1, 1, 0, 0), (.goto 4, 3, 63, 0)]),
  (62, [(.iconst 0, 1, 0, 0)]),
  (63, [(.istore_n 3, 1, 0, 0), (.iconst 0, 1, 0, 0), (.istore 4, 2, 0, 0)]),
  (67, [(.iload 4, 2, 0, 0), (.bipush 81, 2, 0, 0), (.if_icmp .ge 89, 3, 160, 0)]),
  (74, [(.iload_n 3, 1, 0, 0), (.ifCond .eq 85, 3, 160, 0)]),
  (78, [(.iconst 0, 1, 0, 0), (.istore 5, 2, 0, 0)]),
  (81, [(.iload 5, 2, 0, 0), (.iconst 2, 1, 0, 0), (.if_icmp .ge 70, 3, 154, 0)]),
  (87, [(.aload_n 0, 1, 0, 0), (.iconst 0, 1, 0, 0), (.aload_n 0, 1, 0, 0), (.getfield 108, 3, 6, 5), (.iload_n 2, 1, 0, 0), (.iload 4, 2, 0, 0), (.iload 5, 2, 0, 0), (.invokevirtual 105, 3, 83, 5), (.ifCond .eq 47, 3, 148, 0)]),
  (104, [(.aload_n 0, 1, 0, 0), (.iconst 0, 1, 0, 0), (.aload_n 0, 1, 0, 0), (.getfield 108, 3, 6, 5), (.iload_n 2, 1, 0, 0), (.iload 4, 2, 0, 0), (.iload 5, 2, 0, 0), (.invokevirtual 84, 3, 78, 5), (.iload_n 1, 1, 0, 0), (.aload_n 0, 1, 0, 0), (.iconst 1, 1, 0, 0), (.iconst 1, 1, 0, 0), (.aload_n 0, 1, 0, 0), (.getfield 108, 3, 6, 5), (.isub, 1, 0, 0), (.ldc 142, 2, 100000, 0), (.invokevirtual 143, 3, 84, 3), (.iadd, 1, 0, 0), (.istore_n 1, 1, 0, 0), (.aload_n 0, 1, 0, 0), (.iconst 0, 1, 0, 0), (.aload_n 0, 1, 0, 0), (.getfield 108, 3, 6, 5), (.iload_n 2, 1, 0, 0), (.iload 4, 2, 0, 0), (.iload 5, 2, 0, 0), (.invokevirtual 92, 3, 79, 5)]),
  (148, [(.iinc 5 1, 3, 0, 0), (.goto (-70), 3, 81, 0)]),
  (154, [(.iinc 4 1, 3, 0, 0), (.goto (-90), 3, 67, 0)]),
  (160, [(.iinc 2 1, 3, 0, 0), (.goto (-159), 3, 4, 0)]),
  (166, [(.iload_n 1, 1, 0, 0), (.ireturn, 1, 0, 0)])]
theorem e_Model_twoDeep_0 {F : List rw4 → Prop} {G : Prop} : lkp F G t_Model_twoDeep 0 = F [(.iconst 0, 1, 0, 0), (.istore_n 1, 1, 0, 0), (.iconst 0, 1, 0, 0), (.istore_n 2, 1, 0, 0)] := propext Iff.rfl
theorem e_Model_twoDeep_4 {F : List rw4 → Prop} {G : Prop} : lkp F G t_Model_twoDeep 4 = F [(.iload_n 2, 1, 0, 0), (.bipush 89, 2, 0, 0), (.if_icmp .ge 159, 3, 166, 0)] := propext Iff.rfl
theorem e_Model_twoDeep_10 {F : List rw4 → Prop} {G : Prop} : lkp F G t_Model_twoDeep 10 = F [(.iload_n 2, 1, 0, 0), (.bipush 81, 2, 0, 0), (.if_icmp .ge 19, 3, 32, 0)] := propext Iff.rfl
theorem e_Model_twoDeep_16 {F : List rw4 → Prop} {G : Prop} : lkp F G t_Model_twoDeep 16 = F [(.aload_n 0, 1, 0, 0), (.getfield 7, 3, 6, 1), (.iload_n 2, 1, 0, 0), (.iaload, 1, 0, 0), (.aload_n 0, 1, 0, 0), (.getfield 108, 3, 6, 5), (.invokestatic 54, 3, 66, 2), (.goto 34, 3, 63, 0)] := propext Iff.rfl
theorem e_Model_twoDeep_32 {F : List rw4 → Prop} {G : Prop} : lkp F G t_Model_twoDeep 32 = F [(.iload_n 2, 1, 0, 0), (.bipush 81, 2, 0, 0), (.if_icmp .le 27, 3, 62, 0)] := propext Iff.rfl
theorem e_Model_twoDeep_38 {F : List rw4 → Prop} {G : Prop} : lkp F G t_Model_twoDeep 38 = F [(.aload_n 0, 1, 0, 0), (.getfield 13, 3, 6, 2), (.bipush 8, 2, 0, 0), (.aload_n 0, 1, 0, 0), (.getfield 108, 3, 6, 5), (.imul, 1, 0, 0), (.iload_n 2, 1, 0, 0), (.iadd, 1, 0, 0), (.bipush 81, 2, 0, 0), (.isub, 1, 0, 0), (.iaload, 1, 0, 0), (.ifCond .le 7, 3, 62, 0)] := propext Iff.rfl
theorem e_Model_twoDeep_58 {F : List rw4 → Prop} {G : Prop} : lkp F G t_Model_twoDeep 58 = F [(.iconst 1, 1, 0, 0), (.goto 4, 3, 63, 0)] := propext Iff.rfl
theorem e_Model_twoDeep_62 {F : List rw4 → Prop} {G : Prop} : lkp F G t_Model_twoDeep 62 = F [(.iconst 0, 1, 0, 0)] := propext Iff.rfl
theorem e_Model_twoDeep_63 {F : List rw4 → Prop} {G : Prop} : lkp F G t_Model_twoDeep 63 = F [(.istore_n 3, 1, 0, 0), (.iconst 0, 1, 0, 0), (.istore 4, 2, 0, 0)] := propext Iff.rfl
theorem e_Model_twoDeep_67 {F : List rw4 → Prop} {G : Prop} : lkp F G t_Model_twoDeep 67 = F [(.iload 4, 2, 0, 0), (.bipush 81, 2, 0, 0), (.if_icmp .ge 89, 3, 160, 0)] := propext Iff.rfl
theorem e_Model_twoDeep_74 {F : List rw4 → Prop} {G : Prop} : lkp F G t_Model_twoDeep 74 = F [(.iload_n 3, 1, 0, 0), (.ifCond .eq 85, 3, 160, 0)] := propext Iff.rfl
theorem e_Model_twoDeep_78 {F : List rw4 → Prop} {G : Prop} : lkp F G t_Model_twoDeep 78 = F [(.iconst 0, 1, 0, 0), (.istore 5, 2, 0, 0)] := propext Iff.rfl
theorem e_Model_twoDeep_81 {F : List rw4 → Prop} {G : Prop} : lkp F G t_Model_twoDeep 81 = F [(.iload 5, 2, 0, 0), (.iconst 2, 1, 0, 0), (.if_icmp .ge 70, 3, 154, 0)] := propext Iff.rfl
theorem e_Model_twoDeep_87 {F : List rw4 → Prop} {G : Prop} : lkp F G t_Model_twoDeep 87 = F [(.aload_n 0, 1, 0, 0), (.iconst 0, 1, 0, 0), (.aload_n 0, 1, 0, 0), (.getfield 108, 3, 6, 5), (.iload_n 2, 1, 0, 0), (.iload 4, 2, 0, 0), (.iload 5, 2, 0, 0), (.invokevirtual 105, 3, 83, 5), (.ifCond .eq 47, 3, 148, 0)] := propext Iff.rfl
theorem e_Model_twoDeep_104 {F : List rw4 → Prop} {G : Prop} : lkp F G t_Model_twoDeep 104 = F [(.aload_n 0, 1, 0, 0), (.iconst 0, 1, 0, 0), (.aload_n 0, 1, 0, 0), (.getfield 108, 3, 6, 5), (.iload_n 2, 1, 0, 0), (.iload 4, 2, 0, 0), (.iload 5, 2, 0, 0), (.invokevirtual 84, 3, 78, 5), (.iload_n 1, 1, 0, 0), (.aload_n 0, 1, 0, 0), (.iconst 1, 1, 0, 0), (.iconst 1, 1, 0, 0), (.aload_n 0, 1, 0, 0), (.getfield 108, 3, 6, 5), (.isub, 1, 0, 0), (.ldc 142, 2, 100000, 0), (.invokevirtual 143, 3, 84, 3), (.iadd, 1, 0, 0), (.istore_n 1, 1, 0, 0), (.aload_n 0, 1, 0, 0), (.iconst 0, 1, 0, 0), (.aload_n 0, 1, 0, 0), (.getfield 108, 3, 6, 5), (.iload_n 2, 1, 0, 0), (.iload 4, 2, 0, 0), (.iload 5, 2, 0, 0), (.invokevirtual 92, 3, 79, 5)] := propext Iff.rfl
theorem e_Model_twoDeep_148 {F : List rw4 → Prop} {G : Prop} : lkp F G t_Model_twoDeep 148 = F [(.iinc 5 1, 3, 0, 0), (.goto (-70), 3, 81, 0)] := propext Iff.rfl
theorem e_Model_twoDeep_154 {F : List rw4 → Prop} {G : Prop} : lkp F G t_Model_twoDeep 154 = F [(.iinc 4 1, 3, 0, 0), (.goto (-90), 3, 67, 0)] := propext Iff.rfl
theorem e_Model_twoDeep_160 {F : List rw4 → Prop} {G : Prop} : lkp F G t_Model_twoDeep 160 = F [(.iinc 2 1, 3, 0, 0), (.goto (-159), 3, 4, 0)] := propext Iff.rfl
theorem e_Model_twoDeep_166 {F : List rw4 → Prop} {G : Prop} : lkp F G t_Model_twoDeep 166 = F [(.iload_n 1, 1, 0, 0), (.ireturn, 1, 0, 0)] := propext Iff.rfl
theorem o_Model_twoDeep : tOk k_Model_twoDeep t_Model_twoDeep = true := by decide +kernel
/-- DroppedPiecesModel.count(I)I; heads of loops: [] -/
def t_Model_count : tb4 := [
  (0, [(.aload_n 0, 1, 0, 0), (.aload_n 0, 1, 0, 0), (.getfield 121, 3, 6, 4), (.iload_n 1, 1, 0, 0), (.ifCond .lt 8, 3, 14, 0)]),
  (9, [(.iload_n 1, 1, 0, 0), (.iconst 2, 1, 0, 0), (.if_icmp .le 7, 3, 18, 0)]),
  (14, [(.iconst 1, 1, 0, 0), (.goto 4, 3, 19, 0)]),
  (18, [(.iconst 0, 1, 0, 0)]),
  (19, [(.iconst 0, 1, 0, 0), (.invokevirtual 131, 3, 92, 3), (.ifCond .eq 5, 3, 28, 0)]),
  (26, [(.iconst 0, 1, 0, 0), (.ireturn, 1, 0, 0)]),
  (28, [(.iload_n 1, 1, 0, 0), (.ifCond .ne 7, 3, 36, 0)]),
  (32, [(.iconst 1, 1, 0, 0), (.goto 26, 3, 59, 0)]),
  (36, [(.iload_n 1, 1, 0, 0), (.iconst 1, 1, 0, 0), (.if_icmp .ne 17, 3, 55, 0)]),
  (41, [(.aload_n 0, 1, 0, 0), (.iconst 0, 1, 0, 0), (.aload_n 0, 1, 0, 0), (.getfield 108, 3, 6, 5), (.ldc 142, 2, 100000, 0), (.invokevirtual 143, 3, 84, 3), (.goto 7, 3, 59, 0)]),
  (55, [(.aload_n 0, 1, 0, 0), (.invokevirtual 170, 3, 117, 0)]),
  (59, [(.ireturn, 1, 0, 0)])]
theorem e_Model_count_0 {F : List rw4 → Prop} {G : Prop} : lkp F G t_Model_count 0 = F [(.aload_n 0, 1, 0, 0), (.aload_n 0, 1, 0, 0), (.getfield 121, 3, 6, 4), (.iload_n 1, 1, 0, 0), (.ifCond .lt 8, 3, 14, 0)] := propext Iff.rfl
theorem e_Model_count_9 {F : List rw4 → Prop} {G : Prop} : lkp F G t_Model_count 9 = F [(.iload_n 1, 1, 0, 0), (.iconst 2, 1, 0, 0), (.if_icmp .le 7, 3, 18, 0)] := propext Iff.rfl
theorem e_Model_count_14 {F : List rw4 → Prop} {G : Prop} : lkp F G t_Model_count 14 = F [(.iconst 1, 1, 0, 0), (.goto 4, 3, 19, 0)] := propext Iff.rfl
theorem e_Model_count_18 {F : List rw4 → Prop} {G : Prop} : lkp F G t_Model_count 18 = F [(.iconst 0, 1, 0, 0)] := propext Iff.rfl
theorem e_Model_count_19 {F : List rw4 → Prop} {G : Prop} : lkp F G t_Model_count 19 = F [(.iconst 0, 1, 0, 0), (.invokevirtual 131, 3, 92, 3), (.ifCond .eq 5, 3, 28, 0)] := propext Iff.rfl
theorem e_Model_count_26 {F : List rw4 → Prop} {G : Prop} : lkp F G t_Model_count 26 = F [(.iconst 0, 1, 0, 0), (.ireturn, 1, 0, 0)] := propext Iff.rfl
theorem e_Model_count_28 {F : List rw4 → Prop} {G : Prop} : lkp F G t_Model_count 28 = F [(.iload_n 1, 1, 0, 0), (.ifCond .ne 7, 3, 36, 0)] := propext Iff.rfl
theorem e_Model_count_32 {F : List rw4 → Prop} {G : Prop} : lkp F G t_Model_count 32 = F [(.iconst 1, 1, 0, 0), (.goto 26, 3, 59, 0)] := propext Iff.rfl
theorem e_Model_count_36 {F : List rw4 → Prop} {G : Prop} : lkp F G t_Model_count 36 = F [(.iload_n 1, 1, 0, 0), (.iconst 1, 1, 0, 0), (.if_icmp .ne 17, 3, 55, 0)] := propext Iff.rfl
theorem e_Model_count_41 {F : List rw4 → Prop} {G : Prop} : lkp F G t_Model_count 41 = F [(.aload_n 0, 1, 0, 0), (.iconst 0, 1, 0, 0), (.aload_n 0, 1, 0, 0), (.getfield 108, 3, 6, 5), (.ldc 142, 2, 100000, 0), (.invokevirtual 143, 3, 84, 3), (.goto 7, 3, 59, 0)] := propext Iff.rfl
theorem e_Model_count_55 {F : List rw4 → Prop} {G : Prop} : lkp F G t_Model_count 55 = F [(.aload_n 0, 1, 0, 0), (.invokevirtual 170, 3, 117, 0)] := propext Iff.rfl
theorem e_Model_count_59 {F : List rw4 → Prop} {G : Prop} : lkp F G t_Model_count 59 = F [(.ireturn, 1, 0, 0)] := propext Iff.rfl
theorem o_Model_count : tOk k_Model_count t_Model_count = true := by decide +kernel
/-- DroppedPiecesModel.mate()I; heads of loops: [17, 79, 92] -/
def t_Model_mate : tb4 := [
  (0, [(.aload_n 0, 1, 0, 0), (.aload_n 0, 1, 0, 0), (.getfield 121, 3, 6, 4), (.iconst 0, 1, 0, 0), (.iconst 0, 1, 0, 0), (.invokevirtual 131, 3, 92, 3), (.ifCond .eq 5, 3, 15, 0)]),
  (13, [(.iconst 0, 1, 0, 0), (.ireturn, 1, 0, 0)]),
  (15, [(.iconst 0, 1, 0, 0), (.istore_n 1, 1, 0, 0)]),
  (17, [(.iload_n 1, 1, 0, 0), (.bipush 89, 2, 0, 0), (.if_icmp .ge 193, 3, 213, 0)]),
  (23, [(.iload_n 1, 1, 0, 0), (.bipush 81, 2, 0, 0), (.if_icmp .ge 19, 3, 45, 0)]),
  (29, [(.aload_n 0, 1, 0, 0), (.getfield 7, 3, 6, 1), (.iload_n 1, 1, 0, 0), (.iaload, 1, 0, 0), (.aload_n 0, 1, 0, 0), (.getfield 108, 3, 6, 5), (.invokestatic 54, 3, 66, 2), (.goto 34, 3, 76, 0)]),
  (45, [(.iload_n 1, 1, 0, 0), (.bipush 81, 2, 0, 0), (.if_icmp .le 27, 3, 75, 0)]),
  (51, [(.aload_n 0, 1, 0, 0), (.getfield 13, 3, 6, 2), (.bipush 8, 2, 0, 0), (.aload_n 0, 1, 0, 0), (.getfield 108, 3, 6, 5), (.imul, 1, 0, 0), (.iload_n 1, 1, 0, 0), (.iadd, 1, 0, 0), (.bipush 81, 2, 0, 0), (.isub, 1, 0, 0), (.iaload, 1, 0, 0), (.ifCond .le 7, 3, 75, 0)]),
  (71, [(.iconst 1, 1, 0, 0), (.goto 4, 3, 76, 0)]),
  (75, [(.iconst 0, 1, 0, 0)]),
  (76, [(.istore_n 2, 1, 0, 0), (.iconst 0, 1, 0, 0), (.istore_n 3, 1, 0, 0)]),
  (79, [(.iload_n 3, 1, 0, 0), (.bipush 81, 2, 0, 0), (.if_icmp .ge 125, 3, 207, 0)]),
  (85, [(.iload_n 2, 1, 0, 0), (.ifCond .eq 121, 3, 207, 0)]),
  (89, [(.iconst 0, 1, 0, 0), (.istore 4, 2, 0, 0)]),
  (92, [(.iload 4, 2, 0, 0), (.iconst 2, 1, 0, 0), (.if_icmp .ge 106, 3, 201, 0)]),
  (98, [(.aload_n 0, 1, 0, 0), (.iconst 0, 1, 0, 0), (.aload_n 0, 1, 0, 0), (.getfield 108, 3, 6, 5), (.iload_n 1, 1, 0, 0), (.iload_n 3, 1, 0, 0), (.iload 4, 2, 0, 0), (.invokevirtual 105, 3, 83, 5), (.ifCond .eq 84, 3, 195, 0)]),
  (114, [(.aload_n 0, 1, 0, 0), (.iconst 0, 1, 0, 0), (.aload_n 0, 1, 0, 0), (.getfield 108, 3, 6, 5), (.iload_n 1, 1, 0, 0), (.iload_n 3, 1, 0, 0), (.iload 4, 2, 0, 0), (.invokevirtual 84, 3, 78, 5), (.aload_n 0, 1, 0, 0), (.iconst 1, 1, 0, 0), (.aload_n 0, 1, 0, 0), (.getfield 108, 3, 6, 5), (.isub, 1, 0, 0), (.invokevirtual 88, 3, 73, 1), (.ifCond .eq 22, 3, 159, 0)]),
  (140, [(.aload_n 0, 1, 0, 0), (.iconst 1, 1, 0, 0), (.iconst 1, 1, 0, 0), (.aload_n 0, 1, 0, 0), (.getfield 108, 3, 6, 5), (.isub, 1, 0, 0), (.iconst 1, 1, 0, 0), (.invokevirtual 143, 3, 84, 3), (.ifCond .ne 7, 3, 159, 0)]),
  (155, [(.iconst 1, 1, 0, 0), (.goto 4, 3, 160, 0)]),
  (159, [(.iconst 0, 1, 0, 0)]),
  (160, [(.istore 5, 2, 0, 0), (.aload_n 0, 1, 0, 0), (.iconst 0, 1, 0, 0), (.aload_n 0, 1, 0, 0), (.getfield 108, 3, 6, 5), (.iload_n 1, 1, 0, 0), (.iload_n 3, 1, 0, 0), (.iload 4, 2, 0, 0), (.invokevirtual 92, 3, 79, 5), (.iload 5, 2, 0, 0), (.ifCond .eq 18, 3, 195, 0)]),
  (180, [(.iload_n 1, 1, 0, 0), (.sipush 128, 3, 0, 0), (.iload_n 3, 1, 0, 0), (.imul, 1, 0, 0), (.iadd, 1, 0, 0), (.sipush 16384, 3, 0, 0), (.iload 4, 2, 0, 0), (.imul, 1, 0, 0), (.iadd, 1, 0, 0), (.ireturn, 1, 0, 0)]),
  (195, [(.iinc 4 1, 3, 0, 0), (.goto (-106), 3, 92, 0)]),
  (201, [(.iinc 3 1, 3, 0, 0), (.goto (-125), 3, 79, 0)]),
  (207, [(.iinc 1 1, 3, 0, 0), (.goto (-193), 3, 17, 0)]),
  (213, [(.iconst (-1), 1, 0, 0), (.ireturn, 1, 0, 0)])]
theorem e_Model_mate_0 {F : List rw4 → Prop} {G : Prop} : lkp F G t_Model_mate 0 = F [(.aload_n 0, 1, 0, 0), (.aload_n 0, 1, 0, 0), (.getfield 121, 3, 6, 4), (.iconst 0, 1, 0, 0), (.iconst 0, 1, 0, 0), (.invokevirtual 131, 3, 92, 3), (.ifCond .eq 5, 3, 15, 0)] := propext Iff.rfl
theorem e_Model_mate_13 {F : List rw4 → Prop} {G : Prop} : lkp F G t_Model_mate 13 = F [(.iconst 0, 1, 0, 0), (.ireturn, 1, 0, 0)] := propext Iff.rfl
theorem e_Model_mate_15 {F : List rw4 → Prop} {G : Prop} : lkp F G t_Model_mate 15 = F [(.iconst 0, 1, 0, 0), (.istore_n 1, 1, 0, 0)] := propext Iff.rfl
theorem e_Model_mate_17 {F : List rw4 → Prop} {G : Prop} : lkp F G t_Model_mate 17 = F [(.iload_n 1, 1, 0, 0), (.bipush 89, 2, 0, 0), (.if_icmp .ge 193, 3, 213, 0)] := propext Iff.rfl
theorem e_Model_mate_23 {F : List rw4 → Prop} {G : Prop} : lkp F G t_Model_mate 23 = F [(.iload_n 1, 1, 0, 0), (.bipush 81, 2, 0, 0), (.if_icmp .ge 19, 3, 45, 0)] := propext Iff.rfl
theorem e_Model_mate_29 {F : List rw4 → Prop} {G : Prop} : lkp F G t_Model_mate 29 = F [(.aload_n 0, 1, 0, 0), (.getfield 7, 3, 6, 1), (.iload_n 1, 1, 0, 0), (.iaload, 1, 0, 0), (.aload_n 0, 1, 0, 0), (.getfield 108, 3, 6, 5), (.invokestatic 54, 3, 66, 2), (.goto 34, 3, 76, 0)] := propext Iff.rfl
theorem e_Model_mate_45 {F : List rw4 → Prop} {G : Prop} : lkp F G t_Model_mate 45 = F [(.iload_n 1, 1, 0, 0), (.bipush 81, 2, 0, 0), (.if_icmp .le 27, 3, 75, 0)] := propext Iff.rfl
theorem e_Model_mate_51 {F : List rw4 → Prop} {G : Prop} : lkp F G t_Model_mate 51 = F [(.aload_n 0, 1, 0, 0), (.getfield 13, 3, 6, 2), (.bipush 8, 2, 0, 0), (.aload_n 0, 1, 0, 0), (.getfield 108, 3, 6, 5), (.imul, 1, 0, 0), (.iload_n 1, 1, 0, 0), (.iadd, 1, 0, 0), (.bipush 81, 2, 0, 0), (.isub, 1, 0, 0), (.iaload, 1, 0, 0), (.ifCond .le 7, 3, 75, 0)] := propext Iff.rfl
theorem e_Model_mate_71 {F : List rw4 → Prop} {G : Prop} : lkp F G t_Model_mate 71 = F [(.iconst 1, 1, 0, 0), (.goto 4, 3, 76, 0)] := propext Iff.rfl
theorem e_Model_mate_75 {F : List rw4 → Prop} {G : Prop} : lkp F G t_Model_mate 75 = F [(.iconst 0, 1, 0, 0)] := propext Iff.rfl
theorem e_Model_mate_76 {F : List rw4 → Prop} {G : Prop} : lkp F G t_Model_mate 76 = F [(.istore_n 2, 1, 0, 0), (.iconst 0, 1, 0, 0), (.istore_n 3, 1, 0, 0)] := propext Iff.rfl
theorem e_Model_mate_79 {F : List rw4 → Prop} {G : Prop} : lkp F G t_Model_mate 79 = F [(.iload_n 3, 1, 0, 0), (.bipush 81, 2, 0, 0), (.if_icmp .ge 125, 3, 207, 0)] := propext Iff.rfl
theorem e_Model_mate_85 {F : List rw4 → Prop} {G : Prop} : lkp F G t_Model_mate 85 = F [(.iload_n 2, 1, 0, 0), (.ifCond .eq 121, 3, 207, 0)] := propext Iff.rfl
theorem e_Model_mate_89 {F : List rw4 → Prop} {G : Prop} : lkp F G t_Model_mate 89 = F [(.iconst 0, 1, 0, 0), (.istore 4, 2, 0, 0)] := propext Iff.rfl
theorem e_Model_mate_92 {F : List rw4 → Prop} {G : Prop} : lkp F G t_Model_mate 92 = F [(.iload 4, 2, 0, 0), (.iconst 2, 1, 0, 0), (.if_icmp .ge 106, 3, 201, 0)] := propext Iff.rfl
theorem e_Model_mate_98 {F : List rw4 → Prop} {G : Prop} : lkp F G t_Model_mate 98 = F [(.aload_n 0, 1, 0, 0), (.iconst 0, 1, 0, 0), (.aload_n 0, 1, 0, 0), (.getfield 108, 3, 6, 5), (.iload_n 1, 1, 0, 0), (.iload_n 3, 1, 0, 0), (.iload 4, 2, 0, 0), (.invokevirtual 105, 3, 83, 5), (.ifCond .eq 84, 3, 195, 0)] := propext Iff.rfl
theorem e_Model_mate_114 {F : List rw4 → Prop} {G : Prop} : lkp F G t_Model_mate 114 = F [(.aload_n 0, 1, 0, 0), (.iconst 0, 1, 0, 0), (.aload_n 0, 1, 0, 0), (.getfield 108, 3, 6, 5), (.iload_n 1, 1, 0, 0), (.iload_n 3, 1, 0, 0), (.iload 4, 2, 0, 0), (.invokevirtual 84, 3, 78, 5), (.aload_n 0, 1, 0, 0), (.iconst 1, 1, 0, 0), (.aload_n 0, 1, 0, 0), (.getfield 108, 3, 6, 5), (.isub, 1, 0, 0), (.invokevirtual 88, 3, 73, 1), (.ifCond .eq 22, 3, 159, 0)] := propext Iff.rfl
theorem e_Model_mate_140 {F : List rw4 → Prop} {G : Prop} : lkp F G t_Model_mate 140 = F [(.aload_n 0, 1, 0, 0), (.iconst 1, 1, 0, 0), (.iconst 1, 1, 0, 0), (.aload_n 0, 1, 0, 0), (.getfield 108, 3, 6, 5), (.isub, 1, 0, 0), (.iconst 1, 1, 0, 0), (.invokevirtual 143, 3, 84, 3), (.ifCond .ne 7, 3, 159, 0)] := propext Iff.rfl
theorem e_Model_mate_155 {F : List rw4 → Prop} {G : Prop} : lkp F G t_Model_mate 155 = F [(.iconst 1, 1, 0, 0), (.goto 4, 3, 160, 0)] := propext Iff.rfl
theorem e_Model_mate_159 {F : List rw4 → Prop} {G : Prop} : lkp F G t_Model_mate 159 = F [(.iconst 0, 1, 0, 0)] := propext Iff.rfl
theorem e_Model_mate_160 {F : List rw4 → Prop} {G : Prop} : lkp F G t_Model_mate 160 = F [(.istore 5, 2, 0, 0), (.aload_n 0, 1, 0, 0), (.iconst 0, 1, 0, 0), (.aload_n 0, 1, 0, 0), (.getfield 108, 3, 6, 5), (.iload_n 1, 1, 0, 0), (.iload_n 3, 1, 0, 0), (.iload 4, 2, 0, 0), (.invokevirtual 92, 3, 79, 5), (.iload 5, 2, 0, 0), (.ifCond .eq 18, 3, 195, 0)] := propext Iff.rfl
theorem e_Model_mate_180 {F : List rw4 → Prop} {G : Prop} : lkp F G t_Model_mate 180 = F [(.iload_n 1, 1, 0, 0), (.sipush 128, 3, 0, 0), (.iload_n 3, 1, 0, 0), (.imul, 1, 0, 0), (.iadd, 1, 0, 0), (.sipush 16384, 3, 0, 0), (.iload 4, 2, 0, 0), (.imul, 1, 0, 0), (.iadd, 1, 0, 0), (.ireturn, 1, 0, 0)] := propext Iff.rfl
theorem e_Model_mate_195 {F : List rw4 → Prop} {G : Prop} : lkp F G t_Model_mate 195 = F [(.iinc 4 1, 3, 0, 0), (.goto (-106), 3, 92, 0)] := propext Iff.rfl
theorem e_Model_mate_201 {F : List rw4 → Prop} {G : Prop} : lkp F G t_Model_mate 201 = F [(.iinc 3 1, 3, 0, 0), (.goto (-125), 3, 79, 0)] := propext Iff.rfl
theorem e_Model_mate_207 {F : List rw4 → Prop} {G : Prop} : lkp F G t_Model_mate 207 = F [(.iinc 1 1, 3, 0, 0), (.goto (-193), 3, 17, 0)] := propext Iff.rfl
theorem e_Model_mate_213 {F : List rw4 → Prop} {G : Prop} : lkp F G t_Model_mate 213 = F [(.iconst (-1), 1, 0, 0), (.ireturn, 1, 0, 0)] := propext Iff.rfl
theorem o_Model_mate : tOk k_Model_mate t_Model_mate = true := by decide +kernel
