/-! the code of the class, first half (by program: wip/whole/gen/code.py) -/
/-- java/util/Arrays.fill([II)V; heads of loops: [5] -/
def t_Arrays_fill : tb4 := [
  (0, [(.iconst 0, 1, 0, 0), (.istore_n 2, 1, 0, 0), (.aload_n 0, 1, 0, 0), (.arraylength, 1, 0, 0), (.istore_n 3, 1, 0, 0)]),
  (5, [(.iload_n 2, 1, 0, 0), (.iload_n 3, 1, 0, 0), (.if_icmp .ge 13, 3, 20, 0)]),
  (10, [(.aload_n 0, 1, 0, 0), (.iload_n 2, 1, 0, 0), (.iload_n 1, 1, 0, 0), (.iastore, 1, 0, 0), (.iinc 2 1, 3, 0, 0), (.goto (-12), 3, 5, 0)]),
  (20, [(.return_, 1, 0, 0)])]
theorem e_Arrays_fill_0 {F : List rw4 → Prop} {G : Prop} : lkp F G t_Arrays_fill 0 = F [(.iconst 0, 1, 0, 0), (.istore_n 2, 1, 0, 0), (.aload_n 0, 1, 0, 0), (.arraylength, 1, 0, 0), (.istore_n 3, 1, 0, 0)] := propext Iff.rfl
theorem e_Arrays_fill_5 {F : List rw4 → Prop} {G : Prop} : lkp F G t_Arrays_fill 5 = F [(.iload_n 2, 1, 0, 0), (.iload_n 3, 1, 0, 0), (.if_icmp .ge 13, 3, 20, 0)] := propext Iff.rfl
theorem e_Arrays_fill_10 {F : List rw4 → Prop} {G : Prop} : lkp F G t_Arrays_fill 10 = F [(.aload_n 0, 1, 0, 0), (.iload_n 2, 1, 0, 0), (.iload_n 1, 1, 0, 0), (.iastore, 1, 0, 0), (.iinc 2 1, 3, 0, 0), (.goto (-12), 3, 5, 0)] := propext Iff.rfl
theorem e_Arrays_fill_20 {F : List rw4 → Prop} {G : Prop} : lkp F G t_Arrays_fill 20 = F [(.return_, 1, 0, 0)] := propext Iff.rfl
theorem o_Arrays_fill : tOk k_Arrays_fill t_Arrays_fill = true := by decide +kernel
/-- DroppedPieces$Board.empty()V; heads of loops: [] -/
def t_Board_empty : tb4 := [
  (0, [(.aload_n 0, 1, 0, 0), (.getfield 9, 3, 0, 0), (.iconst 0, 1, 0, 0), (.invokestatic 21, 3, 0, 2), (.aload_n 0, 1, 0, 0), (.getfield 15, 3, 0, 1), (.iconst 0, 1, 0, 0), (.invokestatic 21, 3, 0, 2), (.return_, 1, 0, 0)])]
theorem e_Board_empty_0 {F : List rw4 → Prop} {G : Prop} : lkp F G t_Board_empty 0 = F [(.aload_n 0, 1, 0, 0), (.getfield 9, 3, 0, 0), (.iconst 0, 1, 0, 0), (.invokestatic 21, 3, 0, 2), (.aload_n 0, 1, 0, 0), (.getfield 15, 3, 0, 1), (.iconst 0, 1, 0, 0), (.invokestatic 21, 3, 0, 2), (.return_, 1, 0, 0)] := propext Iff.rfl
theorem o_Board_empty : tOk k_Board_empty t_Board_empty = true := by decide +kernel
/-- DroppedPieces$Board.setBoth(II)V; heads of loops: [] -/
def t_Board_setBoth : tb4 := [
  (0, [(.aload_n 0, 1, 0, 0), (.getfield 9, 3, 0, 0), (.iload_n 1, 1, 0, 0), (.iload_n 2, 1, 0, 0), (.iastore, 1, 0, 0), (.aload_n 0, 1, 0, 0), (.getfield 9, 3, 0, 0), (.bipush 80, 2, 0, 0), (.iload_n 1, 1, 0, 0), (.isub, 1, 0, 0), (.iload_n 2, 1, 0, 0), (.ineg, 1, 0, 0), (.iastore, 1, 0, 0), (.return_, 1, 0, 0)])]
theorem e_Board_setBoth_0 {F : List rw4 → Prop} {G : Prop} : lkp F G t_Board_setBoth 0 = F [(.aload_n 0, 1, 0, 0), (.getfield 9, 3, 0, 0), (.iload_n 1, 1, 0, 0), (.iload_n 2, 1, 0, 0), (.iastore, 1, 0, 0), (.aload_n 0, 1, 0, 0), (.getfield 9, 3, 0, 0), (.bipush 80, 2, 0, 0), (.iload_n 1, 1, 0, 0), (.isub, 1, 0, 0), (.iload_n 2, 1, 0, 0), (.ineg, 1, 0, 0), (.iastore, 1, 0, 0), (.return_, 1, 0, 0)] := propext Iff.rfl
theorem o_Board_setBoth : tOk k_Board_setBoth t_Board_setBoth = true := by decide +kernel
/-- DroppedPieces$Pieces.kindOf(I)I; heads of loops: [] -/
def t_Pieces_kindOf : tb4 := [
  (0, [(.iload_n 0, 1, 0, 0), (.ifCond .ge 8, 3, 9, 0)]),
  (4, [(.iload_n 0, 1, 0, 0), (.ineg, 1, 0, 0), (.goto 4, 3, 10, 0)]),
  (9, [(.iload_n 0, 1, 0, 0)]),
  (10, [(.ireturn, 1, 0, 0)])]
theorem e_Pieces_kindOf_0 {F : List rw4 → Prop} {G : Prop} : lkp F G t_Pieces_kindOf 0 = F [(.iload_n 0, 1, 0, 0), (.ifCond .ge 8, 3, 9, 0)] := propext Iff.rfl
theorem e_Pieces_kindOf_4 {F : List rw4 → Prop} {G : Prop} : lkp F G t_Pieces_kindOf 4 = F [(.iload_n 0, 1, 0, 0), (.ineg, 1, 0, 0), (.goto 4, 3, 10, 0)] := propext Iff.rfl
theorem e_Pieces_kindOf_9 {F : List rw4 → Prop} {G : Prop} : lkp F G t_Pieces_kindOf 9 = F [(.iload_n 0, 1, 0, 0)] := propext Iff.rfl
theorem e_Pieces_kindOf_10 {F : List rw4 → Prop} {G : Prop} : lkp F G t_Pieces_kindOf 10 = F [(.ireturn, 1, 0, 0)] := propext Iff.rfl
theorem o_Pieces_kindOf : tOk k_Pieces_kindOf t_Pieces_kindOf = true := by decide +kernel
/-- DroppedPieces$Board.findKings()V; heads of loops: [2] -/
def t_Board_findKings : tb4 := [
  (0, [(.iconst 0, 1, 0, 0), (.istore_n 1, 1, 0, 0)]),
  (2, [(.iload_n 1, 1, 0, 0), (.aload_n 0, 1, 0, 0), (.getfield 9, 3, 0, 0), (.arraylength, 1, 0, 0), (.if_icmp .ge 43, 3, 51, 0)]),
  (11, [(.aload_n 0, 1, 0, 0), (.getfield 9, 3, 0, 0), (.iload_n 1, 1, 0, 0), (.iaload, 1, 0, 0), (.invokestatic 61, 3, 3, 1), (.bipush 8, 2, 0, 0), (.if_icmp .ne 23, 3, 45, 0)]),
  (25, [(.aload_n 0, 1, 0, 0), (.getfield 18, 3, 0, 2), (.aload_n 0, 1, 0, 0), (.getfield 9, 3, 0, 0), (.iload_n 1, 1, 0, 0), (.iaload, 1, 0, 0), (.ifCond .le 7, 3, 42, 0)]),
  (38, [(.iconst 0, 1, 0, 0), (.goto 4, 3, 43, 0)]),
  (42, [(.iconst 1, 1, 0, 0)]),
  (43, [(.iload_n 1, 1, 0, 0), (.iastore, 1, 0, 0)]),
  (45, [(.iinc 1 1, 3, 0, 0), (.goto (-46), 3, 2, 0)]),
  (51, [(.return_, 1, 0, 0)])]
theorem e_Board_findKings_0 {F : List rw4 → Prop} {G : Prop} : lkp F G t_Board_findKings 0 = F [(.iconst 0, 1, 0, 0), (.istore_n 1, 1, 0, 0)] := propext Iff.rfl
theorem e_Board_findKings_2 {F : List rw4 → Prop} {G : Prop} : lkp F G t_Board_findKings 2 = F [(.iload_n 1, 1, 0, 0), (.aload_n 0, 1, 0, 0), (.getfield 9, 3, 0, 0), (.arraylength, 1, 0, 0), (.if_icmp .ge 43, 3, 51, 0)] := propext Iff.rfl
theorem e_Board_findKings_11 {F : List rw4 → Prop} {G : Prop} : lkp F G t_Board_findKings 11 = F [(.aload_n 0, 1, 0, 0), (.getfield 9, 3, 0, 0), (.iload_n 1, 1, 0, 0), (.iaload, 1, 0, 0), (.invokestatic 61, 3, 3, 1), (.bipush 8, 2, 0, 0), (.if_icmp .ne 23, 3, 45, 0)] := propext Iff.rfl
theorem e_Board_findKings_25 {F : List rw4 → Prop} {G : Prop} : lkp F G t_Board_findKings 25 = F [(.aload_n 0, 1, 0, 0), (.getfield 18, 3, 0, 2), (.aload_n 0, 1, 0, 0), (.getfield 9, 3, 0, 0), (.iload_n 1, 1, 0, 0), (.iaload, 1, 0, 0), (.ifCond .le 7, 3, 42, 0)] := propext Iff.rfl
theorem e_Board_findKings_38 {F : List rw4 → Prop} {G : Prop} : lkp F G t_Board_findKings 38 = F [(.iconst 0, 1, 0, 0), (.goto 4, 3, 43, 0)] := propext Iff.rfl
theorem e_Board_findKings_42 {F : List rw4 → Prop} {G : Prop} : lkp F G t_Board_findKings 42 = F [(.iconst 1, 1, 0, 0)] := propext Iff.rfl
theorem e_Board_findKings_43 {F : List rw4 → Prop} {G : Prop} : lkp F G t_Board_findKings 43 = F [(.iload_n 1, 1, 0, 0), (.iastore, 1, 0, 0)] := propext Iff.rfl
theorem e_Board_findKings_45 {F : List rw4 → Prop} {G : Prop} : lkp F G t_Board_findKings 45 = F [(.iinc 1 1, 3, 0, 0), (.goto (-46), 3, 2, 0)] := propext Iff.rfl
theorem e_Board_findKings_51 {F : List rw4 → Prop} {G : Prop} : lkp F G t_Board_findKings 51 = F [(.return_, 1, 0, 0)] := propext Iff.rfl
theorem o_Board_findKings : tOk k_Board_findKings t_Board_findKings = true := by decide +kernel
/-- DroppedPieces$Board.setBeginning()V; heads of loops: [6] -/
def t_Board_setBeginning : tb4 := [
  (0, [(.aload_n 0, 1, 0, 0), (.invokevirtual 27, 3, 1, 0), (.iconst 0, 1, 0, 0), (.istore_n 1, 1, 0, 0)]),
  (6, [(.iload_n 1, 1, 0, 0), (.bipush 9, 2, 0, 0), (.if_icmp .ge 31, 3, 40, 0)]),
  (12, [(.aload_n 0, 1, 0, 0), (.bipush 72, 2, 0, 0), (.iload_n 1, 1, 0, 0), (.iadd, 1, 0, 0), (.getstatic 30, 3, 104, 0), (.iload_n 1, 1, 0, 0), (.iaload, 1, 0, 0), (.invokevirtual 33, 3, 2, 2), (.aload_n 0, 1, 0, 0), (.bipush 54, 2, 0, 0), (.iload_n 1, 1, 0, 0), (.iadd, 1, 0, 0), (.iconst 1, 1, 0, 0), (.invokevirtual 33, 3, 2, 2), (.iinc 1 1, 3, 0, 0), (.goto (-31), 3, 6, 0)]),
  (40, [(.aload_n 0, 1, 0, 0), (.bipush 64, 2, 0, 0), (.bipush 6, 2, 0, 0), (.invokevirtual 33, 3, 2, 2), (.aload_n 0, 1, 0, 0), (.bipush 70, 2, 0, 0), (.bipush 7, 2, 0, 0), (.invokevirtual 33, 3, 2, 2), (.aload_n 0, 1, 0, 0), (.invokevirtual 37, 3, 4, 0), (.return_, 1, 0, 0)])]
theorem e_Board_setBeginning_0 {F : List rw4 → Prop} {G : Prop} : lkp F G t_Board_setBeginning 0 = F [(.aload_n 0, 1, 0, 0), (.invokevirtual 27, 3, 1, 0), (.iconst 0, 1, 0, 0), (.istore_n 1, 1, 0, 0)] := propext Iff.rfl
theorem e_Board_setBeginning_6 {F : List rw4 → Prop} {G : Prop} : lkp F G t_Board_setBeginning 6 = F [(.iload_n 1, 1, 0, 0), (.bipush 9, 2, 0, 0), (.if_icmp .ge 31, 3, 40, 0)] := propext Iff.rfl
theorem e_Board_setBeginning_12 {F : List rw4 → Prop} {G : Prop} : lkp F G t_Board_setBeginning 12 = F [(.aload_n 0, 1, 0, 0), (.bipush 72, 2, 0, 0), (.iload_n 1, 1, 0, 0), (.iadd, 1, 0, 0), (.getstatic 30, 3, 104, 0), (.iload_n 1, 1, 0, 0), (.iaload, 1, 0, 0), (.invokevirtual 33, 3, 2, 2), (.aload_n 0, 1, 0, 0), (.bipush 54, 2, 0, 0), (.iload_n 1, 1, 0, 0), (.iadd, 1, 0, 0), (.iconst 1, 1, 0, 0), (.invokevirtual 33, 3, 2, 2), (.iinc 1 1, 3, 0, 0), (.goto (-31), 3, 6, 0)] := propext Iff.rfl
theorem e_Board_setBeginning_40 {F : List rw4 → Prop} {G : Prop} : lkp F G t_Board_setBeginning 40 = F [(.aload_n 0, 1, 0, 0), (.bipush 64, 2, 0, 0), (.bipush 6, 2, 0, 0), (.invokevirtual 33, 3, 2, 2), (.aload_n 0, 1, 0, 0), (.bipush 70, 2, 0, 0), (.bipush 7, 2, 0, 0), (.invokevirtual 33, 3, 2, 2), (.aload_n 0, 1, 0, 0), (.invokevirtual 37, 3, 4, 0), (.return_, 1, 0, 0)] := propext Iff.rfl
theorem o_Board_setBeginning : tOk k_Board_setBeginning t_Board_setBeginning = true := by decide +kernel
/-- DroppedPieces.setBeginning()V; heads of loops: [] -/
def t_DP_setBeginning : tb4 := [
  (0, [(.aload_n 0, 1, 0, 0), (.getfield 10, 3, 5, 0), (.invokevirtual 176, 3, 5, 0), (.aload_n 0, 1, 0, 0), (.getfield 28, 3, 5, 2), (.iconst 0, 1, 0, 0), (.putfield 50, 3, 2, 5), (.aload_n 0, 1, 0, 0), (.iconst 0, 1, 0, 0), (.putfield 54, 3, 5, 5), (.return_, 1, 0, 0)])]
theorem e_DP_setBeginning_0 {F : List rw4 → Prop} {G : Prop} : lkp F G t_DP_setBeginning 0 = F [(.aload_n 0, 1, 0, 0), (.getfield 10, 3, 5, 0), (.invokevirtual 176, 3, 5, 0), (.aload_n 0, 1, 0, 0), (.getfield 28, 3, 5, 2), (.iconst 0, 1, 0, 0), (.putfield 50, 3, 2, 5), (.aload_n 0, 1, 0, 0), (.iconst 0, 1, 0, 0), (.putfield 54, 3, 5, 5), (.return_, 1, 0, 0)] := propext Iff.rfl
theorem o_DP_setBeginning : tOk k_DP_setBeginning t_DP_setBeginning = true := by decide +kernel
/-- DroppedPieces.begin()V; heads of loops: [] -/
def t_DP_begin : tb4 := [
  (0, [(.aload_n 0, 1, 0, 0), (.invokevirtual 44, 3, 6, 0), (.return_, 1, 0, 0)])]
theorem e_DP_begin_0 {F : List rw4 → Prop} {G : Prop} : lkp F G t_DP_begin 0 = F [(.aload_n 0, 1, 0, 0), (.invokevirtual 44, 3, 6, 0), (.return_, 1, 0, 0)] := propext Iff.rfl
theorem o_DP_begin : tOk k_DP_begin t_DP_begin = true := by decide +kernel
/-- DroppedPieces.clear()V; heads of loops: [] -/
def t_DP_clear : tb4 := [
  (0, [(.aload_n 0, 1, 0, 0), (.getfield 10, 3, 5, 0), (.invokevirtual 47, 3, 1, 0), (.aload_n 0, 1, 0, 0), (.getfield 28, 3, 5, 2), (.iconst 0, 1, 0, 0), (.putfield 50, 3, 2, 5), (.aload_n 0, 1, 0, 0), (.iconst (-1), 1, 0, 0), (.putfield 54, 3, 5, 5), (.return_, 1, 0, 0)])]
theorem e_DP_clear_0 {F : List rw4 → Prop} {G : Prop} : lkp F G t_DP_clear 0 = F [(.aload_n 0, 1, 0, 0), (.getfield 10, 3, 5, 0), (.invokevirtual 47, 3, 1, 0), (.aload_n 0, 1, 0, 0), (.getfield 28, 3, 5, 2), (.iconst 0, 1, 0, 0), (.putfield 50, 3, 2, 5), (.aload_n 0, 1, 0, 0), (.iconst (-1), 1, 0, 0), (.putfield 54, 3, 5, 5), (.return_, 1, 0, 0)] := propext Iff.rfl
theorem o_DP_clear : tOk k_DP_clear t_DP_clear = true := by decide +kernel
/-- DroppedPieces$Pieces.isPlayer(I)Z; heads of loops: [] -/
def t_Pieces_isPlayer : tb4 := [
  (0, [(.iload_n 0, 1, 0, 0), (.ifCond .eq 8, 3, 9, 0)]),
  (4, [(.iload_n 0, 1, 0, 0), (.iconst 1, 1, 0, 0), (.if_icmp .ne 7, 3, 13, 0)]),
  (9, [(.iconst 1, 1, 0, 0), (.goto 4, 3, 14, 0)]),
  (13, [(.iconst 0, 1, 0, 0)]),
  (14, [(.ireturn, 1, 1, 0)])]
theorem e_Pieces_isPlayer_0 {F : List rw4 → Prop} {G : Prop} : lkp F G t_Pieces_isPlayer 0 = F [(.iload_n 0, 1, 0, 0), (.ifCond .eq 8, 3, 9, 0)] := propext Iff.rfl
theorem e_Pieces_isPlayer_4 {F : List rw4 → Prop} {G : Prop} : lkp F G t_Pieces_isPlayer 4 = F [(.iload_n 0, 1, 0, 0), (.iconst 1, 1, 0, 0), (.if_icmp .ne 7, 3, 13, 0)] := propext Iff.rfl
theorem e_Pieces_isPlayer_9 {F : List rw4 → Prop} {G : Prop} : lkp F G t_Pieces_isPlayer 9 = F [(.iconst 1, 1, 0, 0), (.goto 4, 3, 14, 0)] := propext Iff.rfl
theorem e_Pieces_isPlayer_13 {F : List rw4 → Prop} {G : Prop} : lkp F G t_Pieces_isPlayer 13 = F [(.iconst 0, 1, 0, 0)] := propext Iff.rfl
theorem e_Pieces_isPlayer_14 {F : List rw4 → Prop} {G : Prop} : lkp F G t_Pieces_isPlayer 14 = F [(.ireturn, 1, 1, 0)] := propext Iff.rfl
theorem o_Pieces_isPlayer : tOk k_Pieces_isPlayer t_Pieces_isPlayer = true := by decide +kernel
/-- DroppedPieces$Pieces.isHandKind(I)Z; heads of loops: [] -/
def t_Pieces_isHandKind : tb4 := [
  (0, [(.iload_n 0, 1, 0, 0), (.iconst 1, 1, 0, 0), (.if_icmp .lt 13, 3, 15, 0)]),
  (5, [(.iload_n 0, 1, 0, 0), (.bipush 7, 2, 0, 0), (.if_icmp .gt 7, 3, 15, 0)]),
  (11, [(.iconst 1, 1, 0, 0), (.goto 4, 3, 16, 0)]),
  (15, [(.iconst 0, 1, 0, 0)]),
  (16, [(.ireturn, 1, 1, 0)])]
theorem e_Pieces_isHandKind_0 {F : List rw4 → Prop} {G : Prop} : lkp F G t_Pieces_isHandKind 0 = F [(.iload_n 0, 1, 0, 0), (.iconst 1, 1, 0, 0), (.if_icmp .lt 13, 3, 15, 0)] := propext Iff.rfl
theorem e_Pieces_isHandKind_5 {F : List rw4 → Prop} {G : Prop} : lkp F G t_Pieces_isHandKind 5 = F [(.iload_n 0, 1, 0, 0), (.bipush 7, 2, 0, 0), (.if_icmp .gt 7, 3, 15, 0)] := propext Iff.rfl
theorem e_Pieces_isHandKind_11 {F : List rw4 → Prop} {G : Prop} : lkp F G t_Pieces_isHandKind 11 = F [(.iconst 1, 1, 0, 0), (.goto 4, 3, 16, 0)] := propext Iff.rfl
theorem e_Pieces_isHandKind_15 {F : List rw4 → Prop} {G : Prop} : lkp F G t_Pieces_isHandKind 15 = F [(.iconst 0, 1, 0, 0)] := propext Iff.rfl
theorem e_Pieces_isHandKind_16 {F : List rw4 → Prop} {G : Prop} : lkp F G t_Pieces_isHandKind 16 = F [(.ireturn, 1, 1, 0)] := propext Iff.rfl
theorem o_Pieces_isHandKind : tOk k_Pieces_isHandKind t_Pieces_isHandKind = true := by decide +kernel
/-- DroppedPieces$Board.handIndex(II)I; heads of loops: [] -/
def t_Board_handIndex : tb4 := [
  (0, [(.bipush 8, 2, 0, 0), (.iload_n 0, 1, 0, 0), (.imul, 1, 0, 0), (.iload_n 1, 1, 0, 0), (.iadd, 1, 0, 0), (.ireturn, 1, 0, 0)])]
theorem e_Board_handIndex_0 {F : List rw4 → Prop} {G : Prop} : lkp F G t_Board_handIndex 0 = F [(.bipush 8, 2, 0, 0), (.iload_n 0, 1, 0, 0), (.imul, 1, 0, 0), (.iload_n 1, 1, 0, 0), (.iadd, 1, 0, 0), (.ireturn, 1, 0, 0)] := propext Iff.rfl
theorem o_Board_handIndex : tOk k_Board_handIndex t_Board_handIndex = true := by decide +kernel
/-- DroppedPieces.hand(II)I; heads of loops: [] -/
def t_DP_hand : tb4 := [
  (0, [(.iload_n 1, 1, 0, 0), (.invokestatic 80, 3, 9, 1), (.ifCond .eq 10, 3, 14, 0)]),
  (7, [(.iload_n 2, 1, 0, 0), (.invokestatic 83, 3, 10, 1), (.ifCond .ne 5, 3, 16, 0)]),
  (14, [(.iconst 0, 1, 0, 0), (.ireturn, 1, 0, 0)]),
  (16, [(.aload_n 0, 1, 0, 0), (.getfield 10, 3, 5, 0), (.getfield 88, 3, 0, 1), (.iload_n 1, 1, 0, 0), (.iload_n 2, 1, 0, 0), (.invokestatic 91, 3, 11, 2), (.iaload, 1, 0, 0), (.ireturn, 1, 0, 0)])]
theorem e_DP_hand_0 {F : List rw4 → Prop} {G : Prop} : lkp F G t_DP_hand 0 = F [(.iload_n 1, 1, 0, 0), (.invokestatic 80, 3, 9, 1), (.ifCond .eq 10, 3, 14, 0)] := propext Iff.rfl
theorem e_DP_hand_7 {F : List rw4 → Prop} {G : Prop} : lkp F G t_DP_hand 7 = F [(.iload_n 2, 1, 0, 0), (.invokestatic 83, 3, 10, 1), (.ifCond .ne 5, 3, 16, 0)] := propext Iff.rfl
theorem e_DP_hand_14 {F : List rw4 → Prop} {G : Prop} : lkp F G t_DP_hand 14 = F [(.iconst 0, 1, 0, 0), (.ireturn, 1, 0, 0)] := propext Iff.rfl
theorem e_DP_hand_16 {F : List rw4 → Prop} {G : Prop} : lkp F G t_DP_hand 16 = F [(.aload_n 0, 1, 0, 0), (.getfield 10, 3, 5, 0), (.getfield 88, 3, 0, 1), (.iload_n 1, 1, 0, 0), (.iload_n 2, 1, 0, 0), (.invokestatic 91, 3, 11, 2), (.iaload, 1, 0, 0), (.ireturn, 1, 0, 0)] := propext Iff.rfl
theorem o_DP_hand : tOk k_DP_hand t_DP_hand = true := by decide +kernel
/-- DroppedPieces.player()I; heads of loops: [] -/
def t_DP_player : tb4 := [
  (0, [(.aload_n 0, 1, 0, 0), (.getfield 54, 3, 5, 5), (.ireturn, 1, 0, 0)])]
theorem e_DP_player_0 {F : List rw4 → Prop} {G : Prop} : lkp F G t_DP_player 0 = F [(.aload_n 0, 1, 0, 0), (.getfield 54, 3, 5, 5), (.ireturn, 1, 0, 0)] := propext Iff.rfl
theorem o_DP_player : tOk k_DP_player t_DP_player = true := by decide +kernel
/-- DroppedPieces$Pieces.isSquare(I)Z; heads of loops: [] -/
def t_Pieces_isSquare : tb4 := [
  (0, [(.iload_n 0, 1, 0, 0), (.ifCond .lt 13, 3, 14, 0)]),
  (4, [(.iload_n 0, 1, 0, 0), (.bipush 81, 2, 0, 0), (.if_icmp .ge 7, 3, 14, 0)]),
  (10, [(.iconst 1, 1, 0, 0), (.goto 4, 3, 15, 0)]),
  (14, [(.iconst 0, 1, 0, 0)]),
  (15, [(.ireturn, 1, 1, 0)])]
theorem e_Pieces_isSquare_0 {F : List rw4 → Prop} {G : Prop} : lkp F G t_Pieces_isSquare 0 = F [(.iload_n 0, 1, 0, 0), (.ifCond .lt 13, 3, 14, 0)] := propext Iff.rfl
theorem e_Pieces_isSquare_4 {F : List rw4 → Prop} {G : Prop} : lkp F G t_Pieces_isSquare 4 = F [(.iload_n 0, 1, 0, 0), (.bipush 81, 2, 0, 0), (.if_icmp .ge 7, 3, 14, 0)] := propext Iff.rfl
theorem e_Pieces_isSquare_10 {F : List rw4 → Prop} {G : Prop} : lkp F G t_Pieces_isSquare 10 = F [(.iconst 1, 1, 0, 0), (.goto 4, 3, 15, 0)] := propext Iff.rfl
theorem e_Pieces_isSquare_14 {F : List rw4 → Prop} {G : Prop} : lkp F G t_Pieces_isSquare 14 = F [(.iconst 0, 1, 0, 0)] := propext Iff.rfl
theorem e_Pieces_isSquare_15 {F : List rw4 → Prop} {G : Prop} : lkp F G t_Pieces_isSquare 15 = F [(.ireturn, 1, 1, 0)] := propext Iff.rfl
theorem o_Pieces_isSquare : tOk k_Pieces_isSquare t_Pieces_isSquare = true := by decide +kernel
/-- DroppedPieces$Pieces.isOnBoard(II)Z; heads of loops: [] -/
def t_Pieces_isOnBoard : tb4 := [
  (0, [(.iload_n 0, 1, 0, 0), (.ifCond .lt 23, 3, 24, 0)]),
  (4, [(.iload_n 0, 1, 0, 0), (.bipush 9, 2, 0, 0), (.if_icmp .ge 17, 3, 24, 0)]),
  (10, [(.iload_n 1, 1, 0, 0), (.ifCond .lt 13, 3, 24, 0)]),
  (14, [(.iload_n 1, 1, 0, 0), (.bipush 9, 2, 0, 0), (.if_icmp .ge 7, 3, 24, 0)]),
  (20, [(.iconst 1, 1, 0, 0), (.goto 4, 3, 25, 0)]),
  (24, [(.iconst 0, 1, 0, 0)]),
  (25, [(.ireturn, 1, 1, 0)])]
theorem e_Pieces_isOnBoard_0 {F : List rw4 → Prop} {G : Prop} : lkp F G t_Pieces_isOnBoard 0 = F [(.iload_n 0, 1, 0, 0), (.ifCond .lt 23, 3, 24, 0)] := propext Iff.rfl
theorem e_Pieces_isOnBoard_4 {F : List rw4 → Prop} {G : Prop} : lkp F G t_Pieces_isOnBoard 4 = F [(.iload_n 0, 1, 0, 0), (.bipush 9, 2, 0, 0), (.if_icmp .ge 17, 3, 24, 0)] := propext Iff.rfl
theorem e_Pieces_isOnBoard_10 {F : List rw4 → Prop} {G : Prop} : lkp F G t_Pieces_isOnBoard 10 = F [(.iload_n 1, 1, 0, 0), (.ifCond .lt 13, 3, 24, 0)] := propext Iff.rfl
theorem e_Pieces_isOnBoard_14 {F : List rw4 → Prop} {G : Prop} : lkp F G t_Pieces_isOnBoard 14 = F [(.iload_n 1, 1, 0, 0), (.bipush 9, 2, 0, 0), (.if_icmp .ge 7, 3, 24, 0)] := propext Iff.rfl
theorem e_Pieces_isOnBoard_20 {F : List rw4 → Prop} {G : Prop} : lkp F G t_Pieces_isOnBoard 20 = F [(.iconst 1, 1, 0, 0), (.goto 4, 3, 25, 0)] := propext Iff.rfl
theorem e_Pieces_isOnBoard_24 {F : List rw4 → Prop} {G : Prop} : lkp F G t_Pieces_isOnBoard 24 = F [(.iconst 0, 1, 0, 0)] := propext Iff.rfl
theorem e_Pieces_isOnBoard_25 {F : List rw4 → Prop} {G : Prop} : lkp F G t_Pieces_isOnBoard 25 = F [(.ireturn, 1, 1, 0)] := propext Iff.rfl
theorem o_Pieces_isOnBoard : tOk k_Pieces_isOnBoard t_Pieces_isOnBoard = true := by decide +kernel
/-- DroppedPieces$Pieces.isOf(II)Z; heads of loops: [] -/
def t_Pieces_isOf : tb4 := [
  (0, [(.iload_n 0, 1, 0, 0), (.ifCond .ne 15, 3, 16, 0)]),
  (4, [(.iload_n 1, 1, 0, 0), (.ifCond .le 7, 3, 12, 0)]),
  (8, [(.iconst 1, 1, 0, 0), (.goto 16, 3, 25, 0)]),
  (12, [(.iconst 0, 1, 0, 0), (.goto 12, 3, 25, 0)]),
  (16, [(.iload_n 1, 1, 0, 0), (.ifCond .ge 7, 3, 24, 0)]),
  (20, [(.iconst 1, 1, 0, 0), (.goto 4, 3, 25, 0)]),
  (24, [(.iconst 0, 1, 0, 0)]),
  (25, [(.ireturn, 1, 1, 0)])]
theorem e_Pieces_isOf_0 {F : List rw4 → Prop} {G : Prop} : lkp F G t_Pieces_isOf 0 = F [(.iload_n 0, 1, 0, 0), (.ifCond .ne 15, 3, 16, 0)] := propext Iff.rfl
theorem e_Pieces_isOf_4 {F : List rw4 → Prop} {G : Prop} : lkp F G t_Pieces_isOf 4 = F [(.iload_n 1, 1, 0, 0), (.ifCond .le 7, 3, 12, 0)] := propext Iff.rfl
theorem e_Pieces_isOf_8 {F : List rw4 → Prop} {G : Prop} : lkp F G t_Pieces_isOf 8 = F [(.iconst 1, 1, 0, 0), (.goto 16, 3, 25, 0)] := propext Iff.rfl
theorem e_Pieces_isOf_12 {F : List rw4 → Prop} {G : Prop} : lkp F G t_Pieces_isOf 12 = F [(.iconst 0, 1, 0, 0), (.goto 12, 3, 25, 0)] := propext Iff.rfl
theorem e_Pieces_isOf_16 {F : List rw4 → Prop} {G : Prop} : lkp F G t_Pieces_isOf 16 = F [(.iload_n 1, 1, 0, 0), (.ifCond .ge 7, 3, 24, 0)] := propext Iff.rfl
theorem e_Pieces_isOf_20 {F : List rw4 → Prop} {G : Prop} : lkp F G t_Pieces_isOf 20 = F [(.iconst 1, 1, 0, 0), (.goto 4, 3, 25, 0)] := propext Iff.rfl
theorem e_Pieces_isOf_24 {F : List rw4 → Prop} {G : Prop} : lkp F G t_Pieces_isOf 24 = F [(.iconst 0, 1, 0, 0)] := propext Iff.rfl
theorem e_Pieces_isOf_25 {F : List rw4 → Prop} {G : Prop} : lkp F G t_Pieces_isOf 25 = F [(.ireturn, 1, 1, 0)] := propext Iff.rfl
theorem o_Pieces_isOf : tOk k_Pieces_isOf t_Pieces_isOf = true := by decide +kernel
/-- DroppedPieces$Pieces.strikes(IIII)Z; heads of loops: [] -/
def t_Pieces_strikes : tb4 := [
  (0, [(.iload_n 3, 1, 0, 0), (.iconst 1, 1, 0, 0), (.if_icmp .ne 11, 3, 13, 0)]),
  (5, [(.getstatic 24, 3, 102, 0), (.iload_n 1, 1, 0, 0), (.iaload, 1, 0, 0), (.goto 8, 3, 18, 0)]),
  (13, [(.getstatic 27, 3, 103, 0), (.iload_n 1, 1, 0, 0), (.iaload, 1, 0, 0)]),
  (18, [(.istore 4, 2, 0, 0), (.iload_n 0, 1, 0, 0), (.ifCond .ne 9, 3, 30, 0)]),
  (24, [(.iload_n 2, 1, 0, 0), (.iconst 4, 1, 0, 0), (.ixor, 1, 0, 0), (.goto 4, 3, 31, 0)]),
  (30, [(.iload_n 2, 1, 0, 0)]),
  (31, [(.istore 5, 2, 0, 0), (.iload 4, 2, 0, 0), (.iload 5, 2, 0, 0), (.ishr, 1, 0, 0), (.iconst 1, 1, 0, 0), (.iand, 1, 1, 1), (.ifCond .eq 7, 3, 47, 0)]),
  (43, [(.iconst 1, 1, 0, 0), (.goto 4, 3, 48, 0)]),
  (47, [(.iconst 0, 1, 0, 0)]),
  (48, [(.ireturn, 1, 1, 0)])]
theorem e_Pieces_strikes_0 {F : List rw4 → Prop} {G : Prop} : lkp F G t_Pieces_strikes 0 = F [(.iload_n 3, 1, 0, 0), (.iconst 1, 1, 0, 0), (.if_icmp .ne 11, 3, 13, 0)] := propext Iff.rfl
theorem e_Pieces_strikes_5 {F : List rw4 → Prop} {G : Prop} : lkp F G t_Pieces_strikes 5 = F [(.getstatic 24, 3, 102, 0), (.iload_n 1, 1, 0, 0), (.iaload, 1, 0, 0), (.goto 8, 3, 18, 0)] := propext Iff.rfl
theorem e_Pieces_strikes_13 {F : List rw4 → Prop} {G : Prop} : lkp F G t_Pieces_strikes 13 = F [(.getstatic 27, 3, 103, 0), (.iload_n 1, 1, 0, 0), (.iaload, 1, 0, 0)] := propext Iff.rfl
theorem e_Pieces_strikes_18 {F : List rw4 → Prop} {G : Prop} : lkp F G t_Pieces_strikes 18 = F [(.istore 4, 2, 0, 0), (.iload_n 0, 1, 0, 0), (.ifCond .ne 9, 3, 30, 0)] := propext Iff.rfl
theorem e_Pieces_strikes_24 {F : List rw4 → Prop} {G : Prop} : lkp F G t_Pieces_strikes 24 = F [(.iload_n 2, 1, 0, 0), (.iconst 4, 1, 0, 0), (.ixor, 1, 0, 0), (.goto 4, 3, 31, 0)] := propext Iff.rfl
theorem e_Pieces_strikes_30 {F : List rw4 → Prop} {G : Prop} : lkp F G t_Pieces_strikes 30 = F [(.iload_n 2, 1, 0, 0)] := propext Iff.rfl
theorem e_Pieces_strikes_31 {F : List rw4 → Prop} {G : Prop} : lkp F G t_Pieces_strikes 31 = F [(.istore 5, 2, 0, 0), (.iload 4, 2, 0, 0), (.iload 5, 2, 0, 0), (.ishr, 1, 0, 0), (.iconst 1, 1, 0, 0), (.iand, 1, 1, 1), (.ifCond .eq 7, 3, 47, 0)] := propext Iff.rfl
theorem e_Pieces_strikes_43 {F : List rw4 → Prop} {G : Prop} : lkp F G t_Pieces_strikes 43 = F [(.iconst 1, 1, 0, 0), (.goto 4, 3, 48, 0)] := propext Iff.rfl
theorem e_Pieces_strikes_47 {F : List rw4 → Prop} {G : Prop} : lkp F G t_Pieces_strikes 47 = F [(.iconst 0, 1, 0, 0)] := propext Iff.rfl
theorem e_Pieces_strikes_48 {F : List rw4 → Prop} {G : Prop} : lkp F G t_Pieces_strikes 48 = F [(.ireturn, 1, 1, 0)] := propext Iff.rfl
theorem o_Pieces_strikes : tOk k_Pieces_strikes t_Pieces_strikes = true := by decide +kernel
/-- DroppedPieces$Board.isAttackedAlong(III)Z; heads of loops: [15] -/
def t_Board_isAttackedAlong : tb4 := [
  (0, [(.iload_n 2, 1, 0, 0), (.bipush 9, 2, 0, 0), (.idiv, 1, 0, 0), (.istore 4, 2, 0, 0), (.iload_n 2, 1, 0, 0), (.bipush 9, 2, 0, 0), (.irem, 1, 0, 0), (.istore 5, 2, 0, 0), (.iconst 1, 1, 0, 0), (.istore 6, 2, 0, 0)]),
  (15, [(.iload 6, 2, 0, 0), (.bipush 9, 2, 0, 0), (.if_icmp .ge 91, 3, 110, 0)]),
  (22, [(.iload 4, 2, 0, 0), (.getstatic 94, 3, 100, 0), (.iload_n 3, 1, 0, 0), (.iaload, 1, 0, 0), (.iadd, 1, 0, 0), (.istore 4, 2, 0, 0), (.iload 5, 2, 0, 0), (.getstatic 97, 3, 101, 0), (.iload_n 3, 1, 0, 0), (.iaload, 1, 0, 0), (.iadd, 1, 0, 0), (.istore 5, 2, 0, 0), (.iload 4, 2, 0, 0), (.iload 5, 2, 0, 0), (.invokestatic 100, 3, 15, 2), (.ifCond .ne 5, 3, 54, 0)]),
  (52, [(.iconst 0, 1, 0, 0), (.ireturn, 1, 1, 0)]),
  (54, [(.aload_n 0, 1, 0, 0), (.getfield 9, 3, 0, 0), (.bipush 9, 2, 0, 0), (.iload 4, 2, 0, 0), (.imul, 1, 0, 0), (.iload 5, 2, 0, 0), (.iadd, 1, 0, 0), (.iaload, 1, 0, 0), (.istore 7, 2, 0, 0), (.iload 7, 2, 0, 0), (.ifCond .eq 33, 3, 104, 0)]),
  (74, [(.iload_n 1, 1, 0, 0), (.iload 7, 2, 0, 0), (.invokestatic 103, 3, 16, 2), (.ifCond .eq 22, 3, 102, 0)]),
  (83, [(.iload_n 1, 1, 0, 0), (.iload 7, 2, 0, 0), (.invokestatic 61, 3, 3, 1), (.iload_n 3, 1, 0, 0), (.iload 6, 2, 0, 0), (.invokestatic 106, 3, 17, 4), (.ifCond .eq 7, 3, 102, 0)]),
  (98, [(.iconst 1, 1, 0, 0), (.goto 4, 3, 103, 0)]),
  (102, [(.iconst 0, 1, 0, 0)]),
  (103, [(.ireturn, 1, 1, 0)]),
  (104, [(.iinc 6 1, 3, 0, 0), (.goto (-92), 3, 15, 0)]),
  (110, [(.iconst 0, 1, 0, 0), (.ireturn, 1, 1, 0)])]
theorem e_Board_isAttackedAlong_0 {F : List rw4 → Prop} {G : Prop} : lkp F G t_Board_isAttackedAlong 0 = F [(.iload_n 2, 1, 0, 0), (.bipush 9, 2, 0, 0), (.idiv, 1, 0, 0), (.istore 4, 2, 0, 0), (.iload_n 2, 1, 0, 0), (.bipush 9, 2, 0, 0), (.irem, 1, 0, 0), (.istore 5, 2, 0, 0), (.iconst 1, 1, 0, 0), (.istore 6, 2, 0, 0)] := propext Iff.rfl
theorem e_Board_isAttackedAlong_15 {F : List rw4 → Prop} {G : Prop} : lkp F G t_Board_isAttackedAlong 15 = F [(.iload 6, 2, 0, 0), (.bipush 9, 2, 0, 0), (.if_icmp .ge 91, 3, 110, 0)] := propext Iff.rfl
theorem e_Board_isAttackedAlong_22 {F : List rw4 → Prop} {G : Prop} : lkp F G t_Board_isAttackedAlong 22 = F [(.iload 4, 2, 0, 0), (.getstatic 94, 3, 100, 0), (.iload_n 3, 1, 0, 0), (.iaload, 1, 0, 0), (.iadd, 1, 0, 0), (.istore 4, 2, 0, 0), (.iload 5, 2, 0, 0), (.getstatic 97, 3, 101, 0), (.iload_n 3, 1, 0, 0), (.iaload, 1, 0, 0), (.iadd, 1, 0, 0), (.istore 5, 2, 0, 0), (.iload 4, 2, 0, 0), (.iload 5, 2, 0, 0), (.invokestatic 100, 3, 15, 2), (.ifCond .ne 5, 3, 54, 0)] := propext Iff.rfl
theorem e_Board_isAttackedAlong_52 {F : List rw4 → Prop} {G : Prop} : lkp F G t_Board_isAttackedAlong 52 = F [(.iconst 0, 1, 0, 0), (.ireturn, 1, 1, 0)] := propext Iff.rfl
theorem e_Board_isAttackedAlong_54 {F : List rw4 → Prop} {G : Prop} : lkp F G t_Board_isAttackedAlong 54 = F [(.aload_n 0, 1, 0, 0), (.getfield 9, 3, 0, 0), (.bipush 9, 2, 0, 0), (.iload 4, 2, 0, 0), (.imul, 1, 0, 0), (.iload 5, 2, 0, 0), (.iadd, 1, 0, 0), (.iaload, 1, 0, 0), (.istore 7, 2, 0, 0), (.iload 7, 2, 0, 0), (.ifCond .eq 33, 3, 104, 0)] := propext Iff.rfl
theorem e_Board_isAttackedAlong_74 {F : List rw4 → Prop} {G : Prop} : lkp F G t_Board_isAttackedAlong 74 = F [(.iload_n 1, 1, 0, 0), (.iload 7, 2, 0, 0), (.invokestatic 103, 3, 16, 2), (.ifCond .eq 22, 3, 102, 0)] := propext Iff.rfl
theorem e_Board_isAttackedAlong_83 {F : List rw4 → Prop} {G : Prop} : lkp F G t_Board_isAttackedAlong 83 = F [(.iload_n 1, 1, 0, 0), (.iload 7, 2, 0, 0), (.invokestatic 61, 3, 3, 1), (.iload_n 3, 1, 0, 0), (.iload 6, 2, 0, 0), (.invokestatic 106, 3, 17, 4), (.ifCond .eq 7, 3, 102, 0)] := propext Iff.rfl
theorem e_Board_isAttackedAlong_98 {F : List rw4 → Prop} {G : Prop} : lkp F G t_Board_isAttackedAlong 98 = F [(.iconst 1, 1, 0, 0), (.goto 4, 3, 103, 0)] := propext Iff.rfl
theorem e_Board_isAttackedAlong_102 {F : List rw4 → Prop} {G : Prop} : lkp F G t_Board_isAttackedAlong 102 = F [(.iconst 0, 1, 0, 0)] := propext Iff.rfl
theorem e_Board_isAttackedAlong_103 {F : List rw4 → Prop} {G : Prop} : lkp F G t_Board_isAttackedAlong 103 = F [(.ireturn, 1, 1, 0)] := propext Iff.rfl
theorem e_Board_isAttackedAlong_104 {F : List rw4 → Prop} {G : Prop} : lkp F G t_Board_isAttackedAlong 104 = F [(.iinc 6 1, 3, 0, 0), (.goto (-92), 3, 15, 0)] := propext Iff.rfl
theorem e_Board_isAttackedAlong_110 {F : List rw4 → Prop} {G : Prop} : lkp F G t_Board_isAttackedAlong 110 = F [(.iconst 0, 1, 0, 0), (.ireturn, 1, 1, 0)] := propext Iff.rfl
theorem o_Board_isAttackedAlong : tOk k_Board_isAttackedAlong t_Board_isAttackedAlong = true := by decide +kernel
/-- DroppedPieces$Pieces.knightSquare(III)I; heads of loops: [] -/
def t_Pieces_knightSquare : tb4 := [
  (0, [(.iload_n 1, 1, 0, 0), (.bipush 9, 2, 0, 0), (.idiv, 1, 0, 0), (.iload_n 0, 1, 0, 0), (.ifCond .ne 7, 3, 12, 0)]),
  (8, [(.iconst 2, 1, 0, 0), (.goto 5, 3, 14, 0)]),
  (12, [(.bipush (-2), 2, 0, 0)]),
  (14, [(.iadd, 1, 0, 0), (.istore_n 3, 1, 0, 0), (.iload_n 1, 1, 0, 0), (.bipush 9, 2, 0, 0), (.irem, 1, 0, 0), (.iload_n 2, 1, 0, 0), (.iadd, 1, 0, 0), (.istore 4, 2, 0, 0), (.iload_n 3, 1, 0, 0), (.iload 4, 2, 0, 0), (.invokestatic 20, 3, 15, 2), (.ifCond .eq 13, 3, 43, 0)]),
  (33, [(.bipush 9, 2, 0, 0), (.iload_n 3, 1, 0, 0), (.imul, 1, 0, 0), (.iload 4, 2, 0, 0), (.iadd, 1, 0, 0), (.goto 4, 3, 44, 0)]),
  (43, [(.iconst (-1), 1, 0, 0)]),
  (44, [(.ireturn, 1, 0, 0)])]
theorem e_Pieces_knightSquare_0 {F : List rw4 → Prop} {G : Prop} : lkp F G t_Pieces_knightSquare 0 = F [(.iload_n 1, 1, 0, 0), (.bipush 9, 2, 0, 0), (.idiv, 1, 0, 0), (.iload_n 0, 1, 0, 0), (.ifCond .ne 7, 3, 12, 0)] := propext Iff.rfl
theorem e_Pieces_knightSquare_8 {F : List rw4 → Prop} {G : Prop} : lkp F G t_Pieces_knightSquare 8 = F [(.iconst 2, 1, 0, 0), (.goto 5, 3, 14, 0)] := propext Iff.rfl
theorem e_Pieces_knightSquare_12 {F : List rw4 → Prop} {G : Prop} : lkp F G t_Pieces_knightSquare 12 = F [(.bipush (-2), 2, 0, 0)] := propext Iff.rfl
theorem e_Pieces_knightSquare_14 {F : List rw4 → Prop} {G : Prop} : lkp F G t_Pieces_knightSquare 14 = F [(.iadd, 1, 0, 0), (.istore_n 3, 1, 0, 0), (.iload_n 1, 1, 0, 0), (.bipush 9, 2, 0, 0), (.irem, 1, 0, 0), (.iload_n 2, 1, 0, 0), (.iadd, 1, 0, 0), (.istore 4, 2, 0, 0), (.iload_n 3, 1, 0, 0), (.iload 4, 2, 0, 0), (.invokestatic 20, 3, 15, 2), (.ifCond .eq 13, 3, 43, 0)] := propext Iff.rfl
theorem e_Pieces_knightSquare_33 {F : List rw4 → Prop} {G : Prop} : lkp F G t_Pieces_knightSquare 33 = F [(.bipush 9, 2, 0, 0), (.iload_n 3, 1, 0, 0), (.imul, 1, 0, 0), (.iload 4, 2, 0, 0), (.iadd, 1, 0, 0), (.goto 4, 3, 44, 0)] := propext Iff.rfl
theorem e_Pieces_knightSquare_43 {F : List rw4 → Prop} {G : Prop} : lkp F G t_Pieces_knightSquare 43 = F [(.iconst (-1), 1, 0, 0)] := propext Iff.rfl
theorem e_Pieces_knightSquare_44 {F : List rw4 → Prop} {G : Prop} : lkp F G t_Pieces_knightSquare 44 = F [(.ireturn, 1, 0, 0)] := propext Iff.rfl
theorem o_Pieces_knightSquare : tOk k_Pieces_knightSquare t_Pieces_knightSquare = true := by decide +kernel
/-- DroppedPieces$Board.isKnightAt(II)Z; heads of loops: [] -/
def t_Board_isKnightAt : tb4 := [
  (0, [(.iload_n 2, 1, 0, 0), (.ifCond .lt 26, 3, 27, 0)]),
  (4, [(.aload_n 0, 1, 0, 0), (.getfield 9, 3, 0, 0), (.iload_n 2, 1, 0, 0), (.iaload, 1, 0, 0), (.iload_n 1, 1, 0, 0), (.ifCond .ne 7, 3, 18, 0)]),
  (14, [(.iconst 3, 1, 0, 0), (.goto 5, 3, 20, 0)]),
  (18, [(.bipush (-3), 2, 0, 0)]),
  (20, [(.if_icmp .ne 7, 3, 27, 0)]),
  (23, [(.iconst 1, 1, 0, 0), (.goto 4, 3, 28, 0)]),
  (27, [(.iconst 0, 1, 0, 0)]),
  (28, [(.ireturn, 1, 1, 0)])]
theorem e_Board_isKnightAt_0 {F : List rw4 → Prop} {G : Prop} : lkp F G t_Board_isKnightAt 0 = F [(.iload_n 2, 1, 0, 0), (.ifCond .lt 26, 3, 27, 0)] := propext Iff.rfl
theorem e_Board_isKnightAt_4 {F : List rw4 → Prop} {G : Prop} : lkp F G t_Board_isKnightAt 4 = F [(.aload_n 0, 1, 0, 0), (.getfield 9, 3, 0, 0), (.iload_n 2, 1, 0, 0), (.iaload, 1, 0, 0), (.iload_n 1, 1, 0, 0), (.ifCond .ne 7, 3, 18, 0)] := propext Iff.rfl
theorem e_Board_isKnightAt_14 {F : List rw4 → Prop} {G : Prop} : lkp F G t_Board_isKnightAt 14 = F [(.iconst 3, 1, 0, 0), (.goto 5, 3, 20, 0)] := propext Iff.rfl
theorem e_Board_isKnightAt_18 {F : List rw4 → Prop} {G : Prop} : lkp F G t_Board_isKnightAt 18 = F [(.bipush (-3), 2, 0, 0)] := propext Iff.rfl
theorem e_Board_isKnightAt_20 {F : List rw4 → Prop} {G : Prop} : lkp F G t_Board_isKnightAt 20 = F [(.if_icmp .ne 7, 3, 27, 0)] := propext Iff.rfl
theorem e_Board_isKnightAt_23 {F : List rw4 → Prop} {G : Prop} : lkp F G t_Board_isKnightAt 23 = F [(.iconst 1, 1, 0, 0), (.goto 4, 3, 28, 0)] := propext Iff.rfl
theorem e_Board_isKnightAt_27 {F : List rw4 → Prop} {G : Prop} : lkp F G t_Board_isKnightAt 27 = F [(.iconst 0, 1, 0, 0)] := propext Iff.rfl
theorem e_Board_isKnightAt_28 {F : List rw4 → Prop} {G : Prop} : lkp F G t_Board_isKnightAt 28 = F [(.ireturn, 1, 1, 0)] := propext Iff.rfl
theorem o_Board_isKnightAt : tOk k_Board_isKnightAt t_Board_isKnightAt = true := by decide +kernel
/-- DroppedPieces$Board.isAttacked(II)Z; heads of loops: [2] -/
def t_Board_isAttacked : tb4 := [
  (0, [(.iconst 0, 1, 0, 0), (.istore_n 3, 1, 0, 0)]),
  (2, [(.iload_n 3, 1, 0, 0), (.bipush 8, 2, 0, 0), (.if_icmp .ge 21, 3, 26, 0)]),
  (8, [(.aload_n 0, 1, 0, 0), (.iload_n 1, 1, 0, 0), (.iload_n 2, 1, 0, 0), (.iload_n 3, 1, 0, 0), (.invokevirtual 84, 3, 18, 3), (.ifCond .eq 5, 3, 20, 0)]),
  (18, [(.iconst 1, 1, 0, 0), (.ireturn, 1, 1, 0)]),
  (20, [(.iinc 3 1, 3, 0, 0), (.goto (-21), 3, 2, 0)]),
  (26, [(.aload_n 0, 1, 0, 0), (.iload_n 1, 1, 0, 0), (.iload_n 1, 1, 0, 0), (.iload_n 2, 1, 0, 0), (.iconst (-1), 1, 0, 0), (.invokestatic 87, 3, 19, 3), (.invokevirtual 91, 3, 20, 2), (.ifCond .ne 17, 3, 54, 0)]),
  (40, [(.aload_n 0, 1, 0, 0), (.iload_n 1, 1, 0, 0), (.iload_n 1, 1, 0, 0), (.iload_n 2, 1, 0, 0), (.iconst 1, 1, 0, 0), (.invokestatic 87, 3, 19, 3), (.invokevirtual 91, 3, 20, 2), (.ifCond .eq 7, 3, 58, 0)]),
  (54, [(.iconst 1, 1, 0, 0), (.goto 4, 3, 59, 0)]),
  (58, [(.iconst 0, 1, 0, 0)]),
  (59, [(.ireturn, 1, 1, 0)])]
theorem e_Board_isAttacked_0 {F : List rw4 → Prop} {G : Prop} : lkp F G t_Board_isAttacked 0 = F [(.iconst 0, 1, 0, 0), (.istore_n 3, 1, 0, 0)] := propext Iff.rfl
theorem e_Board_isAttacked_2 {F : List rw4 → Prop} {G : Prop} : lkp F G t_Board_isAttacked 2 = F [(.iload_n 3, 1, 0, 0), (.bipush 8, 2, 0, 0), (.if_icmp .ge 21, 3, 26, 0)] := propext Iff.rfl
theorem e_Board_isAttacked_8 {F : List rw4 → Prop} {G : Prop} : lkp F G t_Board_isAttacked 8 = F [(.aload_n 0, 1, 0, 0), (.iload_n 1, 1, 0, 0), (.iload_n 2, 1, 0, 0), (.iload_n 3, 1, 0, 0), (.invokevirtual 84, 3, 18, 3), (.ifCond .eq 5, 3, 20, 0)] := propext Iff.rfl
theorem e_Board_isAttacked_18 {F : List rw4 → Prop} {G : Prop} : lkp F G t_Board_isAttacked 18 = F [(.iconst 1, 1, 0, 0), (.ireturn, 1, 1, 0)] := propext Iff.rfl
theorem e_Board_isAttacked_20 {F : List rw4 → Prop} {G : Prop} : lkp F G t_Board_isAttacked 20 = F [(.iinc 3 1, 3, 0, 0), (.goto (-21), 3, 2, 0)] := propext Iff.rfl
theorem e_Board_isAttacked_26 {F : List rw4 → Prop} {G : Prop} : lkp F G t_Board_isAttacked 26 = F [(.aload_n 0, 1, 0, 0), (.iload_n 1, 1, 0, 0), (.iload_n 1, 1, 0, 0), (.iload_n 2, 1, 0, 0), (.iconst (-1), 1, 0, 0), (.invokestatic 87, 3, 19, 3), (.invokevirtual 91, 3, 20, 2), (.ifCond .ne 17, 3, 54, 0)] := propext Iff.rfl
theorem e_Board_isAttacked_40 {F : List rw4 → Prop} {G : Prop} : lkp F G t_Board_isAttacked 40 = F [(.aload_n 0, 1, 0, 0), (.iload_n 1, 1, 0, 0), (.iload_n 1, 1, 0, 0), (.iload_n 2, 1, 0, 0), (.iconst 1, 1, 0, 0), (.invokestatic 87, 3, 19, 3), (.invokevirtual 91, 3, 20, 2), (.ifCond .eq 7, 3, 58, 0)] := propext Iff.rfl
theorem e_Board_isAttacked_54 {F : List rw4 → Prop} {G : Prop} : lkp F G t_Board_isAttacked 54 = F [(.iconst 1, 1, 0, 0), (.goto 4, 3, 59, 0)] := propext Iff.rfl
theorem e_Board_isAttacked_58 {F : List rw4 → Prop} {G : Prop} : lkp F G t_Board_isAttacked 58 = F [(.iconst 0, 1, 0, 0)] := propext Iff.rfl
theorem e_Board_isAttacked_59 {F : List rw4 → Prop} {G : Prop} : lkp F G t_Board_isAttacked 59 = F [(.ireturn, 1, 1, 0)] := propext Iff.rfl
theorem o_Board_isAttacked : tOk k_Board_isAttacked t_Board_isAttacked = true := by decide +kernel
/-- DroppedPieces.reaches(II)Z; heads of loops: [] -/
def t_DP_reaches : tb4 := [
  (0, [(.iload_n 1, 1, 0, 0), (.invokestatic 80, 3, 9, 1), (.ifCond .eq 26, 3, 30, 0)]),
  (7, [(.iload_n 2, 1, 0, 0), (.invokestatic 100, 3, 14, 1), (.ifCond .eq 19, 3, 30, 0)]),
  (14, [(.aload_n 0, 1, 0, 0), (.getfield 10, 3, 5, 0), (.iload_n 1, 1, 0, 0), (.iload_n 2, 1, 0, 0), (.invokevirtual 103, 3, 21, 2), (.ifCond .eq 7, 3, 30, 0)]),
  (26, [(.iconst 1, 1, 0, 0), (.goto 4, 3, 31, 0)]),
  (30, [(.iconst 0, 1, 0, 0)]),
  (31, [(.ireturn, 1, 1, 0)])]
theorem e_DP_reaches_0 {F : List rw4 → Prop} {G : Prop} : lkp F G t_DP_reaches 0 = F [(.iload_n 1, 1, 0, 0), (.invokestatic 80, 3, 9, 1), (.ifCond .eq 26, 3, 30, 0)] := propext Iff.rfl
theorem e_DP_reaches_7 {F : List rw4 → Prop} {G : Prop} : lkp F G t_DP_reaches 7 = F [(.iload_n 2, 1, 0, 0), (.invokestatic 100, 3, 14, 1), (.ifCond .eq 19, 3, 30, 0)] := propext Iff.rfl
theorem e_DP_reaches_14 {F : List rw4 → Prop} {G : Prop} : lkp F G t_DP_reaches 14 = F [(.aload_n 0, 1, 0, 0), (.getfield 10, 3, 5, 0), (.iload_n 1, 1, 0, 0), (.iload_n 2, 1, 0, 0), (.invokevirtual 103, 3, 21, 2), (.ifCond .eq 7, 3, 30, 0)] := propext Iff.rfl
theorem e_DP_reaches_26 {F : List rw4 → Prop} {G : Prop} : lkp F G t_DP_reaches 26 = F [(.iconst 1, 1, 0, 0), (.goto 4, 3, 31, 0)] := propext Iff.rfl
theorem e_DP_reaches_30 {F : List rw4 → Prop} {G : Prop} : lkp F G t_DP_reaches 30 = F [(.iconst 0, 1, 0, 0)] := propext Iff.rfl
theorem e_DP_reaches_31 {F : List rw4 → Prop} {G : Prop} : lkp F G t_DP_reaches 31 = F [(.ireturn, 1, 1, 0)] := propext Iff.rfl
theorem o_DP_reaches : tOk k_DP_reaches t_DP_reaches = true := by decide +kernel
/-- DroppedPieces$Board.isKingAttacked(I)Z; heads of loops: [] -/
def t_Board_isKingAttacked : tb4 := [
  (0, [(.aload_n 0, 1, 0, 0), (.iconst 1, 1, 0, 0), (.iload_n 1, 1, 0, 0), (.isub, 1, 0, 0), (.aload_n 0, 1, 0, 0), (.getfield 18, 3, 0, 2), (.iload_n 1, 1, 0, 0), (.iaload, 1, 0, 0), (.invokevirtual 80, 3, 21, 2), (.ireturn, 1, 1, 0)])]
theorem e_Board_isKingAttacked_0 {F : List rw4 → Prop} {G : Prop} : lkp F G t_Board_isKingAttacked 0 = F [(.aload_n 0, 1, 0, 0), (.iconst 1, 1, 0, 0), (.iload_n 1, 1, 0, 0), (.isub, 1, 0, 0), (.aload_n 0, 1, 0, 0), (.getfield 18, 3, 0, 2), (.iload_n 1, 1, 0, 0), (.iaload, 1, 0, 0), (.invokevirtual 80, 3, 21, 2), (.ireturn, 1, 1, 0)] := propext Iff.rfl
theorem o_Board_isKingAttacked : tOk k_Board_isKingAttacked t_Board_isKingAttacked = true := by decide +kernel
/-- DroppedPieces.inCheck(I)Z; heads of loops: [] -/
def t_DP_inCheck : tb4 := [
  (0, [(.aload_n 0, 1, 0, 0), (.getfield 54, 3, 5, 5), (.iconst (-1), 1, 0, 0), (.if_icmp .eq 25, 3, 30, 0)]),
  (8, [(.iload_n 1, 1, 0, 0), (.invokestatic 80, 3, 9, 1), (.ifCond .eq 18, 3, 30, 0)]),
  (15, [(.aload_n 0, 1, 0, 0), (.getfield 10, 3, 5, 0), (.iload_n 1, 1, 0, 0), (.invokevirtual 107, 3, 23, 1), (.ifCond .eq 7, 3, 30, 0)]),
  (26, [(.iconst 1, 1, 0, 0), (.goto 4, 3, 31, 0)]),
  (30, [(.iconst 0, 1, 0, 0)]),
  (31, [(.ireturn, 1, 1, 0)])]
theorem e_DP_inCheck_0 {F : List rw4 → Prop} {G : Prop} : lkp F G t_DP_inCheck 0 = F [(.aload_n 0, 1, 0, 0), (.getfield 54, 3, 5, 5), (.iconst (-1), 1, 0, 0), (.if_icmp .eq 25, 3, 30, 0)] := propext Iff.rfl
theorem e_DP_inCheck_8 {F : List rw4 → Prop} {G : Prop} : lkp F G t_DP_inCheck 8 = F [(.iload_n 1, 1, 0, 0), (.invokestatic 80, 3, 9, 1), (.ifCond .eq 18, 3, 30, 0)] := propext Iff.rfl
theorem e_DP_inCheck_15 {F : List rw4 → Prop} {G : Prop} : lkp F G t_DP_inCheck 15 = F [(.aload_n 0, 1, 0, 0), (.getfield 10, 3, 5, 0), (.iload_n 1, 1, 0, 0), (.invokevirtual 107, 3, 23, 1), (.ifCond .eq 7, 3, 30, 0)] := propext Iff.rfl
theorem e_DP_inCheck_26 {F : List rw4 → Prop} {G : Prop} : lkp F G t_DP_inCheck 26 = F [(.iconst 1, 1, 0, 0), (.goto 4, 3, 31, 0)] := propext Iff.rfl
theorem e_DP_inCheck_30 {F : List rw4 → Prop} {G : Prop} : lkp F G t_DP_inCheck 30 = F [(.iconst 0, 1, 0, 0)] := propext Iff.rfl
theorem e_DP_inCheck_31 {F : List rw4 → Prop} {G : Prop} : lkp F G t_DP_inCheck 31 = F [(.ireturn, 1, 1, 0)] := propext Iff.rfl
theorem o_DP_inCheck : tOk k_DP_inCheck t_DP_inCheck = true := by decide +kernel
/-- DroppedPieces$Guard.noteAttack(IIII)V; heads of loops: [46] -/
def t_Guard_noteAttack : tb4 := [
  (0, [(.iload 4, 2, 0, 0), (.iconst (-1), 1, 0, 0), (.if_icmp .eq 14, 3, 17, 0)]),
  (6, [(.aload_n 0, 1, 0, 0), (.getfield 9, 3, 1, 1), (.iload 4, 2, 0, 0), (.iload_n 2, 1, 0, 0), (.iconst 3, 1, 0, 0), (.iand, 1, 1, 2), (.iastore, 1, 0, 0), (.return_, 1, 0, 0)]),
  (17, [(.aload_n 0, 1, 0, 0), (.dup, 1, 0, 0), (.getfield 22, 3, 1, 3), (.iconst 1, 1, 0, 0), (.iadd, 1, 0, 0), (.putfield 22, 3, 1, 3), (.bipush 9, 2, 0, 0), (.getstatic 48, 3, 100, 0), (.iload_n 2, 1, 0, 0), (.iaload, 1, 0, 0), (.imul, 1, 0, 0), (.getstatic 51, 3, 101, 0), (.iload_n 2, 1, 0, 0), (.iaload, 1, 0, 0), (.iadd, 1, 0, 0), (.istore 5, 2, 0, 0), (.iconst 1, 1, 0, 0), (.istore 6, 2, 0, 0)]),
  (46, [(.iload 6, 2, 0, 0), (.iload_n 3, 1, 0, 0), (.if_icmp .gt 25, 3, 74, 0)]),
  (52, [(.aload_n 0, 1, 0, 0), (.getfield 15, 3, 1, 2), (.iload_n 1, 1, 0, 0), (.iload 6, 2, 0, 0), (.iload 5, 2, 0, 0), (.imul, 1, 0, 0), (.iadd, 1, 0, 0), (.dup2, 1, 0, 0), (.iaload, 1, 0, 0), (.iconst 1, 1, 0, 0), (.iadd, 1, 0, 0), (.iastore, 1, 0, 0), (.iinc 6 1, 3, 0, 0), (.goto (-25), 3, 46, 0)]),
  (74, [(.return_, 1, 0, 0)])]
theorem e_Guard_noteAttack_0 {F : List rw4 → Prop} {G : Prop} : lkp F G t_Guard_noteAttack 0 = F [(.iload 4, 2, 0, 0), (.iconst (-1), 1, 0, 0), (.if_icmp .eq 14, 3, 17, 0)] := propext Iff.rfl
theorem e_Guard_noteAttack_6 {F : List rw4 → Prop} {G : Prop} : lkp F G t_Guard_noteAttack 6 = F [(.aload_n 0, 1, 0, 0), (.getfield 9, 3, 1, 1), (.iload 4, 2, 0, 0), (.iload_n 2, 1, 0, 0), (.iconst 3, 1, 0, 0), (.iand, 1, 1, 2), (.iastore, 1, 0, 0), (.return_, 1, 0, 0)] := propext Iff.rfl
theorem e_Guard_noteAttack_17 {F : List rw4 → Prop} {G : Prop} : lkp F G t_Guard_noteAttack 17 = F [(.aload_n 0, 1, 0, 0), (.dup, 1, 0, 0), (.getfield 22, 3, 1, 3), (.iconst 1, 1, 0, 0), (.iadd, 1, 0, 0), (.putfield 22, 3, 1, 3), (.bipush 9, 2, 0, 0), (.getstatic 48, 3, 100, 0), (.iload_n 2, 1, 0, 0), (.iaload, 1, 0, 0), (.imul, 1, 0, 0), (.getstatic 51, 3, 101, 0), (.iload_n 2, 1, 0, 0), (.iaload, 1, 0, 0), (.iadd, 1, 0, 0), (.istore 5, 2, 0, 0), (.iconst 1, 1, 0, 0), (.istore 6, 2, 0, 0)] := propext Iff.rfl
theorem e_Guard_noteAttack_46 {F : List rw4 → Prop} {G : Prop} : lkp F G t_Guard_noteAttack 46 = F [(.iload 6, 2, 0, 0), (.iload_n 3, 1, 0, 0), (.if_icmp .gt 25, 3, 74, 0)] := propext Iff.rfl
theorem e_Guard_noteAttack_52 {F : List rw4 → Prop} {G : Prop} : lkp F G t_Guard_noteAttack 52 = F [(.aload_n 0, 1, 0, 0), (.getfield 15, 3, 1, 2), (.iload_n 1, 1, 0, 0), (.iload 6, 2, 0, 0), (.iload 5, 2, 0, 0), (.imul, 1, 0, 0), (.iadd, 1, 0, 0), (.dup2, 1, 0, 0), (.iaload, 1, 0, 0), (.iconst 1, 1, 0, 0), (.iadd, 1, 0, 0), (.iastore, 1, 0, 0), (.iinc 6 1, 3, 0, 0), (.goto (-25), 3, 46, 0)] := propext Iff.rfl
theorem e_Guard_noteAttack_74 {F : List rw4 → Prop} {G : Prop} : lkp F G t_Guard_noteAttack 74 = F [(.return_, 1, 0, 0)] := propext Iff.rfl
theorem o_Guard_noteAttack : tOk k_Guard_noteAttack t_Guard_noteAttack = true := by decide +kernel
/-- DroppedPieces$Guard.lookAlong(II)V; heads of loops: [33] -/
def t_Guard_lookAlong : tb4 := [
  (0, [(.aload_n 0, 1, 0, 0), (.getfield 18, 3, 1, 0), (.getfield 36, 3, 0, 2), (.iload_n 1, 1, 0, 0), (.iaload, 1, 0, 0), (.bipush 9, 2, 0, 0), (.idiv, 1, 0, 0), (.istore_n 3, 1, 0, 0), (.aload_n 0, 1, 0, 0), (.getfield 18, 3, 1, 0), (.getfield 36, 3, 0, 2), (.iload_n 1, 1, 0, 0), (.iaload, 1, 0, 0), (.bipush 9, 2, 0, 0), (.irem, 1, 0, 0), (.istore 4, 2, 0, 0), (.iconst (-1), 1, 0, 0), (.istore 5, 2, 0, 0), (.iconst 1, 1, 0, 0), (.istore 6, 2, 0, 0)]),
  (33, [(.iload 6, 2, 0, 0), (.bipush 9, 2, 0, 0), (.if_icmp .ge 122, 3, 159, 0)]),
  (40, [(.iload_n 3, 1, 0, 0), (.getstatic 48, 3, 100, 0), (.iload_n 2, 1, 0, 0), (.iaload, 1, 0, 0), (.iadd, 1, 0, 0), (.istore_n 3, 1, 0, 0), (.iload 4, 2, 0, 0), (.getstatic 51, 3, 101, 0), (.iload_n 2, 1, 0, 0), (.iaload, 1, 0, 0), (.iadd, 1, 0, 0), (.istore 4, 2, 0, 0), (.iload_n 3, 1, 0, 0), (.iload 4, 2, 0, 0), (.invokestatic 54, 3, 15, 2), (.ifCond .ne 4, 3, 68, 0)]),
  (67, [(.return_, 1, 0, 0)]),
  (68, [(.bipush 9, 2, 0, 0), (.iload_n 3, 1, 0, 0), (.imul, 1, 0, 0), (.iload 4, 2, 0, 0), (.iadd, 1, 0, 0), (.istore 7, 2, 0, 0), (.aload_n 0, 1, 0, 0), (.getfield 18, 3, 1, 0), (.getfield 58, 3, 0, 0), (.iload 7, 2, 0, 0), (.iaload, 1, 0, 0), (.istore 8, 2, 0, 0), (.iload 8, 2, 0, 0), (.ifCond .ne 6, 3, 97, 0)]),
  (94, [(.goto 59, 3, 153, 0)]),
  (97, [(.iload_n 1, 1, 0, 0), (.iload 8, 2, 0, 0), (.invokestatic 61, 3, 16, 2), (.ifCond .ne 39, 3, 142, 0)]),
  (106, [(.iconst 1, 1, 0, 0), (.iload_n 1, 1, 0, 0), (.isub, 1, 0, 0), (.iload 8, 2, 0, 0), (.invokestatic 64, 3, 3, 1), (.iload_n 2, 1, 0, 0), (.iload 6, 2, 0, 0), (.invokestatic 68, 3, 17, 4), (.ifCond .eq 21, 3, 141, 0)]),
  (123, [(.aload_n 0, 1, 0, 0), (.aload_n 0, 1, 0, 0), (.getfield 18, 3, 1, 0), (.getfield 36, 3, 0, 2), (.iload_n 1, 1, 0, 0), (.iaload, 1, 0, 0), (.iload_n 2, 1, 0, 0), (.iload 6, 2, 0, 0), (.iload 5, 2, 0, 0), (.invokevirtual 72, 3, 25, 4)]),
  (141, [(.return_, 1, 0, 0)]),
  (142, [(.iload 5, 2, 0, 0), (.iconst (-1), 1, 0, 0), (.if_icmp .eq 4, 3, 149, 0)]),
  (148, [(.return_, 1, 0, 0)]),
  (149, [(.iload 7, 2, 0, 0), (.istore 5, 2, 0, 0)]),
  (153, [(.iinc 6 1, 3, 0, 0), (.goto (-123), 3, 33, 0)]),
  (159, [(.return_, 1, 0, 0)])]
theorem e_Guard_lookAlong_0 {F : List rw4 → Prop} {G : Prop} : lkp F G t_Guard_lookAlong 0 = F [(.aload_n 0, 1, 0, 0), (.getfield 18, 3, 1, 0), (.getfield 36, 3, 0, 2), (.iload_n 1, 1, 0, 0), (.iaload, 1, 0, 0), (.bipush 9, 2, 0, 0), (.idiv, 1, 0, 0), (.istore_n 3, 1, 0, 0), (.aload_n 0, 1, 0, 0), (.getfield 18, 3, 1, 0), (.getfield 36, 3, 0, 2), (.iload_n 1, 1, 0, 0), (.iaload, 1, 0, 0), (.bipush 9, 2, 0, 0), (.irem, 1, 0, 0), (.istore 4, 2, 0, 0), (.iconst (-1), 1, 0, 0), (.istore 5, 2, 0, 0), (.iconst 1, 1, 0, 0), (.istore 6, 2, 0, 0)] := propext Iff.rfl
theorem e_Guard_lookAlong_33 {F : List rw4 → Prop} {G : Prop} : lkp F G t_Guard_lookAlong 33 = F [(.iload 6, 2, 0, 0), (.bipush 9, 2, 0, 0), (.if_icmp .ge 122, 3, 159, 0)] := propext Iff.rfl
theorem e_Guard_lookAlong_40 {F : List rw4 → Prop} {G : Prop} : lkp F G t_Guard_lookAlong 40 = F [(.iload_n 3, 1, 0, 0), (.getstatic 48, 3, 100, 0), (.iload_n 2, 1, 0, 0), (.iaload, 1, 0, 0), (.iadd, 1, 0, 0), (.istore_n 3, 1, 0, 0), (.iload 4, 2, 0, 0), (.getstatic 51, 3, 101, 0), (.iload_n 2, 1, 0, 0), (.iaload, 1, 0, 0), (.iadd, 1, 0, 0), (.istore 4, 2, 0, 0), (.iload_n 3, 1, 0, 0), (.iload 4, 2, 0, 0), (.invokestatic 54, 3, 15, 2), (.ifCond .ne 4, 3, 68, 0)] := propext Iff.rfl
theorem e_Guard_lookAlong_67 {F : List rw4 → Prop} {G : Prop} : lkp F G t_Guard_lookAlong 67 = F [(.return_, 1, 0, 0)] := propext Iff.rfl
theorem e_Guard_lookAlong_68 {F : List rw4 → Prop} {G : Prop} : lkp F G t_Guard_lookAlong 68 = F [(.bipush 9, 2, 0, 0), (.iload_n 3, 1, 0, 0), (.imul, 1, 0, 0), (.iload 4, 2, 0, 0), (.iadd, 1, 0, 0), (.istore 7, 2, 0, 0), (.aload_n 0, 1, 0, 0), (.getfield 18, 3, 1, 0), (.getfield 58, 3, 0, 0), (.iload 7, 2, 0, 0), (.iaload, 1, 0, 0), (.istore 8, 2, 0, 0), (.iload 8, 2, 0, 0), (.ifCond .ne 6, 3, 97, 0)] := propext Iff.rfl
theorem e_Guard_lookAlong_94 {F : List rw4 → Prop} {G : Prop} : lkp F G t_Guard_lookAlong 94 = F [(.goto 59, 3, 153, 0)] := propext Iff.rfl
theorem e_Guard_lookAlong_97 {F : List rw4 → Prop} {G : Prop} : lkp F G t_Guard_lookAlong 97 = F [(.iload_n 1, 1, 0, 0), (.iload 8, 2, 0, 0), (.invokestatic 61, 3, 16, 2), (.ifCond .ne 39, 3, 142, 0)] := propext Iff.rfl
theorem e_Guard_lookAlong_106 {F : List rw4 → Prop} {G : Prop} : lkp F G t_Guard_lookAlong 106 = F [(.iconst 1, 1, 0, 0), (.iload_n 1, 1, 0, 0), (.isub, 1, 0, 0), (.iload 8, 2, 0, 0), (.invokestatic 64, 3, 3, 1), (.iload_n 2, 1, 0, 0), (.iload 6, 2, 0, 0), (.invokestatic 68, 3, 17, 4), (.ifCond .eq 21, 3, 141, 0)] := propext Iff.rfl
theorem e_Guard_lookAlong_123 {F : List rw4 → Prop} {G : Prop} : lkp F G t_Guard_lookAlong 123 = F [(.aload_n 0, 1, 0, 0), (.aload_n 0, 1, 0, 0), (.getfield 18, 3, 1, 0), (.getfield 36, 3, 0, 2), (.iload_n 1, 1, 0, 0), (.iaload, 1, 0, 0), (.iload_n 2, 1, 0, 0), (.iload 6, 2, 0, 0), (.iload 5, 2, 0, 0), (.invokevirtual 72, 3, 25, 4)] := propext Iff.rfl
theorem e_Guard_lookAlong_141 {F : List rw4 → Prop} {G : Prop} : lkp F G t_Guard_lookAlong 141 = F [(.return_, 1, 0, 0)] := propext Iff.rfl
theorem e_Guard_lookAlong_142 {F : List rw4 → Prop} {G : Prop} : lkp F G t_Guard_lookAlong 142 = F [(.iload 5, 2, 0, 0), (.iconst (-1), 1, 0, 0), (.if_icmp .eq 4, 3, 149, 0)] := propext Iff.rfl
theorem e_Guard_lookAlong_148 {F : List rw4 → Prop} {G : Prop} : lkp F G t_Guard_lookAlong 148 = F [(.return_, 1, 0, 0)] := propext Iff.rfl
theorem e_Guard_lookAlong_149 {F : List rw4 → Prop} {G : Prop} : lkp F G t_Guard_lookAlong 149 = F [(.iload 7, 2, 0, 0), (.istore 5, 2, 0, 0)] := propext Iff.rfl
theorem e_Guard_lookAlong_153 {F : List rw4 → Prop} {G : Prop} : lkp F G t_Guard_lookAlong 153 = F [(.iinc 6 1, 3, 0, 0), (.goto (-123), 3, 33, 0)] := propext Iff.rfl
theorem e_Guard_lookAlong_159 {F : List rw4 → Prop} {G : Prop} : lkp F G t_Guard_lookAlong 159 = F [(.return_, 1, 0, 0)] := propext Iff.rfl
theorem o_Guard_lookAlong : tOk k_Guard_lookAlong t_Guard_lookAlong = true := by decide +kernel
/-- DroppedPieces$Guard.lookForKnight(II)V; heads of loops: [] -/
def t_Guard_lookForKnight : tb4 := [
  (0, [(.aload_n 0, 1, 0, 0), (.getfield 18, 3, 1, 0), (.iload_n 1, 1, 0, 0), (.iload_n 2, 1, 0, 0), (.invokevirtual 76, 3, 20, 2), (.ifCond .eq 23, 3, 32, 0)]),
  (12, [(.aload_n 0, 1, 0, 0), (.dup, 1, 0, 0), (.getfield 22, 3, 1, 3), (.iconst 1, 1, 0, 0), (.iadd, 1, 0, 0), (.putfield 22, 3, 1, 3), (.aload_n 0, 1, 0, 0), (.getfield 15, 3, 1, 2), (.iload_n 2, 1, 0, 0), (.dup2, 1, 0, 0), (.iaload, 1, 0, 0), (.iconst 1, 1, 0, 0), (.iadd, 1, 0, 0), (.iastore, 1, 0, 0)]),
  (32, [(.return_, 1, 0, 0)])]
theorem e_Guard_lookForKnight_0 {F : List rw4 → Prop} {G : Prop} : lkp F G t_Guard_lookForKnight 0 = F [(.aload_n 0, 1, 0, 0), (.getfield 18, 3, 1, 0), (.iload_n 1, 1, 0, 0), (.iload_n 2, 1, 0, 0), (.invokevirtual 76, 3, 20, 2), (.ifCond .eq 23, 3, 32, 0)] := propext Iff.rfl
theorem e_Guard_lookForKnight_12 {F : List rw4 → Prop} {G : Prop} : lkp F G t_Guard_lookForKnight 12 = F [(.aload_n 0, 1, 0, 0), (.dup, 1, 0, 0), (.getfield 22, 3, 1, 3), (.iconst 1, 1, 0, 0), (.iadd, 1, 0, 0), (.putfield 22, 3, 1, 3), (.aload_n 0, 1, 0, 0), (.getfield 15, 3, 1, 2), (.iload_n 2, 1, 0, 0), (.dup2, 1, 0, 0), (.iaload, 1, 0, 0), (.iconst 1, 1, 0, 0), (.iadd, 1, 0, 0), (.iastore, 1, 0, 0)] := propext Iff.rfl
theorem e_Guard_lookForKnight_32 {F : List rw4 → Prop} {G : Prop} : lkp F G t_Guard_lookForKnight 32 = F [(.return_, 1, 0, 0)] := propext Iff.rfl
theorem o_Guard_lookForKnight : tOk k_Guard_lookForKnight t_Guard_lookForKnight = true := by decide +kernel
/-- DroppedPieces$Guard.look(I)V; heads of loops: [23] -/
def t_Guard_look : tb4 := [
  (0, [(.aload_n 0, 1, 0, 0), (.iconst 0, 1, 0, 0), (.putfield 22, 3, 1, 3), (.aload_n 0, 1, 0, 0), (.getfield 9, 3, 1, 1), (.iconst (-1), 1, 0, 0), (.invokestatic 26, 3, 0, 2), (.aload_n 0, 1, 0, 0), (.getfield 15, 3, 1, 2), (.iconst 0, 1, 0, 0), (.invokestatic 26, 3, 0, 2), (.iconst 0, 1, 0, 0), (.istore_n 2, 1, 0, 0)]),
  (23, [(.iload_n 2, 1, 0, 0), (.bipush 8, 2, 0, 0), (.if_icmp .ge 15, 3, 41, 0)]),
  (29, [(.aload_n 0, 1, 0, 0), (.iload_n 1, 1, 0, 0), (.iload_n 2, 1, 0, 0), (.invokevirtual 32, 3, 26, 2), (.iinc 2 1, 3, 0, 0), (.goto (-15), 3, 23, 0)]),
  (41, [(.aload_n 0, 1, 0, 0), (.iconst 1, 1, 0, 0), (.iload_n 1, 1, 0, 0), (.isub, 1, 0, 0), (.iconst 1, 1, 0, 0), (.iload_n 1, 1, 0, 0), (.isub, 1, 0, 0), (.aload_n 0, 1, 0, 0), (.getfield 18, 3, 1, 0), (.getfield 36, 3, 0, 2), (.iload_n 1, 1, 0, 0), (.iaload, 1, 0, 0), (.iconst (-1), 1, 0, 0), (.invokestatic 41, 3, 19, 3), (.invokevirtual 45, 3, 27, 2), (.aload_n 0, 1, 0, 0), (.iconst 1, 1, 0, 0), (.iload_n 1, 1, 0, 0), (.isub, 1, 0, 0), (.iconst 1, 1, 0, 0), (.iload_n 1, 1, 0, 0), (.isub, 1, 0, 0), (.aload_n 0, 1, 0, 0), (.getfield 18, 3, 1, 0), (.getfield 36, 3, 0, 2), (.iload_n 1, 1, 0, 0), (.iaload, 1, 0, 0), (.iconst 1, 1, 0, 0), (.invokestatic 41, 3, 19, 3), (.invokevirtual 45, 3, 27, 2), (.return_, 1, 0, 0)])]
theorem e_Guard_look_0 {F : List rw4 → Prop} {G : Prop} : lkp F G t_Guard_look 0 = F [(.aload_n 0, 1, 0, 0), (.iconst 0, 1, 0, 0), (.putfield 22, 3, 1, 3), (.aload_n 0, 1, 0, 0), (.getfield 9, 3, 1, 1), (.iconst (-1), 1, 0, 0), (.invokestatic 26, 3, 0, 2), (.aload_n 0, 1, 0, 0), (.getfield 15, 3, 1, 2), (.iconst 0, 1, 0, 0), (.invokestatic 26, 3, 0, 2), (.iconst 0, 1, 0, 0), (.istore_n 2, 1, 0, 0)] := propext Iff.rfl
theorem e_Guard_look_23 {F : List rw4 → Prop} {G : Prop} : lkp F G t_Guard_look 23 = F [(.iload_n 2, 1, 0, 0), (.bipush 8, 2, 0, 0), (.if_icmp .ge 15, 3, 41, 0)] := propext Iff.rfl
theorem e_Guard_look_29 {F : List rw4 → Prop} {G : Prop} : lkp F G t_Guard_look 29 = F [(.aload_n 0, 1, 0, 0), (.iload_n 1, 1, 0, 0), (.iload_n 2, 1, 0, 0), (.invokevirtual 32, 3, 26, 2), (.iinc 2 1, 3, 0, 0), (.goto (-15), 3, 23, 0)] := propext Iff.rfl
theorem e_Guard_look_41 {F : List rw4 → Prop} {G : Prop} : lkp F G t_Guard_look 41 = F [(.aload_n 0, 1, 0, 0), (.iconst 1, 1, 0, 0), (.iload_n 1, 1, 0, 0), (.isub, 1, 0, 0), (.iconst 1, 1, 0, 0), (.iload_n 1, 1, 0, 0), (.isub, 1, 0, 0), (.aload_n 0, 1, 0, 0), (.getfield 18, 3, 1, 0), (.getfield 36, 3, 0, 2), (.iload_n 1, 1, 0, 0), (.iaload, 1, 0, 0), (.iconst (-1), 1, 0, 0), (.invokestatic 41, 3, 19, 3), (.invokevirtual 45, 3, 27, 2), (.aload_n 0, 1, 0, 0), (.iconst 1, 1, 0, 0), (.iload_n 1, 1, 0, 0), (.isub, 1, 0, 0), (.iconst 1, 1, 0, 0), (.iload_n 1, 1, 0, 0), (.isub, 1, 0, 0), (.aload_n 0, 1, 0, 0), (.getfield 18, 3, 1, 0), (.getfield 36, 3, 0, 2), (.iload_n 1, 1, 0, 0), (.iaload, 1, 0, 0), (.iconst 1, 1, 0, 0), (.invokestatic 41, 3, 19, 3), (.invokevirtual 45, 3, 27, 2), (.return_, 1, 0, 0)] := propext Iff.rfl
theorem o_Guard_look : tOk k_Guard_look t_Guard_look = true := by decide +kernel
/-- DroppedPieces$Pieces.neighbour(II)I; heads of loops: [] -/
def t_Pieces_neighbour : tb4 := [
  (0, [(.iload_n 0, 1, 0, 0), (.bipush 9, 2, 0, 0), (.idiv, 1, 0, 0), (.getstatic 13, 3, 100, 0), (.iload_n 1, 1, 0, 0), (.iaload, 1, 0, 0), (.iadd, 1, 0, 0), (.istore_n 2, 1, 0, 0), (.iload_n 0, 1, 0, 0), (.bipush 9, 2, 0, 0), (.irem, 1, 0, 0), (.getstatic 17, 3, 101, 0), (.iload_n 1, 1, 0, 0), (.iaload, 1, 0, 0), (.iadd, 1, 0, 0), (.istore_n 3, 1, 0, 0), (.iload_n 2, 1, 0, 0), (.iload_n 3, 1, 0, 0), (.invokestatic 20, 3, 15, 2), (.ifCond .eq 12, 3, 39, 0)]),
  (30, [(.bipush 9, 2, 0, 0), (.iload_n 2, 1, 0, 0), (.imul, 1, 0, 0), (.iload_n 3, 1, 0, 0), (.iadd, 1, 0, 0), (.goto 4, 3, 40, 0)]),
  (39, [(.iconst (-1), 1, 0, 0)]),
  (40, [(.ireturn, 1, 0, 0)])]
theorem e_Pieces_neighbour_0 {F : List rw4 → Prop} {G : Prop} : lkp F G t_Pieces_neighbour 0 = F [(.iload_n 0, 1, 0, 0), (.bipush 9, 2, 0, 0), (.idiv, 1, 0, 0), (.getstatic 13, 3, 100, 0), (.iload_n 1, 1, 0, 0), (.iaload, 1, 0, 0), (.iadd, 1, 0, 0), (.istore_n 2, 1, 0, 0), (.iload_n 0, 1, 0, 0), (.bipush 9, 2, 0, 0), (.irem, 1, 0, 0), (.getstatic 17, 3, 101, 0), (.iload_n 1, 1, 0, 0), (.iaload, 1, 0, 0), (.iadd, 1, 0, 0), (.istore_n 3, 1, 0, 0), (.iload_n 2, 1, 0, 0), (.iload_n 3, 1, 0, 0), (.invokestatic 20, 3, 15, 2), (.ifCond .eq 12, 3, 39, 0)] := propext Iff.rfl
theorem e_Pieces_neighbour_30 {F : List rw4 → Prop} {G : Prop} : lkp F G t_Pieces_neighbour 30 = F [(.bipush 9, 2, 0, 0), (.iload_n 2, 1, 0, 0), (.imul, 1, 0, 0), (.iload_n 3, 1, 0, 0), (.iadd, 1, 0, 0), (.goto 4, 3, 40, 0)] := propext Iff.rfl
theorem e_Pieces_neighbour_39 {F : List rw4 → Prop} {G : Prop} : lkp F G t_Pieces_neighbour 39 = F [(.iconst (-1), 1, 0, 0)] := propext Iff.rfl
theorem e_Pieces_neighbour_40 {F : List rw4 → Prop} {G : Prop} : lkp F G t_Pieces_neighbour 40 = F [(.ireturn, 1, 0, 0)] := propext Iff.rfl
theorem o_Pieces_neighbour : tOk k_Pieces_neighbour t_Pieces_neighbour = true := by decide +kernel
/-- DroppedPieces$MoveRow.add(IIZ)V; heads of loops: [] -/
def t_MoveRow_add : tb4 := [
  (0, [(.aload_n 0, 1, 0, 0), (.getfield 13, 3, 3, 1), (.aload_n 0, 1, 0, 0), (.getfield 7, 3, 3, 0), (.arraylength, 1, 0, 0), (.if_icmp .ge 31, 3, 40, 0)]),
  (12, [(.aload_n 0, 1, 0, 0), (.getfield 7, 3, 3, 0), (.aload_n 0, 1, 0, 0), (.getfield 13, 3, 3, 1), (.iload_n 1, 1, 0, 0), (.sipush 128, 3, 0, 0), (.iload_n 2, 1, 0, 0), (.imul, 1, 0, 0), (.iadd, 1, 0, 0), (.iload_n 3, 1, 0, 0), (.ifCond .eq 9, 3, 37, 0)]),
  (31, [(.sipush 16384, 3, 0, 0), (.goto 4, 3, 38, 0)]),
  (37, [(.iconst 0, 1, 0, 0)]),
  (38, [(.iadd, 1, 0, 0), (.iastore, 1, 0, 0)]),
  (40, [(.aload_n 0, 1, 0, 0), (.dup, 1, 0, 0), (.getfield 13, 3, 3, 1), (.iconst 1, 1, 0, 0), (.iadd, 1, 0, 0), (.putfield 13, 3, 3, 1), (.return_, 1, 0, 0)])]
theorem e_MoveRow_add_0 {F : List rw4 → Prop} {G : Prop} : lkp F G t_MoveRow_add 0 = F [(.aload_n 0, 1, 0, 0), (.getfield 13, 3, 3, 1), (.aload_n 0, 1, 0, 0), (.getfield 7, 3, 3, 0), (.arraylength, 1, 0, 0), (.if_icmp .ge 31, 3, 40, 0)] := propext Iff.rfl
theorem e_MoveRow_add_12 {F : List rw4 → Prop} {G : Prop} : lkp F G t_MoveRow_add 12 = F [(.aload_n 0, 1, 0, 0), (.getfield 7, 3, 3, 0), (.aload_n 0, 1, 0, 0), (.getfield 13, 3, 3, 1), (.iload_n 1, 1, 0, 0), (.sipush 128, 3, 0, 0), (.iload_n 2, 1, 0, 0), (.imul, 1, 0, 0), (.iadd, 1, 0, 0), (.iload_n 3, 1, 0, 0), (.ifCond .eq 9, 3, 37, 0)] := propext Iff.rfl
theorem e_MoveRow_add_31 {F : List rw4 → Prop} {G : Prop} : lkp F G t_MoveRow_add 31 = F [(.sipush 16384, 3, 0, 0), (.goto 4, 3, 38, 0)] := propext Iff.rfl
theorem e_MoveRow_add_37 {F : List rw4 → Prop} {G : Prop} : lkp F G t_MoveRow_add 37 = F [(.iconst 0, 1, 0, 0)] := propext Iff.rfl
theorem e_MoveRow_add_38 {F : List rw4 → Prop} {G : Prop} : lkp F G t_MoveRow_add 38 = F [(.iadd, 1, 0, 0), (.iastore, 1, 0, 0)] := propext Iff.rfl
theorem e_MoveRow_add_40 {F : List rw4 → Prop} {G : Prop} : lkp F G t_MoveRow_add 40 = F [(.aload_n 0, 1, 0, 0), (.dup, 1, 0, 0), (.getfield 13, 3, 3, 1), (.iconst 1, 1, 0, 0), (.iadd, 1, 0, 0), (.putfield 13, 3, 3, 1), (.return_, 1, 0, 0)] := propext Iff.rfl
theorem o_MoveRow_add : tOk k_MoveRow_add t_MoveRow_add = true := by decide +kernel
/-- DroppedPieces$Rules.addKingMoves(IILDroppedPieces$MoveRow;)V; heads of loops: [24] -/
def t_Rules_addKingMoves : tb4 := [
  (0, [(.aload_n 0, 1, 0, 0), (.getfield 13, 3, 4, 0), (.getfield 53, 3, 0, 0), (.iload_n 2, 1, 0, 0), (.iaload, 1, 0, 0), (.istore 4, 2, 0, 0), (.aload_n 0, 1, 0, 0), (.getfield 13, 3, 4, 0), (.getfield 53, 3, 0, 0), (.iload_n 2, 1, 0, 0), (.iconst 0, 1, 0, 0), (.iastore, 1, 0, 0), (.iconst 0, 1, 0, 0), (.istore 5, 2, 0, 0)]),
  (24, [(.iload 5, 2, 0, 0), (.bipush 8, 2, 0, 0), (.if_icmp .ge 66, 3, 94, 0)]),
  (31, [(.iload_n 2, 1, 0, 0), (.getstatic 82, 3, 105, 0), (.iload 5, 2, 0, 0), (.iaload, 1, 0, 0), (.invokestatic 85, 3, 29, 2), (.istore 6, 2, 0, 0), (.iload 6, 2, 0, 0), (.ifCond .lt 43, 3, 88, 0)]),
  (48, [(.iload_n 1, 1, 0, 0), (.aload_n 0, 1, 0, 0), (.getfield 13, 3, 4, 0), (.getfield 53, 3, 0, 0), (.iload 6, 2, 0, 0), (.iaload, 1, 0, 0), (.invokestatic 68, 3, 16, 2), (.ifCond .ne 26, 3, 88, 0)]),
  (65, [(.aload_n 0, 1, 0, 0), (.getfield 13, 3, 4, 0), (.iconst 1, 1, 0, 0), (.iload_n 1, 1, 0, 0), (.isub, 1, 0, 0), (.iload 6, 2, 0, 0), (.invokevirtual 88, 3, 21, 2), (.ifCond .ne 11, 3, 88, 0)]),
  (80, [(.aload_n 3, 1, 0, 0), (.iload_n 2, 1, 0, 0), (.iload 6, 2, 0, 0), (.iconst 0, 1, 0, 0), (.invokevirtual 91, 3, 30, 3)]),
  (88, [(.iinc 5 1, 3, 0, 0), (.goto (-67), 3, 24, 0)]),
  (94, [(.aload_n 0, 1, 0, 0), (.getfield 13, 3, 4, 0), (.getfield 53, 3, 0, 0), (.iload_n 2, 1, 0, 0), (.iload 4, 2, 0, 0), (.iastore, 1, 0, 0), (.return_, 1, 0, 0)])]
theorem e_Rules_addKingMoves_0 {F : List rw4 → Prop} {G : Prop} : lkp F G t_Rules_addKingMoves 0 = F [(.aload_n 0, 1, 0, 0), (.getfield 13, 3, 4, 0), (.getfield 53, 3, 0, 0), (.iload_n 2, 1, 0, 0), (.iaload, 1, 0, 0), (.istore 4, 2, 0, 0), (.aload_n 0, 1, 0, 0), (.getfield 13, 3, 4, 0), (.getfield 53, 3, 0, 0), (.iload_n 2, 1, 0, 0), (.iconst 0, 1, 0, 0), (.iastore, 1, 0, 0), (.iconst 0, 1, 0, 0), (.istore 5, 2, 0, 0)] := propext Iff.rfl
theorem e_Rules_addKingMoves_24 {F : List rw4 → Prop} {G : Prop} : lkp F G t_Rules_addKingMoves 24 = F [(.iload 5, 2, 0, 0), (.bipush 8, 2, 0, 0), (.if_icmp .ge 66, 3, 94, 0)] := propext Iff.rfl
theorem e_Rules_addKingMoves_31 {F : List rw4 → Prop} {G : Prop} : lkp F G t_Rules_addKingMoves 31 = F [(.iload_n 2, 1, 0, 0), (.getstatic 82, 3, 105, 0), (.iload 5, 2, 0, 0), (.iaload, 1, 0, 0), (.invokestatic 85, 3, 29, 2), (.istore 6, 2, 0, 0), (.iload 6, 2, 0, 0), (.ifCond .lt 43, 3, 88, 0)] := propext Iff.rfl
theorem e_Rules_addKingMoves_48 {F : List rw4 → Prop} {G : Prop} : lkp F G t_Rules_addKingMoves 48 = F [(.iload_n 1, 1, 0, 0), (.aload_n 0, 1, 0, 0), (.getfield 13, 3, 4, 0), (.getfield 53, 3, 0, 0), (.iload 6, 2, 0, 0), (.iaload, 1, 0, 0), (.invokestatic 68, 3, 16, 2), (.ifCond .ne 26, 3, 88, 0)] := propext Iff.rfl
theorem e_Rules_addKingMoves_65 {F : List rw4 → Prop} {G : Prop} : lkp F G t_Rules_addKingMoves 65 = F [(.aload_n 0, 1, 0, 0), (.getfield 13, 3, 4, 0), (.iconst 1, 1, 0, 0), (.iload_n 1, 1, 0, 0), (.isub, 1, 0, 0), (.iload 6, 2, 0, 0), (.invokevirtual 88, 3, 21, 2), (.ifCond .ne 11, 3, 88, 0)] := propext Iff.rfl
theorem e_Rules_addKingMoves_80 {F : List rw4 → Prop} {G : Prop} : lkp F G t_Rules_addKingMoves 80 = F [(.aload_n 3, 1, 0, 0), (.iload_n 2, 1, 0, 0), (.iload 6, 2, 0, 0), (.iconst 0, 1, 0, 0), (.invokevirtual 91, 3, 30, 3)] := propext Iff.rfl
theorem e_Rules_addKingMoves_88 {F : List rw4 → Prop} {G : Prop} : lkp F G t_Rules_addKingMoves 88 = F [(.iinc 5 1, 3, 0, 0), (.goto (-67), 3, 24, 0)] := propext Iff.rfl
theorem e_Rules_addKingMoves_94 {F : List rw4 → Prop} {G : Prop} : lkp F G t_Rules_addKingMoves 94 = F [(.aload_n 0, 1, 0, 0), (.getfield 13, 3, 4, 0), (.getfield 53, 3, 0, 0), (.iload_n 2, 1, 0, 0), (.iload 4, 2, 0, 0), (.iastore, 1, 0, 0), (.return_, 1, 0, 0)] := propext Iff.rfl
theorem o_Rules_addKingMoves : tOk k_Rules_addKingMoves t_Rules_addKingMoves = true := by decide +kernel
/-- DroppedPieces$Pieces.canPromote(I)Z; heads of loops: [] -/
def t_Pieces_canPromote : tb4 := [
  (0, [(.iload_n 0, 1, 0, 0), (.bipush 8, 2, 0, 0), (.if_icmp .ge 12, 3, 15, 0)]),
  (6, [(.iload_n 0, 1, 0, 0), (.iconst 5, 1, 0, 0), (.if_icmp .eq 7, 3, 15, 0)]),
  (11, [(.iconst 1, 1, 0, 0), (.goto 4, 3, 16, 0)]),
  (15, [(.iconst 0, 1, 0, 0)]),
  (16, [(.ireturn, 1, 1, 0)])]
theorem e_Pieces_canPromote_0 {F : List rw4 → Prop} {G : Prop} : lkp F G t_Pieces_canPromote 0 = F [(.iload_n 0, 1, 0, 0), (.bipush 8, 2, 0, 0), (.if_icmp .ge 12, 3, 15, 0)] := propext Iff.rfl
theorem e_Pieces_canPromote_6 {F : List rw4 → Prop} {G : Prop} : lkp F G t_Pieces_canPromote 6 = F [(.iload_n 0, 1, 0, 0), (.iconst 5, 1, 0, 0), (.if_icmp .eq 7, 3, 15, 0)] := propext Iff.rfl
theorem e_Pieces_canPromote_11 {F : List rw4 → Prop} {G : Prop} : lkp F G t_Pieces_canPromote 11 = F [(.iconst 1, 1, 0, 0), (.goto 4, 3, 16, 0)] := propext Iff.rfl
theorem e_Pieces_canPromote_15 {F : List rw4 → Prop} {G : Prop} : lkp F G t_Pieces_canPromote 15 = F [(.iconst 0, 1, 0, 0)] := propext Iff.rfl
theorem e_Pieces_canPromote_16 {F : List rw4 → Prop} {G : Prop} : lkp F G t_Pieces_canPromote 16 = F [(.ireturn, 1, 1, 0)] := propext Iff.rfl
theorem o_Pieces_canPromote : tOk k_Pieces_canPromote t_Pieces_canPromote = true := by decide +kernel
/-- DroppedPieces$Pieces.rowsAhead(II)I; heads of loops: [] -/
def t_Pieces_rowsAhead : tb4 := [
  (0, [(.iload_n 1, 1, 0, 0), (.bipush 9, 2, 0, 0), (.idiv, 1, 0, 0), (.istore_n 2, 1, 0, 0), (.iload_n 0, 1, 0, 0), (.ifCond .ne 7, 3, 13, 0)]),
  (9, [(.iload_n 2, 1, 0, 0), (.goto 7, 3, 17, 0)]),
  (13, [(.bipush 8, 2, 0, 0), (.iload_n 2, 1, 0, 0), (.isub, 1, 0, 0)]),
  (17, [(.ireturn, 1, 0, 0)])]
theorem e_Pieces_rowsAhead_0 {F : List rw4 → Prop} {G : Prop} : lkp F G t_Pieces_rowsAhead 0 = F [(.iload_n 1, 1, 0, 0), (.bipush 9, 2, 0, 0), (.idiv, 1, 0, 0), (.istore_n 2, 1, 0, 0), (.iload_n 0, 1, 0, 0), (.ifCond .ne 7, 3, 13, 0)] := propext Iff.rfl
theorem e_Pieces_rowsAhead_9 {F : List rw4 → Prop} {G : Prop} : lkp F G t_Pieces_rowsAhead 9 = F [(.iload_n 2, 1, 0, 0), (.goto 7, 3, 17, 0)] := propext Iff.rfl
theorem e_Pieces_rowsAhead_13 {F : List rw4 → Prop} {G : Prop} : lkp F G t_Pieces_rowsAhead 13 = F [(.bipush 8, 2, 0, 0), (.iload_n 2, 1, 0, 0), (.isub, 1, 0, 0)] := propext Iff.rfl
theorem e_Pieces_rowsAhead_17 {F : List rw4 → Prop} {G : Prop} : lkp F G t_Pieces_rowsAhead 17 = F [(.ireturn, 1, 0, 0)] := propext Iff.rfl
theorem o_Pieces_rowsAhead : tOk k_Pieces_rowsAhead t_Pieces_rowsAhead = true := by decide +kernel
/-- DroppedPieces$Pieces.isInZone(II)Z; heads of loops: [] -/
def t_Pieces_isInZone : tb4 := [
  (0, [(.iload_n 0, 1, 0, 0), (.iload_n 1, 1, 0, 0), (.invokestatic 9, 3, 33, 2), (.iconst 3, 1, 0, 0), (.if_icmp .ge 7, 3, 13, 0)]),
  (9, [(.iconst 1, 1, 0, 0), (.goto 4, 3, 14, 0)]),
  (13, [(.iconst 0, 1, 0, 0)]),
  (14, [(.ireturn, 1, 1, 0)])]
theorem e_Pieces_isInZone_0 {F : List rw4 → Prop} {G : Prop} : lkp F G t_Pieces_isInZone 0 = F [(.iload_n 0, 1, 0, 0), (.iload_n 1, 1, 0, 0), (.invokestatic 9, 3, 33, 2), (.iconst 3, 1, 0, 0), (.if_icmp .ge 7, 3, 13, 0)] := propext Iff.rfl
theorem e_Pieces_isInZone_9 {F : List rw4 → Prop} {G : Prop} : lkp F G t_Pieces_isInZone 9 = F [(.iconst 1, 1, 0, 0), (.goto 4, 3, 14, 0)] := propext Iff.rfl
theorem e_Pieces_isInZone_13 {F : List rw4 → Prop} {G : Prop} : lkp F G t_Pieces_isInZone 13 = F [(.iconst 0, 1, 0, 0)] := propext Iff.rfl
theorem e_Pieces_isInZone_14 {F : List rw4 → Prop} {G : Prop} : lkp F G t_Pieces_isInZone 14 = F [(.ireturn, 1, 1, 0)] := propext Iff.rfl
theorem o_Pieces_isInZone : tOk k_Pieces_isInZone t_Pieces_isInZone = true := by decide +kernel
