/-! the code of the reference, first half (by program: wip/whole/gen/code.py) -/
/-- DroppedPiecesModel.thrown()I; heads of loops: [] -/
def t_Model_thrown : tb4 := [
  (0, [(.aload_n 0, 1, 0, 0), (.getfield 39, 3, 6, 0), (.ireturn, 1, 0, 0)])]
theorem e_Model_thrown_0 {F : List rw4 → Prop} {G : Prop} : lkp F G t_Model_thrown 0 = F [(.aload_n 0, 1, 0, 0), (.getfield 39, 3, 6, 0), (.ireturn, 1, 0, 0)] := propext Iff.rfl
theorem o_Model_thrown : tOk k_Model_thrown t_Model_thrown = true := by decide +kernel
/-- DroppedPiecesModel.sizeOf(I)I; heads of loops: [] -/
def t_Model_sizeOf : tb4 := [
  (0, [(.iload_n 0, 1, 0, 0), (.ifCond .ge 8, 3, 9, 0)]),
  (4, [(.iload_n 0, 1, 0, 0), (.ineg, 1, 0, 0), (.goto 4, 3, 10, 0)]),
  (9, [(.iload_n 0, 1, 0, 0)]),
  (10, [(.ireturn, 1, 0, 0)])]
theorem e_Model_sizeOf_0 {F : List rw4 → Prop} {G : Prop} : lkp F G t_Model_sizeOf 0 = F [(.iload_n 0, 1, 0, 0), (.ifCond .ge 8, 3, 9, 0)] := propext Iff.rfl
theorem e_Model_sizeOf_4 {F : List rw4 → Prop} {G : Prop} : lkp F G t_Model_sizeOf 4 = F [(.iload_n 0, 1, 0, 0), (.ineg, 1, 0, 0), (.goto 4, 3, 10, 0)] := propext Iff.rfl
theorem e_Model_sizeOf_9 {F : List rw4 → Prop} {G : Prop} : lkp F G t_Model_sizeOf 9 = F [(.iload_n 0, 1, 0, 0)] := propext Iff.rfl
theorem e_Model_sizeOf_10 {F : List rw4 → Prop} {G : Prop} : lkp F G t_Model_sizeOf 10 = F [(.ireturn, 1, 0, 0)] := propext Iff.rfl
theorem o_Model_sizeOf : tOk k_Model_sizeOf t_Model_sizeOf = true := by decide +kernel
/-- DroppedPiecesModel.isOf(II)Z; heads of loops: [] -/
def t_Model_isOf : tb4 := [
  (0, [(.iload_n 1, 1, 0, 0), (.ifCond .ne 15, 3, 16, 0)]),
  (4, [(.iload_n 0, 1, 0, 0), (.ifCond .le 7, 3, 12, 0)]),
  (8, [(.iconst 1, 1, 0, 0), (.goto 16, 3, 25, 0)]),
  (12, [(.iconst 0, 1, 0, 0), (.goto 12, 3, 25, 0)]),
  (16, [(.iload_n 0, 1, 0, 0), (.ifCond .ge 7, 3, 24, 0)]),
  (20, [(.iconst 1, 1, 0, 0), (.goto 4, 3, 25, 0)]),
  (24, [(.iconst 0, 1, 0, 0)]),
  (25, [(.ireturn, 1, 1, 0)])]
theorem e_Model_isOf_0 {F : List rw4 → Prop} {G : Prop} : lkp F G t_Model_isOf 0 = F [(.iload_n 1, 1, 0, 0), (.ifCond .ne 15, 3, 16, 0)] := propext Iff.rfl
theorem e_Model_isOf_4 {F : List rw4 → Prop} {G : Prop} : lkp F G t_Model_isOf 4 = F [(.iload_n 0, 1, 0, 0), (.ifCond .le 7, 3, 12, 0)] := propext Iff.rfl
theorem e_Model_isOf_8 {F : List rw4 → Prop} {G : Prop} : lkp F G t_Model_isOf 8 = F [(.iconst 1, 1, 0, 0), (.goto 16, 3, 25, 0)] := propext Iff.rfl
theorem e_Model_isOf_12 {F : List rw4 → Prop} {G : Prop} : lkp F G t_Model_isOf 12 = F [(.iconst 0, 1, 0, 0), (.goto 12, 3, 25, 0)] := propext Iff.rfl
theorem e_Model_isOf_16 {F : List rw4 → Prop} {G : Prop} : lkp F G t_Model_isOf 16 = F [(.iload_n 0, 1, 0, 0), (.ifCond .ge 7, 3, 24, 0)] := propext Iff.rfl
theorem e_Model_isOf_20 {F : List rw4 → Prop} {G : Prop} : lkp F G t_Model_isOf 20 = F [(.iconst 1, 1, 0, 0), (.goto 4, 3, 25, 0)] := propext Iff.rfl
theorem e_Model_isOf_24 {F : List rw4 → Prop} {G : Prop} : lkp F G t_Model_isOf 24 = F [(.iconst 0, 1, 0, 0)] := propext Iff.rfl
theorem e_Model_isOf_25 {F : List rw4 → Prop} {G : Prop} : lkp F G t_Model_isOf 25 = F [(.ireturn, 1, 1, 0)] := propext Iff.rfl
theorem o_Model_isOf : tOk k_Model_isOf t_Model_isOf = true := by decide +kernel
/-- DroppedPiecesModel.valueOf(II)I; heads of loops: [] -/
def t_Model_valueOf : tb4 := [
  (0, [(.iload_n 1, 1, 0, 0), (.ifCond .ne 7, 3, 8, 0)]),
  (4, [(.iload_n 0, 1, 0, 0), (.goto 5, 3, 10, 0)]),
  (8, [(.iload_n 0, 1, 0, 0), (.ineg, 1, 0, 0)]),
  (10, [(.ireturn, 1, 0, 0)])]
theorem e_Model_valueOf_0 {F : List rw4 → Prop} {G : Prop} : lkp F G t_Model_valueOf 0 = F [(.iload_n 1, 1, 0, 0), (.ifCond .ne 7, 3, 8, 0)] := propext Iff.rfl
theorem e_Model_valueOf_4 {F : List rw4 → Prop} {G : Prop} : lkp F G t_Model_valueOf 4 = F [(.iload_n 0, 1, 0, 0), (.goto 5, 3, 10, 0)] := propext Iff.rfl
theorem e_Model_valueOf_8 {F : List rw4 → Prop} {G : Prop} : lkp F G t_Model_valueOf 8 = F [(.iload_n 0, 1, 0, 0), (.ineg, 1, 0, 0)] := propext Iff.rfl
theorem e_Model_valueOf_10 {F : List rw4 → Prop} {G : Prop} : lkp F G t_Model_valueOf 10 = F [(.ireturn, 1, 0, 0)] := propext Iff.rfl
theorem o_Model_valueOf : tOk k_Model_valueOf t_Model_valueOf = true := by decide +kernel
/-- DroppedPiecesModel.plain(I)I; heads of loops: [] -/
def t_Model_plain : tb4 := [
  (0, [(.iload_n 0, 1, 0, 0), (.bipush 8, 2, 0, 0), (.if_icmp .le 10, 3, 13, 0)]),
  (6, [(.iload_n 0, 1, 0, 0), (.bipush 8, 2, 0, 0), (.isub, 1, 0, 0), (.goto 4, 3, 14, 0)]),
  (13, [(.iload_n 0, 1, 0, 0)]),
  (14, [(.ireturn, 1, 0, 0)])]
theorem e_Model_plain_0 {F : List rw4 → Prop} {G : Prop} : lkp F G t_Model_plain 0 = F [(.iload_n 0, 1, 0, 0), (.bipush 8, 2, 0, 0), (.if_icmp .le 10, 3, 13, 0)] := propext Iff.rfl
theorem e_Model_plain_6 {F : List rw4 → Prop} {G : Prop} : lkp F G t_Model_plain 6 = F [(.iload_n 0, 1, 0, 0), (.bipush 8, 2, 0, 0), (.isub, 1, 0, 0), (.goto 4, 3, 14, 0)] := propext Iff.rfl
theorem e_Model_plain_13 {F : List rw4 → Prop} {G : Prop} : lkp F G t_Model_plain 13 = F [(.iload_n 0, 1, 0, 0)] := propext Iff.rfl
theorem e_Model_plain_14 {F : List rw4 → Prop} {G : Prop} : lkp F G t_Model_plain 14 = F [(.ireturn, 1, 0, 0)] := propext Iff.rfl
theorem o_Model_plain : tOk k_Model_plain t_Model_plain = true := by decide +kernel
/-- DroppedPiecesModel.isFree(II)Z; heads of loops: [71] -/
def t_Model_isFree : tb4 := [
  (0, [(.iload_n 2, 1, 0, 0), (.bipush 9, 2, 0, 0), (.idiv, 1, 0, 0), (.iload_n 1, 1, 0, 0), (.bipush 9, 2, 0, 0), (.idiv, 1, 0, 0), (.isub, 1, 0, 0), (.istore_n 3, 1, 0, 0), (.iload_n 2, 1, 0, 0), (.bipush 9, 2, 0, 0), (.irem, 1, 0, 0), (.iload_n 1, 1, 0, 0), (.bipush 9, 2, 0, 0), (.irem, 1, 0, 0), (.isub, 1, 0, 0), (.istore 4, 2, 0, 0), (.iload_n 3, 1, 0, 0), (.ifCond .le 8, 3, 30, 0)]),
  (25, [(.bipush 9, 2, 0, 0), (.goto 13, 3, 40, 0)]),
  (30, [(.iload_n 3, 1, 0, 0), (.ifCond .ge 8, 3, 39, 0)]),
  (34, [(.bipush (-9), 2, 0, 0), (.goto 4, 3, 40, 0)]),
  (39, [(.iconst 0, 1, 0, 0)]),
  (40, [(.iload 4, 2, 0, 0), (.ifCond .le 7, 3, 49, 0)]),
  (45, [(.iconst 1, 1, 0, 0), (.goto 13, 3, 59, 0)]),
  (49, [(.iload 4, 2, 0, 0), (.ifCond .ge 7, 3, 58, 0)]),
  (54, [(.iconst (-1), 1, 0, 0), (.goto 4, 3, 59, 0)]),
  (58, [(.iconst 0, 1, 0, 0)]),
  (59, [(.iadd, 1, 0, 0), (.istore 5, 2, 0, 0), (.iconst 1, 1, 0, 0), (.istore 6, 2, 0, 0), (.iload_n 1, 1, 0, 0), (.iload 5, 2, 0, 0), (.iadd, 1, 0, 0), (.istore 7, 2, 0, 0)]),
  (71, [(.iload 7, 2, 0, 0), (.iload_n 2, 1, 0, 0), (.if_icmp .eq 35, 3, 109, 0)]),
  (77, [(.iload 6, 2, 0, 0), (.ifCond .eq 30, 3, 109, 0)]),
  (82, [(.aload_n 0, 1, 0, 0), (.getfield 7, 3, 6, 1), (.iload 7, 2, 0, 0), (.iaload, 1, 0, 0), (.ifCond .ne 7, 3, 96, 0)]),
  (92, [(.iconst 1, 1, 0, 0), (.goto 4, 3, 97, 0)]),
  (96, [(.iconst 0, 1, 0, 0)]),
  (97, [(.istore 6, 2, 0, 0), (.iload 7, 2, 0, 0), (.iload 5, 2, 0, 0), (.iadd, 1, 0, 0), (.istore 7, 2, 0, 0), (.goto (-35), 3, 71, 0)]),
  (109, [(.iload 6, 2, 0, 0), (.ireturn, 1, 1, 0)])]
theorem e_Model_isFree_0 {F : List rw4 → Prop} {G : Prop} : lkp F G t_Model_isFree 0 = F [(.iload_n 2, 1, 0, 0), (.bipush 9, 2, 0, 0), (.idiv, 1, 0, 0), (.iload_n 1, 1, 0, 0), (.bipush 9, 2, 0, 0), (.idiv, 1, 0, 0), (.isub, 1, 0, 0), (.istore_n 3, 1, 0, 0), (.iload_n 2, 1, 0, 0), (.bipush 9, 2, 0, 0), (.irem, 1, 0, 0), (.iload_n 1, 1, 0, 0), (.bipush 9, 2, 0, 0), (.irem, 1, 0, 0), (.isub, 1, 0, 0), (.istore 4, 2, 0, 0), (.iload_n 3, 1, 0, 0), (.ifCond .le 8, 3, 30, 0)] := propext Iff.rfl
theorem e_Model_isFree_25 {F : List rw4 → Prop} {G : Prop} : lkp F G t_Model_isFree 25 = F [(.bipush 9, 2, 0, 0), (.goto 13, 3, 40, 0)] := propext Iff.rfl
theorem e_Model_isFree_30 {F : List rw4 → Prop} {G : Prop} : lkp F G t_Model_isFree 30 = F [(.iload_n 3, 1, 0, 0), (.ifCond .ge 8, 3, 39, 0)] := propext Iff.rfl
theorem e_Model_isFree_34 {F : List rw4 → Prop} {G : Prop} : lkp F G t_Model_isFree 34 = F [(.bipush (-9), 2, 0, 0), (.goto 4, 3, 40, 0)] := propext Iff.rfl
theorem e_Model_isFree_39 {F : List rw4 → Prop} {G : Prop} : lkp F G t_Model_isFree 39 = F [(.iconst 0, 1, 0, 0)] := propext Iff.rfl
theorem e_Model_isFree_40 {F : List rw4 → Prop} {G : Prop} : lkp F G t_Model_isFree 40 = F [(.iload 4, 2, 0, 0), (.ifCond .le 7, 3, 49, 0)] := propext Iff.rfl
theorem e_Model_isFree_45 {F : List rw4 → Prop} {G : Prop} : lkp F G t_Model_isFree 45 = F [(.iconst 1, 1, 0, 0), (.goto 13, 3, 59, 0)] := propext Iff.rfl
theorem e_Model_isFree_49 {F : List rw4 → Prop} {G : Prop} : lkp F G t_Model_isFree 49 = F [(.iload 4, 2, 0, 0), (.ifCond .ge 7, 3, 58, 0)] := propext Iff.rfl
theorem e_Model_isFree_54 {F : List rw4 → Prop} {G : Prop} : lkp F G t_Model_isFree 54 = F [(.iconst (-1), 1, 0, 0), (.goto 4, 3, 59, 0)] := propext Iff.rfl
theorem e_Model_isFree_58 {F : List rw4 → Prop} {G : Prop} : lkp F G t_Model_isFree 58 = F [(.iconst 0, 1, 0, 0)] := propext Iff.rfl
theorem e_Model_isFree_59 {F : List rw4 → Prop} {G : Prop} : lkp F G t_Model_isFree 59 = F [(.iadd, 1, 0, 0), (.istore 5, 2, 0, 0), (.iconst 1, 1, 0, 0), (.istore 6, 2, 0, 0), (.iload_n 1, 1, 0, 0), (.iload 5, 2, 0, 0), (.iadd, 1, 0, 0), (.istore 7, 2, 0, 0)] := propext Iff.rfl
theorem e_Model_isFree_71 {F : List rw4 → Prop} {G : Prop} : lkp F G t_Model_isFree 71 = F [(.iload 7, 2, 0, 0), (.iload_n 2, 1, 0, 0), (.if_icmp .eq 35, 3, 109, 0)] := propext Iff.rfl
theorem e_Model_isFree_77 {F : List rw4 → Prop} {G : Prop} : lkp F G t_Model_isFree 77 = F [(.iload 6, 2, 0, 0), (.ifCond .eq 30, 3, 109, 0)] := propext Iff.rfl
theorem e_Model_isFree_82 {F : List rw4 → Prop} {G : Prop} : lkp F G t_Model_isFree 82 = F [(.aload_n 0, 1, 0, 0), (.getfield 7, 3, 6, 1), (.iload 7, 2, 0, 0), (.iaload, 1, 0, 0), (.ifCond .ne 7, 3, 96, 0)] := propext Iff.rfl
theorem e_Model_isFree_92 {F : List rw4 → Prop} {G : Prop} : lkp F G t_Model_isFree 92 = F [(.iconst 1, 1, 0, 0), (.goto 4, 3, 97, 0)] := propext Iff.rfl
theorem e_Model_isFree_96 {F : List rw4 → Prop} {G : Prop} : lkp F G t_Model_isFree 96 = F [(.iconst 0, 1, 0, 0)] := propext Iff.rfl
theorem e_Model_isFree_97 {F : List rw4 → Prop} {G : Prop} : lkp F G t_Model_isFree 97 = F [(.istore 6, 2, 0, 0), (.iload 7, 2, 0, 0), (.iload 5, 2, 0, 0), (.iadd, 1, 0, 0), (.istore 7, 2, 0, 0), (.goto (-35), 3, 71, 0)] := propext Iff.rfl
theorem e_Model_isFree_109 {F : List rw4 → Prop} {G : Prop} : lkp F G t_Model_isFree 109 = F [(.iload 6, 2, 0, 0), (.ireturn, 1, 1, 0)] := propext Iff.rfl
theorem o_Model_isFree : tOk k_Model_isFree t_Model_isFree = true := by decide +kernel
/-- DroppedPiecesModel.isGold(II)Z; heads of loops: [] -/
def t_Model_isGold : tb4 := [
  (0, [(.iload_n 0, 1, 0, 0), (.iconst 1, 1, 0, 0), (.if_icmp .ne 8, 3, 10, 0)]),
  (5, [(.iload_n 1, 1, 0, 0), (.iconst 1, 1, 0, 0), (.if_icmp .le 21, 3, 28, 0)]),
  (10, [(.iload_n 0, 1, 0, 0), (.ifCond .ne 8, 3, 19, 0)]),
  (14, [(.iload_n 1, 1, 0, 0), (.iconst 1, 1, 0, 0), (.if_icmp .eq 12, 3, 28, 0)]),
  (19, [(.iload_n 0, 1, 0, 0), (.iconst (-1), 1, 0, 0), (.if_icmp .ne 11, 3, 32, 0)]),
  (24, [(.iload_n 1, 1, 0, 0), (.ifCond .ne 7, 3, 32, 0)]),
  (28, [(.iconst 1, 1, 0, 0), (.goto 4, 3, 33, 0)]),
  (32, [(.iconst 0, 1, 0, 0)]),
  (33, [(.ireturn, 1, 1, 0)])]
theorem e_Model_isGold_0 {F : List rw4 → Prop} {G : Prop} : lkp F G t_Model_isGold 0 = F [(.iload_n 0, 1, 0, 0), (.iconst 1, 1, 0, 0), (.if_icmp .ne 8, 3, 10, 0)] := propext Iff.rfl
theorem e_Model_isGold_5 {F : List rw4 → Prop} {G : Prop} : lkp F G t_Model_isGold 5 = F [(.iload_n 1, 1, 0, 0), (.iconst 1, 1, 0, 0), (.if_icmp .le 21, 3, 28, 0)] := propext Iff.rfl
theorem e_Model_isGold_10 {F : List rw4 → Prop} {G : Prop} : lkp F G t_Model_isGold 10 = F [(.iload_n 0, 1, 0, 0), (.ifCond .ne 8, 3, 19, 0)] := propext Iff.rfl
theorem e_Model_isGold_14 {F : List rw4 → Prop} {G : Prop} : lkp F G t_Model_isGold 14 = F [(.iload_n 1, 1, 0, 0), (.iconst 1, 1, 0, 0), (.if_icmp .eq 12, 3, 28, 0)] := propext Iff.rfl
theorem e_Model_isGold_19 {F : List rw4 → Prop} {G : Prop} : lkp F G t_Model_isGold 19 = F [(.iload_n 0, 1, 0, 0), (.iconst (-1), 1, 0, 0), (.if_icmp .ne 11, 3, 32, 0)] := propext Iff.rfl
theorem e_Model_isGold_24 {F : List rw4 → Prop} {G : Prop} : lkp F G t_Model_isGold 24 = F [(.iload_n 1, 1, 0, 0), (.ifCond .ne 7, 3, 32, 0)] := propext Iff.rfl
theorem e_Model_isGold_28 {F : List rw4 → Prop} {G : Prop} : lkp F G t_Model_isGold 28 = F [(.iconst 1, 1, 0, 0), (.goto 4, 3, 33, 0)] := propext Iff.rfl
theorem e_Model_isGold_32 {F : List rw4 → Prop} {G : Prop} : lkp F G t_Model_isGold 32 = F [(.iconst 0, 1, 0, 0)] := propext Iff.rfl
theorem e_Model_isGold_33 {F : List rw4 → Prop} {G : Prop} : lkp F G t_Model_isGold 33 = F [(.ireturn, 1, 1, 0)] := propext Iff.rfl
theorem o_Model_isGold : tOk k_Model_isGold t_Model_isGold = true := by decide +kernel
/-- DroppedPiecesModel.mayGo(IIII)Z; heads of loops: [] -/
def t_Model_mayGo : tb4 := [
  (0, [(.iload 4, 2, 0, 0), (.bipush 9, 2, 0, 0), (.idiv, 1, 0, 0), (.iload_n 3, 1, 0, 0), (.bipush 9, 2, 0, 0), (.idiv, 1, 0, 0), (.isub, 1, 0, 0), (.istore 5, 2, 0, 0), (.iload_n 2, 1, 0, 0), (.ifCond .ne 9, 3, 22, 0)]),
  (16, [(.iload 5, 2, 0, 0), (.ineg, 1, 0, 0), (.goto 5, 3, 24, 0)]),
  (22, [(.iload 5, 2, 0, 0)]),
  (24, [(.istore 6, 2, 0, 0), (.iload 5, 2, 0, 0), (.invokestatic 43, 3, 65, 1), (.istore 7, 2, 0, 0), (.iload 4, 2, 0, 0), (.bipush 9, 2, 0, 0), (.irem, 1, 0, 0), (.iload_n 3, 1, 0, 0), (.bipush 9, 2, 0, 0), (.irem, 1, 0, 0), (.isub, 1, 0, 0), (.invokestatic 43, 3, 65, 1), (.istore 8, 2, 0, 0), (.iload 7, 2, 0, 0), (.iload 8, 2, 0, 0), (.iadd, 1, 0, 0), (.ifCond .ne 5, 3, 58, 0)]),
  (56, [(.iconst 0, 1, 0, 0), (.ireturn, 1, 1, 0)]),
  (58, [(.iload_n 1, 1, 0, 0), (.tableswitch 300 1 15 #[73, 90, 116, 134, 300, 163, 186, 212, 300, 300, 300, 300, 300, 230, 262], 73, 0, 0)]),
  (132, [(.iload 6, 2, 0, 0), (.iconst 1, 1, 0, 0), (.if_icmp .ne 12, 3, 147, 0)]),
  (138, [(.iload 8, 2, 0, 0), (.ifCond .ne 7, 3, 147, 0)]),
  (143, [(.iconst 1, 1, 0, 0), (.goto 4, 3, 148, 0)]),
  (147, [(.iconst 0, 1, 0, 0)]),
  (148, [(.ireturn, 1, 1, 0)]),
  (149, [(.iload 6, 2, 0, 0), (.ifCond .le 22, 3, 173, 0)]),
  (154, [(.iload 8, 2, 0, 0), (.ifCond .ne 17, 3, 173, 0)]),
  (159, [(.aload_n 0, 1, 0, 0), (.iload_n 3, 1, 0, 0), (.iload 4, 2, 0, 0), (.invokevirtual 47, 3, 69, 2), (.ifCond .eq 7, 3, 173, 0)]),
  (169, [(.iconst 1, 1, 0, 0), (.goto 4, 3, 174, 0)]),
  (173, [(.iconst 0, 1, 0, 0)]),
  (174, [(.ireturn, 1, 1, 0)]),
  (175, [(.iload 6, 2, 0, 0), (.iconst 2, 1, 0, 0), (.if_icmp .ne 13, 3, 191, 0)]),
  (181, [(.iload 8, 2, 0, 0), (.iconst 1, 1, 0, 0), (.if_icmp .ne 7, 3, 191, 0)]),
  (187, [(.iconst 1, 1, 0, 0), (.goto 4, 3, 192, 0)]),
  (191, [(.iconst 0, 1, 0, 0)]),
  (192, [(.ireturn, 1, 1, 0)]),
  (193, [(.iload 6, 2, 0, 0), (.iconst 1, 1, 0, 0), (.if_icmp .ne 8, 3, 204, 0)]),
  (199, [(.iload 8, 2, 0, 0), (.ifCond .eq 15, 3, 216, 0)]),
  (204, [(.iload 7, 2, 0, 0), (.iconst 1, 1, 0, 0), (.if_icmp .ne 13, 3, 220, 0)]),
  (210, [(.iload 8, 2, 0, 0), (.iconst 1, 1, 0, 0), (.if_icmp .ne 7, 3, 220, 0)]),
  (216, [(.iconst 1, 1, 0, 0), (.goto 4, 3, 221, 0)]),
  (220, [(.iconst 0, 1, 0, 0)]),
  (221, [(.ireturn, 1, 1, 0)]),
  (222, [(.iload 7, 2, 0, 0), (.iload 8, 2, 0, 0), (.if_icmp .ne 17, 3, 243, 0)]),
  (229, [(.aload_n 0, 1, 0, 0), (.iload_n 3, 1, 0, 0), (.iload 4, 2, 0, 0), (.invokevirtual 47, 3, 69, 2), (.ifCond .eq 7, 3, 243, 0)]),
  (239, [(.iconst 1, 1, 0, 0), (.goto 4, 3, 244, 0)]),
  (243, [(.iconst 0, 1, 0, 0)]),
  (244, [(.ireturn, 1, 1, 0)]),
  (245, [(.iload 7, 2, 0, 0), (.ifCond .eq 8, 3, 255, 0)]),
  (250, [(.iload 8, 2, 0, 0), (.ifCond .ne 17, 3, 269, 0)]),
  (255, [(.aload_n 0, 1, 0, 0), (.iload_n 3, 1, 0, 0), (.iload 4, 2, 0, 0), (.invokevirtual 47, 3, 69, 2), (.ifCond .eq 7, 3, 269, 0)]),
  (265, [(.iconst 1, 1, 0, 0), (.goto 4, 3, 270, 0)]),
  (269, [(.iconst 0, 1, 0, 0)]),
  (270, [(.ireturn, 1, 1, 0)]),
  (271, [(.iload 7, 2, 0, 0), (.iconst 1, 1, 0, 0), (.if_icmp .gt 13, 3, 287, 0)]),
  (277, [(.iload 8, 2, 0, 0), (.iconst 1, 1, 0, 0), (.if_icmp .gt 7, 3, 287, 0)]),
  (283, [(.iconst 1, 1, 0, 0), (.goto 4, 3, 288, 0)]),
  (287, [(.iconst 0, 1, 0, 0)]),
  (288, [(.ireturn, 1, 1, 0)]),
  (289, [(.iload 7, 2, 0, 0), (.iload 8, 2, 0, 0), (.iadd, 1, 0, 0), (.iconst 1, 1, 0, 0), (.if_icmp .eq 20, 3, 315, 0)]),
  (298, [(.iload 7, 2, 0, 0), (.iload 8, 2, 0, 0), (.if_icmp .ne 17, 3, 319, 0)]),
  (305, [(.aload_n 0, 1, 0, 0), (.iload_n 3, 1, 0, 0), (.iload 4, 2, 0, 0), (.invokevirtual 47, 3, 69, 2), (.ifCond .eq 7, 3, 319, 0)]),
  (315, [(.iconst 1, 1, 0, 0), (.goto 4, 3, 320, 0)]),
  (319, [(.iconst 0, 1, 0, 0)]),
  (320, [(.ireturn, 1, 1, 0)]),
  (321, [(.iload 7, 2, 0, 0), (.iconst 1, 1, 0, 0), (.if_icmp .ne 9, 3, 333, 0)]),
  (327, [(.iload 8, 2, 0, 0), (.iconst 1, 1, 0, 0), (.if_icmp .eq 23, 3, 353, 0)]),
  (333, [(.iload 7, 2, 0, 0), (.ifCond .eq 8, 3, 343, 0)]),
  (338, [(.iload 8, 2, 0, 0), (.ifCond .ne 17, 3, 357, 0)]),
  (343, [(.aload_n 0, 1, 0, 0), (.iload_n 3, 1, 0, 0), (.iload 4, 2, 0, 0), (.invokevirtual 47, 3, 69, 2), (.ifCond .eq 7, 3, 357, 0)]),
  (353, [(.iconst 1, 1, 0, 0), (.goto 4, 3, 358, 0)]),
  (357, [(.iconst 0, 1, 0, 0)]),
  (358, [(.ireturn, 1, 1, 0)]),
  (359, [(.iload 6, 2, 0, 0), (.iload 8, 2, 0, 0), (.invokestatic 51, 3, 70, 2), (.ireturn, 1, 1, 0)])]
theorem e_Model_mayGo_0 {F : List rw4 → Prop} {G : Prop} : lkp F G t_Model_mayGo 0 = F [(.iload 4, 2, 0, 0), (.bipush 9, 2, 0, 0), (.idiv, 1, 0, 0), (.iload_n 3, 1, 0, 0), (.bipush 9, 2, 0, 0), (.idiv, 1, 0, 0), (.isub, 1, 0, 0), (.istore 5, 2, 0, 0), (.iload_n 2, 1, 0, 0), (.ifCond .ne 9, 3, 22, 0)] := propext Iff.rfl
theorem e_Model_mayGo_16 {F : List rw4 → Prop} {G : Prop} : lkp F G t_Model_mayGo 16 = F [(.iload 5, 2, 0, 0), (.ineg, 1, 0, 0), (.goto 5, 3, 24, 0)] := propext Iff.rfl
theorem e_Model_mayGo_22 {F : List rw4 → Prop} {G : Prop} : lkp F G t_Model_mayGo 22 = F [(.iload 5, 2, 0, 0)] := propext Iff.rfl
theorem e_Model_mayGo_24 {F : List rw4 → Prop} {G : Prop} : lkp F G t_Model_mayGo 24 = F [(.istore 6, 2, 0, 0), (.iload 5, 2, 0, 0), (.invokestatic 43, 3, 65, 1), (.istore 7, 2, 0, 0), (.iload 4, 2, 0, 0), (.bipush 9, 2, 0, 0), (.irem, 1, 0, 0), (.iload_n 3, 1, 0, 0), (.bipush 9, 2, 0, 0), (.irem, 1, 0, 0), (.isub, 1, 0, 0), (.invokestatic 43, 3, 65, 1), (.istore 8, 2, 0, 0), (.iload 7, 2, 0, 0), (.iload 8, 2, 0, 0), (.iadd, 1, 0, 0), (.ifCond .ne 5, 3, 58, 0)] := propext Iff.rfl
theorem e_Model_mayGo_56 {F : List rw4 → Prop} {G : Prop} : lkp F G t_Model_mayGo 56 = F [(.iconst 0, 1, 0, 0), (.ireturn, 1, 1, 0)] := propext Iff.rfl
theorem e_Model_mayGo_58 {F : List rw4 → Prop} {G : Prop} : lkp F G t_Model_mayGo 58 = F [(.iload_n 1, 1, 0, 0), (.tableswitch 300 1 15 #[73, 90, 116, 134, 300, 163, 186, 212, 300, 300, 300, 300, 300, 230, 262], 73, 0, 0)] := propext Iff.rfl
theorem e_Model_mayGo_132 {F : List rw4 → Prop} {G : Prop} : lkp F G t_Model_mayGo 132 = F [(.iload 6, 2, 0, 0), (.iconst 1, 1, 0, 0), (.if_icmp .ne 12, 3, 147, 0)] := propext Iff.rfl
theorem e_Model_mayGo_138 {F : List rw4 → Prop} {G : Prop} : lkp F G t_Model_mayGo 138 = F [(.iload 8, 2, 0, 0), (.ifCond .ne 7, 3, 147, 0)] := propext Iff.rfl
theorem e_Model_mayGo_143 {F : List rw4 → Prop} {G : Prop} : lkp F G t_Model_mayGo 143 = F [(.iconst 1, 1, 0, 0), (.goto 4, 3, 148, 0)] := propext Iff.rfl
theorem e_Model_mayGo_147 {F : List rw4 → Prop} {G : Prop} : lkp F G t_Model_mayGo 147 = F [(.iconst 0, 1, 0, 0)] := propext Iff.rfl
theorem e_Model_mayGo_148 {F : List rw4 → Prop} {G : Prop} : lkp F G t_Model_mayGo 148 = F [(.ireturn, 1, 1, 0)] := propext Iff.rfl
theorem e_Model_mayGo_149 {F : List rw4 → Prop} {G : Prop} : lkp F G t_Model_mayGo 149 = F [(.iload 6, 2, 0, 0), (.ifCond .le 22, 3, 173, 0)] := propext Iff.rfl
theorem e_Model_mayGo_154 {F : List rw4 → Prop} {G : Prop} : lkp F G t_Model_mayGo 154 = F [(.iload 8, 2, 0, 0), (.ifCond .ne 17, 3, 173, 0)] := propext Iff.rfl
theorem e_Model_mayGo_159 {F : List rw4 → Prop} {G : Prop} : lkp F G t_Model_mayGo 159 = F [(.aload_n 0, 1, 0, 0), (.iload_n 3, 1, 0, 0), (.iload 4, 2, 0, 0), (.invokevirtual 47, 3, 69, 2), (.ifCond .eq 7, 3, 173, 0)] := propext Iff.rfl
theorem e_Model_mayGo_169 {F : List rw4 → Prop} {G : Prop} : lkp F G t_Model_mayGo 169 = F [(.iconst 1, 1, 0, 0), (.goto 4, 3, 174, 0)] := propext Iff.rfl
theorem e_Model_mayGo_173 {F : List rw4 → Prop} {G : Prop} : lkp F G t_Model_mayGo 173 = F [(.iconst 0, 1, 0, 0)] := propext Iff.rfl
theorem e_Model_mayGo_174 {F : List rw4 → Prop} {G : Prop} : lkp F G t_Model_mayGo 174 = F [(.ireturn, 1, 1, 0)] := propext Iff.rfl
theorem e_Model_mayGo_175 {F : List rw4 → Prop} {G : Prop} : lkp F G t_Model_mayGo 175 = F [(.iload 6, 2, 0, 0), (.iconst 2, 1, 0, 0), (.if_icmp .ne 13, 3, 191, 0)] := propext Iff.rfl
theorem e_Model_mayGo_181 {F : List rw4 → Prop} {G : Prop} : lkp F G t_Model_mayGo 181 = F [(.iload 8, 2, 0, 0), (.iconst 1, 1, 0, 0), (.if_icmp .ne 7, 3, 191, 0)] := propext Iff.rfl
theorem e_Model_mayGo_187 {F : List rw4 → Prop} {G : Prop} : lkp F G t_Model_mayGo 187 = F [(.iconst 1, 1, 0, 0), (.goto 4, 3, 192, 0)] := propext Iff.rfl
theorem e_Model_mayGo_191 {F : List rw4 → Prop} {G : Prop} : lkp F G t_Model_mayGo 191 = F [(.iconst 0, 1, 0, 0)] := propext Iff.rfl
theorem e_Model_mayGo_192 {F : List rw4 → Prop} {G : Prop} : lkp F G t_Model_mayGo 192 = F [(.ireturn, 1, 1, 0)] := propext Iff.rfl
theorem e_Model_mayGo_193 {F : List rw4 → Prop} {G : Prop} : lkp F G t_Model_mayGo 193 = F [(.iload 6, 2, 0, 0), (.iconst 1, 1, 0, 0), (.if_icmp .ne 8, 3, 204, 0)] := propext Iff.rfl
theorem e_Model_mayGo_199 {F : List rw4 → Prop} {G : Prop} : lkp F G t_Model_mayGo 199 = F [(.iload 8, 2, 0, 0), (.ifCond .eq 15, 3, 216, 0)] := propext Iff.rfl
theorem e_Model_mayGo_204 {F : List rw4 → Prop} {G : Prop} : lkp F G t_Model_mayGo 204 = F [(.iload 7, 2, 0, 0), (.iconst 1, 1, 0, 0), (.if_icmp .ne 13, 3, 220, 0)] := propext Iff.rfl
theorem e_Model_mayGo_210 {F : List rw4 → Prop} {G : Prop} : lkp F G t_Model_mayGo 210 = F [(.iload 8, 2, 0, 0), (.iconst 1, 1, 0, 0), (.if_icmp .ne 7, 3, 220, 0)] := propext Iff.rfl
theorem e_Model_mayGo_216 {F : List rw4 → Prop} {G : Prop} : lkp F G t_Model_mayGo 216 = F [(.iconst 1, 1, 0, 0), (.goto 4, 3, 221, 0)] := propext Iff.rfl
theorem e_Model_mayGo_220 {F : List rw4 → Prop} {G : Prop} : lkp F G t_Model_mayGo 220 = F [(.iconst 0, 1, 0, 0)] := propext Iff.rfl
theorem e_Model_mayGo_221 {F : List rw4 → Prop} {G : Prop} : lkp F G t_Model_mayGo 221 = F [(.ireturn, 1, 1, 0)] := propext Iff.rfl
theorem e_Model_mayGo_222 {F : List rw4 → Prop} {G : Prop} : lkp F G t_Model_mayGo 222 = F [(.iload 7, 2, 0, 0), (.iload 8, 2, 0, 0), (.if_icmp .ne 17, 3, 243, 0)] := propext Iff.rfl
theorem e_Model_mayGo_229 {F : List rw4 → Prop} {G : Prop} : lkp F G t_Model_mayGo 229 = F [(.aload_n 0, 1, 0, 0), (.iload_n 3, 1, 0, 0), (.iload 4, 2, 0, 0), (.invokevirtual 47, 3, 69, 2), (.ifCond .eq 7, 3, 243, 0)] := propext Iff.rfl
theorem e_Model_mayGo_239 {F : List rw4 → Prop} {G : Prop} : lkp F G t_Model_mayGo 239 = F [(.iconst 1, 1, 0, 0), (.goto 4, 3, 244, 0)] := propext Iff.rfl
theorem e_Model_mayGo_243 {F : List rw4 → Prop} {G : Prop} : lkp F G t_Model_mayGo 243 = F [(.iconst 0, 1, 0, 0)] := propext Iff.rfl
theorem e_Model_mayGo_244 {F : List rw4 → Prop} {G : Prop} : lkp F G t_Model_mayGo 244 = F [(.ireturn, 1, 1, 0)] := propext Iff.rfl
theorem e_Model_mayGo_245 {F : List rw4 → Prop} {G : Prop} : lkp F G t_Model_mayGo 245 = F [(.iload 7, 2, 0, 0), (.ifCond .eq 8, 3, 255, 0)] := propext Iff.rfl
theorem e_Model_mayGo_250 {F : List rw4 → Prop} {G : Prop} : lkp F G t_Model_mayGo 250 = F [(.iload 8, 2, 0, 0), (.ifCond .ne 17, 3, 269, 0)] := propext Iff.rfl
theorem e_Model_mayGo_255 {F : List rw4 → Prop} {G : Prop} : lkp F G t_Model_mayGo 255 = F [(.aload_n 0, 1, 0, 0), (.iload_n 3, 1, 0, 0), (.iload 4, 2, 0, 0), (.invokevirtual 47, 3, 69, 2), (.ifCond .eq 7, 3, 269, 0)] := propext Iff.rfl
theorem e_Model_mayGo_265 {F : List rw4 → Prop} {G : Prop} : lkp F G t_Model_mayGo 265 = F [(.iconst 1, 1, 0, 0), (.goto 4, 3, 270, 0)] := propext Iff.rfl
theorem e_Model_mayGo_269 {F : List rw4 → Prop} {G : Prop} : lkp F G t_Model_mayGo 269 = F [(.iconst 0, 1, 0, 0)] := propext Iff.rfl
theorem e_Model_mayGo_270 {F : List rw4 → Prop} {G : Prop} : lkp F G t_Model_mayGo 270 = F [(.ireturn, 1, 1, 0)] := propext Iff.rfl
theorem e_Model_mayGo_271 {F : List rw4 → Prop} {G : Prop} : lkp F G t_Model_mayGo 271 = F [(.iload 7, 2, 0, 0), (.iconst 1, 1, 0, 0), (.if_icmp .gt 13, 3, 287, 0)] := propext Iff.rfl
theorem e_Model_mayGo_277 {F : List rw4 → Prop} {G : Prop} : lkp F G t_Model_mayGo 277 = F [(.iload 8, 2, 0, 0), (.iconst 1, 1, 0, 0), (.if_icmp .gt 7, 3, 287, 0)] := propext Iff.rfl
theorem e_Model_mayGo_283 {F : List rw4 → Prop} {G : Prop} : lkp F G t_Model_mayGo 283 = F [(.iconst 1, 1, 0, 0), (.goto 4, 3, 288, 0)] := propext Iff.rfl
theorem e_Model_mayGo_287 {F : List rw4 → Prop} {G : Prop} : lkp F G t_Model_mayGo 287 = F [(.iconst 0, 1, 0, 0)] := propext Iff.rfl
theorem e_Model_mayGo_288 {F : List rw4 → Prop} {G : Prop} : lkp F G t_Model_mayGo 288 = F [(.ireturn, 1, 1, 0)] := propext Iff.rfl
theorem e_Model_mayGo_289 {F : List rw4 → Prop} {G : Prop} : lkp F G t_Model_mayGo 289 = F [(.iload 7, 2, 0, 0), (.iload 8, 2, 0, 0), (.iadd, 1, 0, 0), (.iconst 1, 1, 0, 0), (.if_icmp .eq 20, 3, 315, 0)] := propext Iff.rfl
theorem e_Model_mayGo_298 {F : List rw4 → Prop} {G : Prop} : lkp F G t_Model_mayGo 298 = F [(.iload 7, 2, 0, 0), (.iload 8, 2, 0, 0), (.if_icmp .ne 17, 3, 319, 0)] := propext Iff.rfl
theorem e_Model_mayGo_305 {F : List rw4 → Prop} {G : Prop} : lkp F G t_Model_mayGo 305 = F [(.aload_n 0, 1, 0, 0), (.iload_n 3, 1, 0, 0), (.iload 4, 2, 0, 0), (.invokevirtual 47, 3, 69, 2), (.ifCond .eq 7, 3, 319, 0)] := propext Iff.rfl
theorem e_Model_mayGo_315 {F : List rw4 → Prop} {G : Prop} : lkp F G t_Model_mayGo 315 = F [(.iconst 1, 1, 0, 0), (.goto 4, 3, 320, 0)] := propext Iff.rfl
theorem e_Model_mayGo_319 {F : List rw4 → Prop} {G : Prop} : lkp F G t_Model_mayGo 319 = F [(.iconst 0, 1, 0, 0)] := propext Iff.rfl
theorem e_Model_mayGo_320 {F : List rw4 → Prop} {G : Prop} : lkp F G t_Model_mayGo 320 = F [(.ireturn, 1, 1, 0)] := propext Iff.rfl
theorem e_Model_mayGo_321 {F : List rw4 → Prop} {G : Prop} : lkp F G t_Model_mayGo 321 = F [(.iload 7, 2, 0, 0), (.iconst 1, 1, 0, 0), (.if_icmp .ne 9, 3, 333, 0)] := propext Iff.rfl
theorem e_Model_mayGo_327 {F : List rw4 → Prop} {G : Prop} : lkp F G t_Model_mayGo 327 = F [(.iload 8, 2, 0, 0), (.iconst 1, 1, 0, 0), (.if_icmp .eq 23, 3, 353, 0)] := propext Iff.rfl
theorem e_Model_mayGo_333 {F : List rw4 → Prop} {G : Prop} : lkp F G t_Model_mayGo 333 = F [(.iload 7, 2, 0, 0), (.ifCond .eq 8, 3, 343, 0)] := propext Iff.rfl
theorem e_Model_mayGo_338 {F : List rw4 → Prop} {G : Prop} : lkp F G t_Model_mayGo 338 = F [(.iload 8, 2, 0, 0), (.ifCond .ne 17, 3, 357, 0)] := propext Iff.rfl
theorem e_Model_mayGo_343 {F : List rw4 → Prop} {G : Prop} : lkp F G t_Model_mayGo 343 = F [(.aload_n 0, 1, 0, 0), (.iload_n 3, 1, 0, 0), (.iload 4, 2, 0, 0), (.invokevirtual 47, 3, 69, 2), (.ifCond .eq 7, 3, 357, 0)] := propext Iff.rfl
theorem e_Model_mayGo_353 {F : List rw4 → Prop} {G : Prop} : lkp F G t_Model_mayGo 353 = F [(.iconst 1, 1, 0, 0), (.goto 4, 3, 358, 0)] := propext Iff.rfl
theorem e_Model_mayGo_357 {F : List rw4 → Prop} {G : Prop} : lkp F G t_Model_mayGo 357 = F [(.iconst 0, 1, 0, 0)] := propext Iff.rfl
theorem e_Model_mayGo_358 {F : List rw4 → Prop} {G : Prop} : lkp F G t_Model_mayGo 358 = F [(.ireturn, 1, 1, 0)] := propext Iff.rfl
theorem e_Model_mayGo_359 {F : List rw4 → Prop} {G : Prop} : lkp F G t_Model_mayGo 359 = F [(.iload 6, 2, 0, 0), (.iload 8, 2, 0, 0), (.invokestatic 51, 3, 70, 2), (.ireturn, 1, 1, 0)] := propext Iff.rfl
theorem o_Model_mayGo : tOk k_Model_mayGo t_Model_mayGo = true := by decide +kernel
/-- DroppedPiecesModel.attacks(II)Z; heads of loops: [5] -/
def t_Model_attacks : tb4 := [
  (0, [(.iconst 0, 1, 0, 0), (.istore_n 3, 1, 0, 0), (.iconst 0, 1, 0, 0), (.istore 4, 2, 0, 0)]),
  (5, [(.iload 4, 2, 0, 0), (.bipush 81, 2, 0, 0), (.if_icmp .ge 54, 3, 63, 0)]),
  (12, [(.iload_n 3, 1, 0, 0), (.ifCond .ne 50, 3, 63, 0)]),
  (16, [(.aload_n 0, 1, 0, 0), (.getfield 7, 3, 6, 1), (.iload 4, 2, 0, 0), (.iaload, 1, 0, 0), (.iload_n 1, 1, 0, 0), (.invokestatic 54, 3, 66, 2), (.ifCond .eq 28, 3, 55, 0)]),
  (30, [(.aload_n 0, 1, 0, 0), (.aload_n 0, 1, 0, 0), (.getfield 7, 3, 6, 1), (.iload 4, 2, 0, 0), (.iaload, 1, 0, 0), (.invokestatic 43, 3, 65, 1), (.iload_n 1, 1, 0, 0), (.iload 4, 2, 0, 0), (.iload_n 2, 1, 0, 0), (.invokevirtual 57, 3, 71, 4), (.ifCond .eq 7, 3, 55, 0)]),
  (51, [(.iconst 1, 1, 0, 0), (.goto 4, 3, 56, 0)]),
  (55, [(.iconst 0, 1, 0, 0)]),
  (56, [(.istore_n 3, 1, 0, 0), (.iinc 4 1, 3, 0, 0), (.goto (-55), 3, 5, 0)]),
  (63, [(.iload_n 3, 1, 0, 0), (.ireturn, 1, 1, 0)])]
theorem e_Model_attacks_0 {F : List rw4 → Prop} {G : Prop} : lkp F G t_Model_attacks 0 = F [(.iconst 0, 1, 0, 0), (.istore_n 3, 1, 0, 0), (.iconst 0, 1, 0, 0), (.istore 4, 2, 0, 0)] := propext Iff.rfl
theorem e_Model_attacks_5 {F : List rw4 → Prop} {G : Prop} : lkp F G t_Model_attacks 5 = F [(.iload 4, 2, 0, 0), (.bipush 81, 2, 0, 0), (.if_icmp .ge 54, 3, 63, 0)] := propext Iff.rfl
theorem e_Model_attacks_12 {F : List rw4 → Prop} {G : Prop} : lkp F G t_Model_attacks 12 = F [(.iload_n 3, 1, 0, 0), (.ifCond .ne 50, 3, 63, 0)] := propext Iff.rfl
theorem e_Model_attacks_16 {F : List rw4 → Prop} {G : Prop} : lkp F G t_Model_attacks 16 = F [(.aload_n 0, 1, 0, 0), (.getfield 7, 3, 6, 1), (.iload 4, 2, 0, 0), (.iaload, 1, 0, 0), (.iload_n 1, 1, 0, 0), (.invokestatic 54, 3, 66, 2), (.ifCond .eq 28, 3, 55, 0)] := propext Iff.rfl
theorem e_Model_attacks_30 {F : List rw4 → Prop} {G : Prop} : lkp F G t_Model_attacks 30 = F [(.aload_n 0, 1, 0, 0), (.aload_n 0, 1, 0, 0), (.getfield 7, 3, 6, 1), (.iload 4, 2, 0, 0), (.iaload, 1, 0, 0), (.invokestatic 43, 3, 65, 1), (.iload_n 1, 1, 0, 0), (.iload 4, 2, 0, 0), (.iload_n 2, 1, 0, 0), (.invokevirtual 57, 3, 71, 4), (.ifCond .eq 7, 3, 55, 0)] := propext Iff.rfl
theorem e_Model_attacks_51 {F : List rw4 → Prop} {G : Prop} : lkp F G t_Model_attacks 51 = F [(.iconst 1, 1, 0, 0), (.goto 4, 3, 56, 0)] := propext Iff.rfl
theorem e_Model_attacks_55 {F : List rw4 → Prop} {G : Prop} : lkp F G t_Model_attacks 55 = F [(.iconst 0, 1, 0, 0)] := propext Iff.rfl
theorem e_Model_attacks_56 {F : List rw4 → Prop} {G : Prop} : lkp F G t_Model_attacks 56 = F [(.istore_n 3, 1, 0, 0), (.iinc 4 1, 3, 0, 0), (.goto (-55), 3, 5, 0)] := propext Iff.rfl
theorem e_Model_attacks_63 {F : List rw4 → Prop} {G : Prop} : lkp F G t_Model_attacks 63 = F [(.iload_n 3, 1, 0, 0), (.ireturn, 1, 1, 0)] := propext Iff.rfl
theorem o_Model_attacks : tOk k_Model_attacks t_Model_attacks = true := by decide +kernel
/-- DroppedPiecesModel.isAttacked(I)Z; heads of loops: [] -/
def t_Model_isAttacked : tb4 := [
  (0, [(.aload_n 0, 1, 0, 0), (.iconst 1, 1, 0, 0), (.iload_n 1, 1, 0, 0), (.isub, 1, 0, 0), (.aload_n 0, 1, 0, 0), (.getfield 16, 3, 6, 3), (.iload_n 1, 1, 0, 0), (.iaload, 1, 0, 0), (.invokevirtual 61, 3, 72, 2), (.ireturn, 1, 1, 0)])]
theorem e_Model_isAttacked_0 {F : List rw4 → Prop} {G : Prop} : lkp F G t_Model_isAttacked 0 = F [(.aload_n 0, 1, 0, 0), (.iconst 1, 1, 0, 0), (.iload_n 1, 1, 0, 0), (.isub, 1, 0, 0), (.aload_n 0, 1, 0, 0), (.getfield 16, 3, 6, 3), (.iload_n 1, 1, 0, 0), (.iaload, 1, 0, 0), (.invokevirtual 61, 3, 72, 2), (.ireturn, 1, 1, 0)] := propext Iff.rfl
theorem o_Model_isAttacked : tOk k_Model_isAttacked t_Model_isAttacked = true := by decide +kernel
/-- DroppedPiecesModel.rowsAhead(II)I; heads of loops: [] -/
def t_Model_rowsAhead : tb4 := [
  (0, [(.iload_n 0, 1, 0, 0), (.ifCond .ne 10, 3, 11, 0)]),
  (4, [(.iload_n 1, 1, 0, 0), (.bipush 9, 2, 0, 0), (.idiv, 1, 0, 0), (.goto 10, 3, 18, 0)]),
  (11, [(.bipush 8, 2, 0, 0), (.iload_n 1, 1, 0, 0), (.bipush 9, 2, 0, 0), (.idiv, 1, 0, 0), (.isub, 1, 0, 0)]),
  (18, [(.ireturn, 1, 0, 0)])]
theorem e_Model_rowsAhead_0 {F : List rw4 → Prop} {G : Prop} : lkp F G t_Model_rowsAhead 0 = F [(.iload_n 0, 1, 0, 0), (.ifCond .ne 10, 3, 11, 0)] := propext Iff.rfl
theorem e_Model_rowsAhead_4 {F : List rw4 → Prop} {G : Prop} : lkp F G t_Model_rowsAhead 4 = F [(.iload_n 1, 1, 0, 0), (.bipush 9, 2, 0, 0), (.idiv, 1, 0, 0), (.goto 10, 3, 18, 0)] := propext Iff.rfl
theorem e_Model_rowsAhead_11 {F : List rw4 → Prop} {G : Prop} : lkp F G t_Model_rowsAhead 11 = F [(.bipush 8, 2, 0, 0), (.iload_n 1, 1, 0, 0), (.bipush 9, 2, 0, 0), (.idiv, 1, 0, 0), (.isub, 1, 0, 0)] := propext Iff.rfl
theorem e_Model_rowsAhead_18 {F : List rw4 → Prop} {G : Prop} : lkp F G t_Model_rowsAhead 18 = F [(.ireturn, 1, 0, 0)] := propext Iff.rfl
theorem o_Model_rowsAhead : tOk k_Model_rowsAhead t_Model_rowsAhead = true := by decide +kernel
/-- DroppedPiecesModel.isStuck(III)Z; heads of loops: [] -/
def t_Model_isStuck : tb4 := [
  (0, [(.iload_n 1, 1, 0, 0), (.iload_n 2, 1, 0, 0), (.invokestatic 64, 3, 74, 2), (.istore_n 3, 1, 0, 0), (.iload_n 0, 1, 0, 0), (.iconst 1, 1, 0, 0), (.if_icmp .eq 8, 3, 16, 0)]),
  (11, [(.iload_n 0, 1, 0, 0), (.iconst 2, 1, 0, 0), (.if_icmp .ne 7, 3, 20, 0)]),
  (16, [(.iload_n 3, 1, 0, 0), (.ifCond .eq 13, 3, 30, 0)]),
  (20, [(.iload_n 0, 1, 0, 0), (.iconst 3, 1, 0, 0), (.if_icmp .ne 12, 3, 34, 0)]),
  (25, [(.iload_n 3, 1, 0, 0), (.iconst 2, 1, 0, 0), (.if_icmp .ge 7, 3, 34, 0)]),
  (30, [(.iconst 1, 1, 0, 0), (.goto 4, 3, 35, 0)]),
  (34, [(.iconst 0, 1, 0, 0)]),
  (35, [(.ireturn, 1, 1, 0)])]
theorem e_Model_isStuck_0 {F : List rw4 → Prop} {G : Prop} : lkp F G t_Model_isStuck 0 = F [(.iload_n 1, 1, 0, 0), (.iload_n 2, 1, 0, 0), (.invokestatic 64, 3, 74, 2), (.istore_n 3, 1, 0, 0), (.iload_n 0, 1, 0, 0), (.iconst 1, 1, 0, 0), (.if_icmp .eq 8, 3, 16, 0)] := propext Iff.rfl
theorem e_Model_isStuck_11 {F : List rw4 → Prop} {G : Prop} : lkp F G t_Model_isStuck 11 = F [(.iload_n 0, 1, 0, 0), (.iconst 2, 1, 0, 0), (.if_icmp .ne 7, 3, 20, 0)] := propext Iff.rfl
theorem e_Model_isStuck_16 {F : List rw4 → Prop} {G : Prop} : lkp F G t_Model_isStuck 16 = F [(.iload_n 3, 1, 0, 0), (.ifCond .eq 13, 3, 30, 0)] := propext Iff.rfl
theorem e_Model_isStuck_20 {F : List rw4 → Prop} {G : Prop} : lkp F G t_Model_isStuck 20 = F [(.iload_n 0, 1, 0, 0), (.iconst 3, 1, 0, 0), (.if_icmp .ne 12, 3, 34, 0)] := propext Iff.rfl
theorem e_Model_isStuck_25 {F : List rw4 → Prop} {G : Prop} : lkp F G t_Model_isStuck 25 = F [(.iload_n 3, 1, 0, 0), (.iconst 2, 1, 0, 0), (.if_icmp .ge 7, 3, 34, 0)] := propext Iff.rfl
theorem e_Model_isStuck_30 {F : List rw4 → Prop} {G : Prop} : lkp F G t_Model_isStuck 30 = F [(.iconst 1, 1, 0, 0), (.goto 4, 3, 35, 0)] := propext Iff.rfl
theorem e_Model_isStuck_34 {F : List rw4 → Prop} {G : Prop} : lkp F G t_Model_isStuck 34 = F [(.iconst 0, 1, 0, 0)] := propext Iff.rfl
theorem e_Model_isStuck_35 {F : List rw4 → Prop} {G : Prop} : lkp F G t_Model_isStuck 35 = F [(.ireturn, 1, 1, 0)] := propext Iff.rfl
theorem o_Model_isStuck : tOk k_Model_isStuck t_Model_isStuck = true := by decide +kernel
/-- DroppedPiecesModel.hasPawn(II)Z; heads of loops: [5] -/
def t_Model_hasPawn : tb4 := [
  (0, [(.iconst 0, 1, 0, 0), (.istore_n 3, 1, 0, 0), (.iconst 0, 1, 0, 0), (.istore 4, 2, 0, 0)]),
  (5, [(.iload 4, 2, 0, 0), (.bipush 9, 2, 0, 0), (.if_icmp .ge 39, 3, 48, 0)]),
  (12, [(.iload_n 3, 1, 0, 0), (.ifCond .ne 23, 3, 36, 0)]),
  (16, [(.aload_n 0, 1, 0, 0), (.getfield 7, 3, 6, 1), (.bipush 9, 2, 0, 0), (.iload 4, 2, 0, 0), (.imul, 1, 0, 0), (.iload_n 2, 1, 0, 0), (.iadd, 1, 0, 0), (.iaload, 1, 0, 0), (.iconst 1, 1, 0, 0), (.iload_n 1, 1, 0, 0), (.invokestatic 68, 3, 67, 2), (.if_icmp .ne 7, 3, 40, 0)]),
  (36, [(.iconst 1, 1, 0, 0), (.goto 4, 3, 41, 0)]),
  (40, [(.iconst 0, 1, 0, 0)]),
  (41, [(.istore_n 3, 1, 0, 0), (.iinc 4 1, 3, 0, 0), (.goto (-40), 3, 5, 0)]),
  (48, [(.iload_n 3, 1, 0, 0), (.ireturn, 1, 1, 0)])]
theorem e_Model_hasPawn_0 {F : List rw4 → Prop} {G : Prop} : lkp F G t_Model_hasPawn 0 = F [(.iconst 0, 1, 0, 0), (.istore_n 3, 1, 0, 0), (.iconst 0, 1, 0, 0), (.istore 4, 2, 0, 0)] := propext Iff.rfl
theorem e_Model_hasPawn_5 {F : List rw4 → Prop} {G : Prop} : lkp F G t_Model_hasPawn 5 = F [(.iload 4, 2, 0, 0), (.bipush 9, 2, 0, 0), (.if_icmp .ge 39, 3, 48, 0)] := propext Iff.rfl
theorem e_Model_hasPawn_12 {F : List rw4 → Prop} {G : Prop} : lkp F G t_Model_hasPawn 12 = F [(.iload_n 3, 1, 0, 0), (.ifCond .ne 23, 3, 36, 0)] := propext Iff.rfl
theorem e_Model_hasPawn_16 {F : List rw4 → Prop} {G : Prop} : lkp F G t_Model_hasPawn 16 = F [(.aload_n 0, 1, 0, 0), (.getfield 7, 3, 6, 1), (.bipush 9, 2, 0, 0), (.iload 4, 2, 0, 0), (.imul, 1, 0, 0), (.iload_n 2, 1, 0, 0), (.iadd, 1, 0, 0), (.iaload, 1, 0, 0), (.iconst 1, 1, 0, 0), (.iload_n 1, 1, 0, 0), (.invokestatic 68, 3, 67, 2), (.if_icmp .ne 7, 3, 40, 0)] := propext Iff.rfl
theorem e_Model_hasPawn_36 {F : List rw4 → Prop} {G : Prop} : lkp F G t_Model_hasPawn 36 = F [(.iconst 1, 1, 0, 0), (.goto 4, 3, 41, 0)] := propext Iff.rfl
theorem e_Model_hasPawn_40 {F : List rw4 → Prop} {G : Prop} : lkp F G t_Model_hasPawn 40 = F [(.iconst 0, 1, 0, 0)] := propext Iff.rfl
theorem e_Model_hasPawn_41 {F : List rw4 → Prop} {G : Prop} : lkp F G t_Model_hasPawn 41 = F [(.istore_n 3, 1, 0, 0), (.iinc 4 1, 3, 0, 0), (.goto (-40), 3, 5, 0)] := propext Iff.rfl
theorem e_Model_hasPawn_48 {F : List rw4 → Prop} {G : Prop} : lkp F G t_Model_hasPawn 48 = F [(.iload_n 3, 1, 0, 0), (.ireturn, 1, 1, 0)] := propext Iff.rfl
theorem o_Model_hasPawn : tOk k_Model_hasPawn t_Model_hasPawn = true := by decide +kernel
/-- DroppedPiecesModel.isMove(IIII)Z; heads of loops: [] -/
def t_Model_isMove : tb4 := [
  (0, [(.iload_n 2, 1, 0, 0), (.bipush 81, 2, 0, 0), (.if_icmp .le 72, 3, 75, 0)]),
  (6, [(.iload_n 2, 1, 0, 0), (.bipush 81, 2, 0, 0), (.isub, 1, 0, 0), (.istore 5, 2, 0, 0), (.iload 4, 2, 0, 0), (.ifCond .ne 59, 3, 73, 0)]),
  (17, [(.aload_n 0, 1, 0, 0), (.getfield 13, 3, 6, 2), (.bipush 8, 2, 0, 0), (.iload_n 1, 1, 0, 0), (.imul, 1, 0, 0), (.iload 5, 2, 0, 0), (.iadd, 1, 0, 0), (.iaload, 1, 0, 0), (.ifCond .le 44, 3, 73, 0)]),
  (32, [(.aload_n 0, 1, 0, 0), (.getfield 7, 3, 6, 1), (.iload_n 3, 1, 0, 0), (.iaload, 1, 0, 0), (.ifCond .ne 35, 3, 73, 0)]),
  (41, [(.iload 5, 2, 0, 0), (.iload_n 1, 1, 0, 0), (.iload_n 3, 1, 0, 0), (.invokestatic 71, 3, 75, 3), (.ifCond .ne 25, 3, 73, 0)]),
  (51, [(.iload 5, 2, 0, 0), (.iconst 1, 1, 0, 0), (.if_icmp .ne 15, 3, 69, 0)]),
  (57, [(.aload_n 0, 1, 0, 0), (.iload_n 1, 1, 0, 0), (.iload_n 3, 1, 0, 0), (.bipush 9, 2, 0, 0), (.irem, 1, 0, 0), (.invokevirtual 75, 3, 76, 2), (.ifCond .ne 7, 3, 73, 0)]),
  (69, [(.iconst 1, 1, 0, 0), (.goto 4, 3, 74, 0)]),
  (73, [(.iconst 0, 1, 0, 0)]),
  (74, [(.ireturn, 1, 1, 0)]),
  (75, [(.iload_n 2, 1, 0, 0), (.bipush 81, 2, 0, 0), (.if_icmp .eq 43, 3, 121, 0)]),
  (81, [(.aload_n 0, 1, 0, 0), (.getfield 7, 3, 6, 1), (.iload_n 2, 1, 0, 0), (.iaload, 1, 0, 0), (.iload_n 1, 1, 0, 0), (.invokestatic 54, 3, 66, 2), (.ifCond .eq 30, 3, 121, 0)]),
  (94, [(.aload_n 0, 1, 0, 0), (.getfield 7, 3, 6, 1), (.iload_n 3, 1, 0, 0), (.iaload, 1, 0, 0), (.iload_n 1, 1, 0, 0), (.invokestatic 54, 3, 66, 2), (.ifCond .ne 17, 3, 121, 0)]),
  (107, [(.aload_n 0, 1, 0, 0), (.getfield 7, 3, 6, 1), (.iload_n 3, 1, 0, 0), (.iaload, 1, 0, 0), (.invokestatic 43, 3, 65, 1), (.bipush 8, 2, 0, 0), (.if_icmp .ne 5, 3, 123, 0)]),
  (121, [(.iconst 0, 1, 0, 0), (.ireturn, 1, 1, 0)]),
  (123, [(.aload_n 0, 1, 0, 0), (.getfield 7, 3, 6, 1), (.iload_n 2, 1, 0, 0), (.iaload, 1, 0, 0), (.invokestatic 43, 3, 65, 1), (.istore 5, 2, 0, 0), (.iload_n 1, 1, 0, 0), (.iload_n 2, 1, 0, 0), (.invokestatic 64, 3, 74, 2), (.iconst 3, 1, 0, 0), (.if_icmp .lt 12, 3, 152, 0)]),
  (143, [(.iload_n 1, 1, 0, 0), (.iload_n 3, 1, 0, 0), (.invokestatic 64, 3, 74, 2), (.iconst 3, 1, 0, 0), (.if_icmp .ge 7, 3, 156, 0)]),
  (152, [(.iconst 1, 1, 0, 0), (.goto 4, 3, 157, 0)]),
  (156, [(.iconst 0, 1, 0, 0)]),
  (157, [(.istore 6, 2, 0, 0), (.iload 5, 2, 0, 0), (.bipush 8, 2, 0, 0), (.if_icmp .ge 18, 3, 181, 0)]),
  (166, [(.iload 5, 2, 0, 0), (.iconst 5, 1, 0, 0), (.if_icmp .eq 12, 3, 181, 0)]),
  (172, [(.iload 6, 2, 0, 0), (.ifCond .eq 7, 3, 181, 0)]),
  (177, [(.iconst 1, 1, 0, 0), (.goto 4, 3, 182, 0)]),
  (181, [(.iconst 0, 1, 0, 0)]),
  (182, [(.istore 7, 2, 0, 0), (.iload 4, 2, 0, 0), (.iconst 1, 1, 0, 0), (.if_icmp .ne 11, 3, 198, 0)]),
  (190, [(.iload 7, 2, 0, 0), (.ifCond .eq 32, 3, 224, 0)]),
  (195, [(.goto 13, 3, 208, 0)]),
  (198, [(.iload 5, 2, 0, 0), (.iload_n 1, 1, 0, 0), (.iload_n 3, 1, 0, 0), (.invokestatic 71, 3, 75, 3), (.ifCond .ne 19, 3, 224, 0)]),
  (208, [(.aload_n 0, 1, 0, 0), (.iload 5, 2, 0, 0), (.iload_n 1, 1, 0, 0), (.iload_n 2, 1, 0, 0), (.iload_n 3, 1, 0, 0), (.invokevirtual 57, 3, 71, 4), (.ifCond .eq 7, 3, 224, 0)]),
  (220, [(.iconst 1, 1, 0, 0), (.goto 4, 3, 225, 0)]),
  (224, [(.iconst 0, 1, 0, 0)]),
  (225, [(.ireturn, 1, 1, 0)])]
theorem e_Model_isMove_0 {F : List rw4 → Prop} {G : Prop} : lkp F G t_Model_isMove 0 = F [(.iload_n 2, 1, 0, 0), (.bipush 81, 2, 0, 0), (.if_icmp .le 72, 3, 75, 0)] := propext Iff.rfl
theorem e_Model_isMove_6 {F : List rw4 → Prop} {G : Prop} : lkp F G t_Model_isMove 6 = F [(.iload_n 2, 1, 0, 0), (.bipush 81, 2, 0, 0), (.isub, 1, 0, 0), (.istore 5, 2, 0, 0), (.iload 4, 2, 0, 0), (.ifCond .ne 59, 3, 73, 0)] := propext Iff.rfl
theorem e_Model_isMove_17 {F : List rw4 → Prop} {G : Prop} : lkp F G t_Model_isMove 17 = F [(.aload_n 0, 1, 0, 0), (.getfield 13, 3, 6, 2), (.bipush 8, 2, 0, 0), (.iload_n 1, 1, 0, 0), (.imul, 1, 0, 0), (.iload 5, 2, 0, 0), (.iadd, 1, 0, 0), (.iaload, 1, 0, 0), (.ifCond .le 44, 3, 73, 0)] := propext Iff.rfl
theorem e_Model_isMove_32 {F : List rw4 → Prop} {G : Prop} : lkp F G t_Model_isMove 32 = F [(.aload_n 0, 1, 0, 0), (.getfield 7, 3, 6, 1), (.iload_n 3, 1, 0, 0), (.iaload, 1, 0, 0), (.ifCond .ne 35, 3, 73, 0)] := propext Iff.rfl
theorem e_Model_isMove_41 {F : List rw4 → Prop} {G : Prop} : lkp F G t_Model_isMove 41 = F [(.iload 5, 2, 0, 0), (.iload_n 1, 1, 0, 0), (.iload_n 3, 1, 0, 0), (.invokestatic 71, 3, 75, 3), (.ifCond .ne 25, 3, 73, 0)] := propext Iff.rfl
theorem e_Model_isMove_51 {F : List rw4 → Prop} {G : Prop} : lkp F G t_Model_isMove 51 = F [(.iload 5, 2, 0, 0), (.iconst 1, 1, 0, 0), (.if_icmp .ne 15, 3, 69, 0)] := propext Iff.rfl
theorem e_Model_isMove_57 {F : List rw4 → Prop} {G : Prop} : lkp F G t_Model_isMove 57 = F [(.aload_n 0, 1, 0, 0), (.iload_n 1, 1, 0, 0), (.iload_n 3, 1, 0, 0), (.bipush 9, 2, 0, 0), (.irem, 1, 0, 0), (.invokevirtual 75, 3, 76, 2), (.ifCond .ne 7, 3, 73, 0)] := propext Iff.rfl
theorem e_Model_isMove_69 {F : List rw4 → Prop} {G : Prop} : lkp F G t_Model_isMove 69 = F [(.iconst 1, 1, 0, 0), (.goto 4, 3, 74, 0)] := propext Iff.rfl
theorem e_Model_isMove_73 {F : List rw4 → Prop} {G : Prop} : lkp F G t_Model_isMove 73 = F [(.iconst 0, 1, 0, 0)] := propext Iff.rfl
theorem e_Model_isMove_74 {F : List rw4 → Prop} {G : Prop} : lkp F G t_Model_isMove 74 = F [(.ireturn, 1, 1, 0)] := propext Iff.rfl
theorem e_Model_isMove_75 {F : List rw4 → Prop} {G : Prop} : lkp F G t_Model_isMove 75 = F [(.iload_n 2, 1, 0, 0), (.bipush 81, 2, 0, 0), (.if_icmp .eq 43, 3, 121, 0)] := propext Iff.rfl
theorem e_Model_isMove_81 {F : List rw4 → Prop} {G : Prop} : lkp F G t_Model_isMove 81 = F [(.aload_n 0, 1, 0, 0), (.getfield 7, 3, 6, 1), (.iload_n 2, 1, 0, 0), (.iaload, 1, 0, 0), (.iload_n 1, 1, 0, 0), (.invokestatic 54, 3, 66, 2), (.ifCond .eq 30, 3, 121, 0)] := propext Iff.rfl
theorem e_Model_isMove_94 {F : List rw4 → Prop} {G : Prop} : lkp F G t_Model_isMove 94 = F [(.aload_n 0, 1, 0, 0), (.getfield 7, 3, 6, 1), (.iload_n 3, 1, 0, 0), (.iaload, 1, 0, 0), (.iload_n 1, 1, 0, 0), (.invokestatic 54, 3, 66, 2), (.ifCond .ne 17, 3, 121, 0)] := propext Iff.rfl
theorem e_Model_isMove_107 {F : List rw4 → Prop} {G : Prop} : lkp F G t_Model_isMove 107 = F [(.aload_n 0, 1, 0, 0), (.getfield 7, 3, 6, 1), (.iload_n 3, 1, 0, 0), (.iaload, 1, 0, 0), (.invokestatic 43, 3, 65, 1), (.bipush 8, 2, 0, 0), (.if_icmp .ne 5, 3, 123, 0)] := propext Iff.rfl
theorem e_Model_isMove_121 {F : List rw4 → Prop} {G : Prop} : lkp F G t_Model_isMove 121 = F [(.iconst 0, 1, 0, 0), (.ireturn, 1, 1, 0)] := propext Iff.rfl
theorem e_Model_isMove_123 {F : List rw4 → Prop} {G : Prop} : lkp F G t_Model_isMove 123 = F [(.aload_n 0, 1, 0, 0), (.getfield 7, 3, 6, 1), (.iload_n 2, 1, 0, 0), (.iaload, 1, 0, 0), (.invokestatic 43, 3, 65, 1), (.istore 5, 2, 0, 0), (.iload_n 1, 1, 0, 0), (.iload_n 2, 1, 0, 0), (.invokestatic 64, 3, 74, 2), (.iconst 3, 1, 0, 0), (.if_icmp .lt 12, 3, 152, 0)] := propext Iff.rfl
theorem e_Model_isMove_143 {F : List rw4 → Prop} {G : Prop} : lkp F G t_Model_isMove 143 = F [(.iload_n 1, 1, 0, 0), (.iload_n 3, 1, 0, 0), (.invokestatic 64, 3, 74, 2), (.iconst 3, 1, 0, 0), (.if_icmp .ge 7, 3, 156, 0)] := propext Iff.rfl
theorem e_Model_isMove_152 {F : List rw4 → Prop} {G : Prop} : lkp F G t_Model_isMove 152 = F [(.iconst 1, 1, 0, 0), (.goto 4, 3, 157, 0)] := propext Iff.rfl
theorem e_Model_isMove_156 {F : List rw4 → Prop} {G : Prop} : lkp F G t_Model_isMove 156 = F [(.iconst 0, 1, 0, 0)] := propext Iff.rfl
theorem e_Model_isMove_157 {F : List rw4 → Prop} {G : Prop} : lkp F G t_Model_isMove 157 = F [(.istore 6, 2, 0, 0), (.iload 5, 2, 0, 0), (.bipush 8, 2, 0, 0), (.if_icmp .ge 18, 3, 181, 0)] := propext Iff.rfl
theorem e_Model_isMove_166 {F : List rw4 → Prop} {G : Prop} : lkp F G t_Model_isMove 166 = F [(.iload 5, 2, 0, 0), (.iconst 5, 1, 0, 0), (.if_icmp .eq 12, 3, 181, 0)] := propext Iff.rfl
theorem e_Model_isMove_172 {F : List rw4 → Prop} {G : Prop} : lkp F G t_Model_isMove 172 = F [(.iload 6, 2, 0, 0), (.ifCond .eq 7, 3, 181, 0)] := propext Iff.rfl
theorem e_Model_isMove_177 {F : List rw4 → Prop} {G : Prop} : lkp F G t_Model_isMove 177 = F [(.iconst 1, 1, 0, 0), (.goto 4, 3, 182, 0)] := propext Iff.rfl
theorem e_Model_isMove_181 {F : List rw4 → Prop} {G : Prop} : lkp F G t_Model_isMove 181 = F [(.iconst 0, 1, 0, 0)] := propext Iff.rfl
theorem e_Model_isMove_182 {F : List rw4 → Prop} {G : Prop} : lkp F G t_Model_isMove 182 = F [(.istore 7, 2, 0, 0), (.iload 4, 2, 0, 0), (.iconst 1, 1, 0, 0), (.if_icmp .ne 11, 3, 198, 0)] := propext Iff.rfl
theorem e_Model_isMove_190 {F : List rw4 → Prop} {G : Prop} : lkp F G t_Model_isMove 190 = F [(.iload 7, 2, 0, 0), (.ifCond .eq 32, 3, 224, 0)] := propext Iff.rfl
theorem e_Model_isMove_195 {F : List rw4 → Prop} {G : Prop} : lkp F G t_Model_isMove 195 = F [(.goto 13, 3, 208, 0)] := propext Iff.rfl
theorem e_Model_isMove_198 {F : List rw4 → Prop} {G : Prop} : lkp F G t_Model_isMove 198 = F [(.iload 5, 2, 0, 0), (.iload_n 1, 1, 0, 0), (.iload_n 3, 1, 0, 0), (.invokestatic 71, 3, 75, 3), (.ifCond .ne 19, 3, 224, 0)] := propext Iff.rfl
theorem e_Model_isMove_208 {F : List rw4 → Prop} {G : Prop} : lkp F G t_Model_isMove 208 = F [(.aload_n 0, 1, 0, 0), (.iload 5, 2, 0, 0), (.iload_n 1, 1, 0, 0), (.iload_n 2, 1, 0, 0), (.iload_n 3, 1, 0, 0), (.invokevirtual 57, 3, 71, 4), (.ifCond .eq 7, 3, 224, 0)] := propext Iff.rfl
theorem e_Model_isMove_220 {F : List rw4 → Prop} {G : Prop} : lkp F G t_Model_isMove 220 = F [(.iconst 1, 1, 0, 0), (.goto 4, 3, 225, 0)] := propext Iff.rfl
theorem e_Model_isMove_224 {F : List rw4 → Prop} {G : Prop} : lkp F G t_Model_isMove 224 = F [(.iconst 0, 1, 0, 0)] := propext Iff.rfl
theorem e_Model_isMove_225 {F : List rw4 → Prop} {G : Prop} : lkp F G t_Model_isMove 225 = F [(.ireturn, 1, 1, 0)] := propext Iff.rfl
theorem o_Model_isMove : tOk k_Model_isMove t_Model_isMove = true := by decide +kernel
/-- DroppedPiecesModel.make(IIIII)V; heads of loops: [] -/
def t_Model_make : tb4 := [
  (0, [(.aload_n 0, 1, 0, 0), (.getfield 33, 3, 6, 11), (.iload_n 1, 1, 0, 0), (.aload_n 0, 1, 0, 0), (.getfield 7, 3, 6, 1), (.iload 4, 2, 0, 0), (.iaload, 1, 0, 0), (.iastore, 1, 0, 0), (.iload_n 3, 1, 0, 0), (.bipush 81, 2, 0, 0), (.if_icmp .le 37, 3, 53, 0)]),
  (19, [(.aload_n 0, 1, 0, 0), (.getfield 13, 3, 6, 2), (.bipush 8, 2, 0, 0), (.iload_n 2, 1, 0, 0), (.imul, 1, 0, 0), (.iload_n 3, 1, 0, 0), (.iadd, 1, 0, 0), (.bipush 81, 2, 0, 0), (.isub, 1, 0, 0), (.dup2, 1, 0, 0), (.iaload, 1, 0, 0), (.iconst 1, 1, 0, 0), (.isub, 1, 0, 0), (.iastore, 1, 0, 0), (.aload_n 0, 1, 0, 0), (.getfield 7, 3, 6, 1), (.iload 4, 2, 0, 0), (.iload_n 3, 1, 0, 0), (.bipush 81, 2, 0, 0), (.isub, 1, 0, 0), (.iload_n 2, 1, 0, 0), (.invokestatic 68, 3, 67, 2), (.iastore, 1, 0, 0), (.return_, 1, 0, 0)]),
  (53, [(.aload_n 0, 1, 0, 0), (.getfield 7, 3, 6, 1), (.iload_n 3, 1, 0, 0), (.iaload, 1, 0, 0), (.invokestatic 43, 3, 65, 1), (.istore 6, 2, 0, 0), (.aload_n 0, 1, 0, 0), (.getfield 7, 3, 6, 1), (.iload 4, 2, 0, 0), (.iaload, 1, 0, 0), (.ifCond .eq 30, 3, 101, 0)]),
  (74, [(.aload_n 0, 1, 0, 0), (.getfield 13, 3, 6, 2), (.bipush 8, 2, 0, 0), (.iload_n 2, 1, 0, 0), (.imul, 1, 0, 0), (.aload_n 0, 1, 0, 0), (.getfield 7, 3, 6, 1), (.iload 4, 2, 0, 0), (.iaload, 1, 0, 0), (.invokestatic 43, 3, 65, 1), (.invokestatic 78, 3, 68, 1), (.iadd, 1, 0, 0), (.dup2, 1, 0, 0), (.iaload, 1, 0, 0), (.iconst 1, 1, 0, 0), (.iadd, 1, 0, 0), (.iastore, 1, 0, 0)]),
  (101, [(.aload_n 0, 1, 0, 0), (.getfield 7, 3, 6, 1), (.iload 4, 2, 0, 0), (.iload 6, 2, 0, 0), (.bipush 8, 2, 0, 0), (.iload 5, 2, 0, 0), (.imul, 1, 0, 0), (.iadd, 1, 0, 0), (.iload_n 2, 1, 0, 0), (.invokestatic 68, 3, 67, 2), (.iastore, 1, 0, 0), (.aload_n 0, 1, 0, 0), (.getfield 7, 3, 6, 1), (.iload_n 3, 1, 0, 0), (.iconst 0, 1, 0, 0), (.iastore, 1, 0, 0), (.aload_n 0, 1, 0, 0), (.getfield 16, 3, 6, 3), (.iload_n 2, 1, 0, 0), (.iload 6, 2, 0, 0), (.bipush 8, 2, 0, 0), (.if_icmp .ne 8, 3, 144, 0)]),
  (139, [(.iload 4, 2, 0, 0), (.goto 9, 3, 150, 0)]),
  (144, [(.aload_n 0, 1, 0, 0), (.getfield 16, 3, 6, 3), (.iload_n 2, 1, 0, 0), (.iaload, 1, 0, 0)]),
  (150, [(.iastore, 1, 0, 0), (.return_, 1, 0, 0)])]
theorem e_Model_make_0 {F : List rw4 → Prop} {G : Prop} : lkp F G t_Model_make 0 = F [(.aload_n 0, 1, 0, 0), (.getfield 33, 3, 6, 11), (.iload_n 1, 1, 0, 0), (.aload_n 0, 1, 0, 0), (.getfield 7, 3, 6, 1), (.iload 4, 2, 0, 0), (.iaload, 1, 0, 0), (.iastore, 1, 0, 0), (.iload_n 3, 1, 0, 0), (.bipush 81, 2, 0, 0), (.if_icmp .le 37, 3, 53, 0)] := propext Iff.rfl
theorem e_Model_make_19 {F : List rw4 → Prop} {G : Prop} : lkp F G t_Model_make 19 = F [(.aload_n 0, 1, 0, 0), (.getfield 13, 3, 6, 2), (.bipush 8, 2, 0, 0), (.iload_n 2, 1, 0, 0), (.imul, 1, 0, 0), (.iload_n 3, 1, 0, 0), (.iadd, 1, 0, 0), (.bipush 81, 2, 0, 0), (.isub, 1, 0, 0), (.dup2, 1, 0, 0), (.iaload, 1, 0, 0), (.iconst 1, 1, 0, 0), (.isub, 1, 0, 0), (.iastore, 1, 0, 0), (.aload_n 0, 1, 0, 0), (.getfield 7, 3, 6, 1), (.iload 4, 2, 0, 0), (.iload_n 3, 1, 0, 0), (.bipush 81, 2, 0, 0), (.isub, 1, 0, 0), (.iload_n 2, 1, 0, 0), (.invokestatic 68, 3, 67, 2), (.iastore, 1, 0, 0), (.return_, 1, 0, 0)] := propext Iff.rfl
theorem e_Model_make_53 {F : List rw4 → Prop} {G : Prop} : lkp F G t_Model_make 53 = F [(.aload_n 0, 1, 0, 0), (.getfield 7, 3, 6, 1), (.iload_n 3, 1, 0, 0), (.iaload, 1, 0, 0), (.invokestatic 43, 3, 65, 1), (.istore 6, 2, 0, 0), (.aload_n 0, 1, 0, 0), (.getfield 7, 3, 6, 1), (.iload 4, 2, 0, 0), (.iaload, 1, 0, 0), (.ifCond .eq 30, 3, 101, 0)] := propext Iff.rfl
theorem e_Model_make_74 {F : List rw4 → Prop} {G : Prop} : lkp F G t_Model_make 74 = F [(.aload_n 0, 1, 0, 0), (.getfield 13, 3, 6, 2), (.bipush 8, 2, 0, 0), (.iload_n 2, 1, 0, 0), (.imul, 1, 0, 0), (.aload_n 0, 1, 0, 0), (.getfield 7, 3, 6, 1), (.iload 4, 2, 0, 0), (.iaload, 1, 0, 0), (.invokestatic 43, 3, 65, 1), (.invokestatic 78, 3, 68, 1), (.iadd, 1, 0, 0), (.dup2, 1, 0, 0), (.iaload, 1, 0, 0), (.iconst 1, 1, 0, 0), (.iadd, 1, 0, 0), (.iastore, 1, 0, 0)] := propext Iff.rfl
theorem e_Model_make_101 {F : List rw4 → Prop} {G : Prop} : lkp F G t_Model_make 101 = F [(.aload_n 0, 1, 0, 0), (.getfield 7, 3, 6, 1), (.iload 4, 2, 0, 0), (.iload 6, 2, 0, 0), (.bipush 8, 2, 0, 0), (.iload 5, 2, 0, 0), (.imul, 1, 0, 0), (.iadd, 1, 0, 0), (.iload_n 2, 1, 0, 0), (.invokestatic 68, 3, 67, 2), (.iastore, 1, 0, 0), (.aload_n 0, 1, 0, 0), (.getfield 7, 3, 6, 1), (.iload_n 3, 1, 0, 0), (.iconst 0, 1, 0, 0), (.iastore, 1, 0, 0), (.aload_n 0, 1, 0, 0), (.getfield 16, 3, 6, 3), (.iload_n 2, 1, 0, 0), (.iload 6, 2, 0, 0), (.bipush 8, 2, 0, 0), (.if_icmp .ne 8, 3, 144, 0)] := propext Iff.rfl
theorem e_Model_make_139 {F : List rw4 → Prop} {G : Prop} : lkp F G t_Model_make 139 = F [(.iload 4, 2, 0, 0), (.goto 9, 3, 150, 0)] := propext Iff.rfl
theorem e_Model_make_144 {F : List rw4 → Prop} {G : Prop} : lkp F G t_Model_make 144 = F [(.aload_n 0, 1, 0, 0), (.getfield 16, 3, 6, 3), (.iload_n 2, 1, 0, 0), (.iaload, 1, 0, 0)] := propext Iff.rfl
theorem e_Model_make_150 {F : List rw4 → Prop} {G : Prop} : lkp F G t_Model_make 150 = F [(.iastore, 1, 0, 0), (.return_, 1, 0, 0)] := propext Iff.rfl
theorem o_Model_make : tOk k_Model_make t_Model_make = true := by decide +kernel
/-- DroppedPiecesModel.unmake(IIIII)V; heads of loops: [] -/
def t_Model_unmake : tb4 := [
  (0, [(.iload_n 3, 1, 0, 0), (.bipush 81, 2, 0, 0), (.if_icmp .le 30, 3, 33, 0)]),
  (6, [(.aload_n 0, 1, 0, 0), (.getfield 13, 3, 6, 2), (.bipush 8, 2, 0, 0), (.iload_n 2, 1, 0, 0), (.imul, 1, 0, 0), (.iload_n 3, 1, 0, 0), (.iadd, 1, 0, 0), (.bipush 81, 2, 0, 0), (.isub, 1, 0, 0), (.dup2, 1, 0, 0), (.iaload, 1, 0, 0), (.iconst 1, 1, 0, 0), (.iadd, 1, 0, 0), (.iastore, 1, 0, 0), (.aload_n 0, 1, 0, 0), (.getfield 7, 3, 6, 1), (.iload 4, 2, 0, 0), (.iconst 0, 1, 0, 0), (.iastore, 1, 0, 0), (.return_, 1, 0, 0)]),
  (33, [(.aload_n 0, 1, 0, 0), (.getfield 7, 3, 6, 1), (.iload 4, 2, 0, 0), (.iaload, 1, 0, 0), (.invokestatic 43, 3, 65, 1), (.bipush 8, 2, 0, 0), (.iload 5, 2, 0, 0), (.imul, 1, 0, 0), (.isub, 1, 0, 0), (.istore 6, 2, 0, 0), (.aload_n 0, 1, 0, 0), (.getfield 7, 3, 6, 1), (.iload_n 3, 1, 0, 0), (.iload 6, 2, 0, 0), (.iload_n 2, 1, 0, 0), (.invokestatic 68, 3, 67, 2), (.iastore, 1, 0, 0), (.aload_n 0, 1, 0, 0), (.getfield 7, 3, 6, 1), (.iload 4, 2, 0, 0), (.aload_n 0, 1, 0, 0), (.getfield 33, 3, 6, 11), (.iload_n 1, 1, 0, 0), (.iaload, 1, 0, 0), (.iastore, 1, 0, 0), (.aload_n 0, 1, 0, 0), (.getfield 33, 3, 6, 11), (.iload_n 1, 1, 0, 0), (.iaload, 1, 0, 0), (.ifCond .eq 29, 3, 111, 0)]),
  (85, [(.aload_n 0, 1, 0, 0), (.getfield 13, 3, 6, 2), (.bipush 8, 2, 0, 0), (.iload_n 2, 1, 0, 0), (.imul, 1, 0, 0), (.aload_n 0, 1, 0, 0), (.getfield 33, 3, 6, 11), (.iload_n 1, 1, 0, 0), (.iaload, 1, 0, 0), (.invokestatic 43, 3, 65, 1), (.invokestatic 78, 3, 68, 1), (.iadd, 1, 0, 0), (.dup2, 1, 0, 0), (.iaload, 1, 0, 0), (.iconst 1, 1, 0, 0), (.isub, 1, 0, 0), (.iastore, 1, 0, 0)]),
  (111, [(.aload_n 0, 1, 0, 0), (.getfield 16, 3, 6, 3), (.iload_n 2, 1, 0, 0), (.iload 6, 2, 0, 0), (.bipush 8, 2, 0, 0), (.if_icmp .ne 7, 3, 127, 0)]),
  (123, [(.iload_n 3, 1, 0, 0), (.goto 9, 3, 133, 0)]),
  (127, [(.aload_n 0, 1, 0, 0), (.getfield 16, 3, 6, 3), (.iload_n 2, 1, 0, 0), (.iaload, 1, 0, 0)]),
  (133, [(.iastore, 1, 0, 0), (.return_, 1, 0, 0)])]
theorem e_Model_unmake_0 {F : List rw4 → Prop} {G : Prop} : lkp F G t_Model_unmake 0 = F [(.iload_n 3, 1, 0, 0), (.bipush 81, 2, 0, 0), (.if_icmp .le 30, 3, 33, 0)] := propext Iff.rfl
theorem e_Model_unmake_6 {F : List rw4 → Prop} {G : Prop} : lkp F G t_Model_unmake 6 = F [(.aload_n 0, 1, 0, 0), (.getfield 13, 3, 6, 2), (.bipush 8, 2, 0, 0), (.iload_n 2, 1, 0, 0), (.imul, 1, 0, 0), (.iload_n 3, 1, 0, 0), (.iadd, 1, 0, 0), (.bipush 81, 2, 0, 0), (.isub, 1, 0, 0), (.dup2, 1, 0, 0), (.iaload, 1, 0, 0), (.iconst 1, 1, 0, 0), (.iadd, 1, 0, 0), (.iastore, 1, 0, 0), (.aload_n 0, 1, 0, 0), (.getfield 7, 3, 6, 1), (.iload 4, 2, 0, 0), (.iconst 0, 1, 0, 0), (.iastore, 1, 0, 0), (.return_, 1, 0, 0)] := propext Iff.rfl
theorem e_Model_unmake_33 {F : List rw4 → Prop} {G : Prop} : lkp F G t_Model_unmake 33 = F [(.aload_n 0, 1, 0, 0), (.getfield 7, 3, 6, 1), (.iload 4, 2, 0, 0), (.iaload, 1, 0, 0), (.invokestatic 43, 3, 65, 1), (.bipush 8, 2, 0, 0), (.iload 5, 2, 0, 0), (.imul, 1, 0, 0), (.isub, 1, 0, 0), (.istore 6, 2, 0, 0), (.aload_n 0, 1, 0, 0), (.getfield 7, 3, 6, 1), (.iload_n 3, 1, 0, 0), (.iload 6, 2, 0, 0), (.iload_n 2, 1, 0, 0), (.invokestatic 68, 3, 67, 2), (.iastore, 1, 0, 0), (.aload_n 0, 1, 0, 0), (.getfield 7, 3, 6, 1), (.iload 4, 2, 0, 0), (.aload_n 0, 1, 0, 0), (.getfield 33, 3, 6, 11), (.iload_n 1, 1, 0, 0), (.iaload, 1, 0, 0), (.iastore, 1, 0, 0), (.aload_n 0, 1, 0, 0), (.getfield 33, 3, 6, 11), (.iload_n 1, 1, 0, 0), (.iaload, 1, 0, 0), (.ifCond .eq 29, 3, 111, 0)] := propext Iff.rfl
theorem e_Model_unmake_85 {F : List rw4 → Prop} {G : Prop} : lkp F G t_Model_unmake 85 = F [(.aload_n 0, 1, 0, 0), (.getfield 13, 3, 6, 2), (.bipush 8, 2, 0, 0), (.iload_n 2, 1, 0, 0), (.imul, 1, 0, 0), (.aload_n 0, 1, 0, 0), (.getfield 33, 3, 6, 11), (.iload_n 1, 1, 0, 0), (.iaload, 1, 0, 0), (.invokestatic 43, 3, 65, 1), (.invokestatic 78, 3, 68, 1), (.iadd, 1, 0, 0), (.dup2, 1, 0, 0), (.iaload, 1, 0, 0), (.iconst 1, 1, 0, 0), (.isub, 1, 0, 0), (.iastore, 1, 0, 0)] := propext Iff.rfl
theorem e_Model_unmake_111 {F : List rw4 → Prop} {G : Prop} : lkp F G t_Model_unmake 111 = F [(.aload_n 0, 1, 0, 0), (.getfield 16, 3, 6, 3), (.iload_n 2, 1, 0, 0), (.iload 6, 2, 0, 0), (.bipush 8, 2, 0, 0), (.if_icmp .ne 7, 3, 127, 0)] := propext Iff.rfl
theorem e_Model_unmake_123 {F : List rw4 → Prop} {G : Prop} : lkp F G t_Model_unmake 123 = F [(.iload_n 3, 1, 0, 0), (.goto 9, 3, 133, 0)] := propext Iff.rfl
theorem e_Model_unmake_127 {F : List rw4 → Prop} {G : Prop} : lkp F G t_Model_unmake 127 = F [(.aload_n 0, 1, 0, 0), (.getfield 16, 3, 6, 3), (.iload_n 2, 1, 0, 0), (.iaload, 1, 0, 0)] := propext Iff.rfl
theorem e_Model_unmake_133 {F : List rw4 → Prop} {G : Prop} : lkp F G t_Model_unmake 133 = F [(.iastore, 1, 0, 0), (.return_, 1, 0, 0)] := propext Iff.rfl
theorem o_Model_unmake : tOk k_Model_unmake t_Model_unmake = true := by decide +kernel
/-- DroppedPiecesModel.isSafe(IIIII)Z; heads of loops: [] -/
def t_Model_isSafe : tb4 := [
  (0, [(.aload_n 0, 1, 0, 0), (.iload_n 2, 1, 0, 0), (.iload_n 3, 1, 0, 0), (.iload 4, 2, 0, 0), (.iload 5, 2, 0, 0), (.invokevirtual 81, 3, 77, 4), (.ifCond .ne 5, 3, 15, 0)]),
  (13, [(.iconst 0, 1, 0, 0), (.ireturn, 1, 1, 0)]),
  (15, [(.aload_n 0, 1, 0, 0), (.iload_n 1, 1, 0, 0), (.iload_n 2, 1, 0, 0), (.iload_n 3, 1, 0, 0), (.iload 4, 2, 0, 0), (.iload 5, 2, 0, 0), (.invokevirtual 84, 3, 78, 5), (.aload_n 0, 1, 0, 0), (.iload_n 2, 1, 0, 0), (.invokevirtual 88, 3, 73, 1), (.ifCond .ne 7, 3, 38, 0)]),
  (34, [(.iconst 1, 1, 0, 0), (.goto 4, 3, 39, 0)]),
  (38, [(.iconst 0, 1, 0, 0)]),
  (39, [(.istore 6, 2, 0, 0), (.aload_n 0, 1, 0, 0), (.iload_n 1, 1, 0, 0), (.iload_n 2, 1, 0, 0), (.iload_n 3, 1, 0, 0), (.iload 4, 2, 0, 0), (.iload 5, 2, 0, 0), (.invokevirtual 92, 3, 79, 5), (.iload 6, 2, 0, 0), (.ireturn, 1, 1, 0)])]
theorem e_Model_isSafe_0 {F : List rw4 → Prop} {G : Prop} : lkp F G t_Model_isSafe 0 = F [(.aload_n 0, 1, 0, 0), (.iload_n 2, 1, 0, 0), (.iload_n 3, 1, 0, 0), (.iload 4, 2, 0, 0), (.iload 5, 2, 0, 0), (.invokevirtual 81, 3, 77, 4), (.ifCond .ne 5, 3, 15, 0)] := propext Iff.rfl
theorem e_Model_isSafe_13 {F : List rw4 → Prop} {G : Prop} : lkp F G t_Model_isSafe 13 = F [(.iconst 0, 1, 0, 0), (.ireturn, 1, 1, 0)] := propext Iff.rfl
theorem e_Model_isSafe_15 {F : List rw4 → Prop} {G : Prop} : lkp F G t_Model_isSafe 15 = F [(.aload_n 0, 1, 0, 0), (.iload_n 1, 1, 0, 0), (.iload_n 2, 1, 0, 0), (.iload_n 3, 1, 0, 0), (.iload 4, 2, 0, 0), (.iload 5, 2, 0, 0), (.invokevirtual 84, 3, 78, 5), (.aload_n 0, 1, 0, 0), (.iload_n 2, 1, 0, 0), (.invokevirtual 88, 3, 73, 1), (.ifCond .ne 7, 3, 38, 0)] := propext Iff.rfl
theorem e_Model_isSafe_34 {F : List rw4 → Prop} {G : Prop} : lkp F G t_Model_isSafe 34 = F [(.iconst 1, 1, 0, 0), (.goto 4, 3, 39, 0)] := propext Iff.rfl
theorem e_Model_isSafe_38 {F : List rw4 → Prop} {G : Prop} : lkp F G t_Model_isSafe 38 = F [(.iconst 0, 1, 0, 0)] := propext Iff.rfl
theorem e_Model_isSafe_39 {F : List rw4 → Prop} {G : Prop} : lkp F G t_Model_isSafe 39 = F [(.istore 6, 2, 0, 0), (.aload_n 0, 1, 0, 0), (.iload_n 1, 1, 0, 0), (.iload_n 2, 1, 0, 0), (.iload_n 3, 1, 0, 0), (.iload 4, 2, 0, 0), (.iload 5, 2, 0, 0), (.invokevirtual 92, 3, 79, 5), (.iload 6, 2, 0, 0), (.ireturn, 1, 1, 0)] := propext Iff.rfl
theorem o_Model_isSafe : tOk k_Model_isSafe t_Model_isSafe = true := by decide +kernel
/-- DroppedPiecesModel.hasSafe(II)Z; heads of loops: [2, 60] -/
def t_Model_hasSafe : tb4 := [
  (0, [(.iconst 0, 1, 0, 0), (.istore_n 3, 1, 0, 0)]),
  (2, [(.iload_n 3, 1, 0, 0), (.bipush 89, 2, 0, 0), (.if_icmp .ge 107, 3, 112, 0)]),
  (8, [(.iload_n 3, 1, 0, 0), (.bipush 81, 2, 0, 0), (.if_icmp .ge 16, 3, 27, 0)]),
  (14, [(.aload_n 0, 1, 0, 0), (.getfield 7, 3, 6, 1), (.iload_n 3, 1, 0, 0), (.iaload, 1, 0, 0), (.iload_n 2, 1, 0, 0), (.invokestatic 54, 3, 66, 2), (.goto 31, 3, 55, 0)]),
  (27, [(.iload_n 3, 1, 0, 0), (.bipush 81, 2, 0, 0), (.if_icmp .le 24, 3, 54, 0)]),
  (33, [(.aload_n 0, 1, 0, 0), (.getfield 13, 3, 6, 2), (.bipush 8, 2, 0, 0), (.iload_n 2, 1, 0, 0), (.imul, 1, 0, 0), (.iload_n 3, 1, 0, 0), (.iadd, 1, 0, 0), (.bipush 81, 2, 0, 0), (.isub, 1, 0, 0), (.iaload, 1, 0, 0), (.ifCond .le 7, 3, 54, 0)]),
  (50, [(.iconst 1, 1, 0, 0), (.goto 4, 3, 55, 0)]),
  (54, [(.iconst 0, 1, 0, 0)]),
  (55, [(.istore 4, 2, 0, 0), (.iconst 0, 1, 0, 0), (.istore 5, 2, 0, 0)]),
  (60, [(.iload 5, 2, 0, 0), (.bipush 81, 2, 0, 0), (.if_icmp .ge 42, 3, 106, 0)]),
  (67, [(.iload 4, 2, 0, 0), (.ifCond .eq 37, 3, 106, 0)]),
  (72, [(.aload_n 0, 1, 0, 0), (.iload_n 1, 1, 0, 0), (.iload_n 2, 1, 0, 0), (.iload_n 3, 1, 0, 0), (.iload 5, 2, 0, 0), (.iconst 0, 1, 0, 0), (.invokevirtual 95, 3, 80, 5), (.ifCond .ne 16, 3, 98, 0)]),
  (85, [(.aload_n 0, 1, 0, 0), (.iload_n 1, 1, 0, 0), (.iload_n 2, 1, 0, 0), (.iload_n 3, 1, 0, 0), (.iload 5, 2, 0, 0), (.iconst 1, 1, 0, 0), (.invokevirtual 95, 3, 80, 5), (.ifCond .eq 5, 3, 100, 0)]),
  (98, [(.iconst 1, 1, 0, 0), (.ireturn, 1, 1, 0)]),
  (100, [(.iinc 5 1, 3, 0, 0), (.goto (-43), 3, 60, 0)]),
  (106, [(.iinc 3 1, 3, 0, 0), (.goto (-107), 3, 2, 0)]),
  (112, [(.iconst 0, 1, 0, 0), (.ireturn, 1, 1, 0)])]
theorem e_Model_hasSafe_0 {F : List rw4 → Prop} {G : Prop} : lkp F G t_Model_hasSafe 0 = F [(.iconst 0, 1, 0, 0), (.istore_n 3, 1, 0, 0)] := propext Iff.rfl
theorem e_Model_hasSafe_2 {F : List rw4 → Prop} {G : Prop} : lkp F G t_Model_hasSafe 2 = F [(.iload_n 3, 1, 0, 0), (.bipush 89, 2, 0, 0), (.if_icmp .ge 107, 3, 112, 0)] := propext Iff.rfl
theorem e_Model_hasSafe_8 {F : List rw4 → Prop} {G : Prop} : lkp F G t_Model_hasSafe 8 = F [(.iload_n 3, 1, 0, 0), (.bipush 81, 2, 0, 0), (.if_icmp .ge 16, 3, 27, 0)] := propext Iff.rfl
theorem e_Model_hasSafe_14 {F : List rw4 → Prop} {G : Prop} : lkp F G t_Model_hasSafe 14 = F [(.aload_n 0, 1, 0, 0), (.getfield 7, 3, 6, 1), (.iload_n 3, 1, 0, 0), (.iaload, 1, 0, 0), (.iload_n 2, 1, 0, 0), (.invokestatic 54, 3, 66, 2), (.goto 31, 3, 55, 0)] := propext Iff.rfl
theorem e_Model_hasSafe_27 {F : List rw4 → Prop} {G : Prop} : lkp F G t_Model_hasSafe 27 = F [(.iload_n 3, 1, 0, 0), (.bipush 81, 2, 0, 0), (.if_icmp .le 24, 3, 54, 0)] := propext Iff.rfl
theorem e_Model_hasSafe_33 {F : List rw4 → Prop} {G : Prop} : lkp F G t_Model_hasSafe 33 = F [(.aload_n 0, 1, 0, 0), (.getfield 13, 3, 6, 2), (.bipush 8, 2, 0, 0), (.iload_n 2, 1, 0, 0), (.imul, 1, 0, 0), (.iload_n 3, 1, 0, 0), (.iadd, 1, 0, 0), (.bipush 81, 2, 0, 0), (.isub, 1, 0, 0), (.iaload, 1, 0, 0), (.ifCond .le 7, 3, 54, 0)] := propext Iff.rfl
theorem e_Model_hasSafe_50 {F : List rw4 → Prop} {G : Prop} : lkp F G t_Model_hasSafe 50 = F [(.iconst 1, 1, 0, 0), (.goto 4, 3, 55, 0)] := propext Iff.rfl
theorem e_Model_hasSafe_54 {F : List rw4 → Prop} {G : Prop} : lkp F G t_Model_hasSafe 54 = F [(.iconst 0, 1, 0, 0)] := propext Iff.rfl
theorem e_Model_hasSafe_55 {F : List rw4 → Prop} {G : Prop} : lkp F G t_Model_hasSafe 55 = F [(.istore 4, 2, 0, 0), (.iconst 0, 1, 0, 0), (.istore 5, 2, 0, 0)] := propext Iff.rfl
theorem e_Model_hasSafe_60 {F : List rw4 → Prop} {G : Prop} : lkp F G t_Model_hasSafe 60 = F [(.iload 5, 2, 0, 0), (.bipush 81, 2, 0, 0), (.if_icmp .ge 42, 3, 106, 0)] := propext Iff.rfl
theorem e_Model_hasSafe_67 {F : List rw4 → Prop} {G : Prop} : lkp F G t_Model_hasSafe 67 = F [(.iload 4, 2, 0, 0), (.ifCond .eq 37, 3, 106, 0)] := propext Iff.rfl
theorem e_Model_hasSafe_72 {F : List rw4 → Prop} {G : Prop} : lkp F G t_Model_hasSafe 72 = F [(.aload_n 0, 1, 0, 0), (.iload_n 1, 1, 0, 0), (.iload_n 2, 1, 0, 0), (.iload_n 3, 1, 0, 0), (.iload 5, 2, 0, 0), (.iconst 0, 1, 0, 0), (.invokevirtual 95, 3, 80, 5), (.ifCond .ne 16, 3, 98, 0)] := propext Iff.rfl
theorem e_Model_hasSafe_85 {F : List rw4 → Prop} {G : Prop} : lkp F G t_Model_hasSafe 85 = F [(.aload_n 0, 1, 0, 0), (.iload_n 1, 1, 0, 0), (.iload_n 2, 1, 0, 0), (.iload_n 3, 1, 0, 0), (.iload 5, 2, 0, 0), (.iconst 1, 1, 0, 0), (.invokevirtual 95, 3, 80, 5), (.ifCond .eq 5, 3, 100, 0)] := propext Iff.rfl
theorem e_Model_hasSafe_98 {F : List rw4 → Prop} {G : Prop} : lkp F G t_Model_hasSafe 98 = F [(.iconst 1, 1, 0, 0), (.ireturn, 1, 1, 0)] := propext Iff.rfl
theorem e_Model_hasSafe_100 {F : List rw4 → Prop} {G : Prop} : lkp F G t_Model_hasSafe 100 = F [(.iinc 5 1, 3, 0, 0), (.goto (-43), 3, 60, 0)] := propext Iff.rfl
theorem e_Model_hasSafe_106 {F : List rw4 → Prop} {G : Prop} : lkp F G t_Model_hasSafe 106 = F [(.iinc 3 1, 3, 0, 0), (.goto (-107), 3, 2, 0)] := propext Iff.rfl
theorem e_Model_hasSafe_112 {F : List rw4 → Prop} {G : Prop} : lkp F G t_Model_hasSafe 112 = F [(.iconst 0, 1, 0, 0), (.ireturn, 1, 1, 0)] := propext Iff.rfl
theorem o_Model_hasSafe : tOk k_Model_hasSafe t_Model_hasSafe = true := by decide +kernel
/-- DroppedPiecesModel.isPawnMate(IIII)Z; heads of loops: [] -/
def t_Model_isPawnMate : tb4 := [
  (0, [(.iload_n 3, 1, 0, 0), (.bipush 82, 2, 0, 0), (.if_icmp .eq 5, 3, 8, 0)]),
  (6, [(.iconst 0, 1, 0, 0), (.ireturn, 1, 1, 0)]),
  (8, [(.aload_n 0, 1, 0, 0), (.iload_n 1, 1, 0, 0), (.iload_n 2, 1, 0, 0), (.iload_n 3, 1, 0, 0), (.iload 4, 2, 0, 0), (.iconst 0, 1, 0, 0), (.invokevirtual 84, 3, 78, 5), (.aload_n 0, 1, 0, 0), (.iconst 1, 1, 0, 0), (.iload_n 2, 1, 0, 0), (.isub, 1, 0, 0), (.invokevirtual 88, 3, 73, 1), (.ifCond .eq 20, 3, 45, 0)]),
  (28, [(.aload_n 0, 1, 0, 0), (.iload_n 1, 1, 0, 0), (.iconst 1, 1, 0, 0), (.iadd, 1, 0, 0), (.iconst 1, 1, 0, 0), (.iload_n 2, 1, 0, 0), (.isub, 1, 0, 0), (.invokevirtual 99, 3, 81, 2), (.ifCond .ne 7, 3, 45, 0)]),
  (41, [(.iconst 1, 1, 0, 0), (.goto 4, 3, 46, 0)]),
  (45, [(.iconst 0, 1, 0, 0)]),
  (46, [(.istore 5, 2, 0, 0), (.aload_n 0, 1, 0, 0), (.iload_n 1, 1, 0, 0), (.iload_n 2, 1, 0, 0), (.iload_n 3, 1, 0, 0), (.iload 4, 2, 0, 0), (.iconst 0, 1, 0, 0), (.invokevirtual 92, 3, 79, 5), (.iload 5, 2, 0, 0), (.ireturn, 1, 1, 0)])]
theorem e_Model_isPawnMate_0 {F : List rw4 → Prop} {G : Prop} : lkp F G t_Model_isPawnMate 0 = F [(.iload_n 3, 1, 0, 0), (.bipush 82, 2, 0, 0), (.if_icmp .eq 5, 3, 8, 0)] := propext Iff.rfl
theorem e_Model_isPawnMate_6 {F : List rw4 → Prop} {G : Prop} : lkp F G t_Model_isPawnMate 6 = F [(.iconst 0, 1, 0, 0), (.ireturn, 1, 1, 0)] := propext Iff.rfl
theorem e_Model_isPawnMate_8 {F : List rw4 → Prop} {G : Prop} : lkp F G t_Model_isPawnMate 8 = F [(.aload_n 0, 1, 0, 0), (.iload_n 1, 1, 0, 0), (.iload_n 2, 1, 0, 0), (.iload_n 3, 1, 0, 0), (.iload 4, 2, 0, 0), (.iconst 0, 1, 0, 0), (.invokevirtual 84, 3, 78, 5), (.aload_n 0, 1, 0, 0), (.iconst 1, 1, 0, 0), (.iload_n 2, 1, 0, 0), (.isub, 1, 0, 0), (.invokevirtual 88, 3, 73, 1), (.ifCond .eq 20, 3, 45, 0)] := propext Iff.rfl
theorem e_Model_isPawnMate_28 {F : List rw4 → Prop} {G : Prop} : lkp F G t_Model_isPawnMate 28 = F [(.aload_n 0, 1, 0, 0), (.iload_n 1, 1, 0, 0), (.iconst 1, 1, 0, 0), (.iadd, 1, 0, 0), (.iconst 1, 1, 0, 0), (.iload_n 2, 1, 0, 0), (.isub, 1, 0, 0), (.invokevirtual 99, 3, 81, 2), (.ifCond .ne 7, 3, 45, 0)] := propext Iff.rfl
theorem e_Model_isPawnMate_41 {F : List rw4 → Prop} {G : Prop} : lkp F G t_Model_isPawnMate 41 = F [(.iconst 1, 1, 0, 0), (.goto 4, 3, 46, 0)] := propext Iff.rfl
theorem e_Model_isPawnMate_45 {F : List rw4 → Prop} {G : Prop} : lkp F G t_Model_isPawnMate 45 = F [(.iconst 0, 1, 0, 0)] := propext Iff.rfl
theorem e_Model_isPawnMate_46 {F : List rw4 → Prop} {G : Prop} : lkp F G t_Model_isPawnMate 46 = F [(.istore 5, 2, 0, 0), (.aload_n 0, 1, 0, 0), (.iload_n 1, 1, 0, 0), (.iload_n 2, 1, 0, 0), (.iload_n 3, 1, 0, 0), (.iload 4, 2, 0, 0), (.iconst 0, 1, 0, 0), (.invokevirtual 92, 3, 79, 5), (.iload 5, 2, 0, 0), (.ireturn, 1, 1, 0)] := propext Iff.rfl
theorem o_Model_isPawnMate : tOk k_Model_isPawnMate t_Model_isPawnMate = true := by decide +kernel
/-- DroppedPiecesModel.isAllowed(IIIII)Z; heads of loops: [] -/
def t_Model_isAllowed : tb4 := [
  (0, [(.aload_n 0, 1, 0, 0), (.iload_n 1, 1, 0, 0), (.iload_n 2, 1, 0, 0), (.iload_n 3, 1, 0, 0), (.iload 4, 2, 0, 0), (.iload 5, 2, 0, 0), (.invokevirtual 95, 3, 80, 5), (.ifCond .eq 19, 3, 30, 0)]),
  (14, [(.aload_n 0, 1, 0, 0), (.iload_n 1, 1, 0, 0), (.iload_n 2, 1, 0, 0), (.iload_n 3, 1, 0, 0), (.iload 4, 2, 0, 0), (.invokevirtual 102, 3, 82, 4), (.ifCond .ne 7, 3, 30, 0)]),
  (26, [(.iconst 1, 1, 0, 0), (.goto 4, 3, 31, 0)]),
  (30, [(.iconst 0, 1, 0, 0)]),
  (31, [(.ireturn, 1, 1, 0)])]
theorem e_Model_isAllowed_0 {F : List rw4 → Prop} {G : Prop} : lkp F G t_Model_isAllowed 0 = F [(.aload_n 0, 1, 0, 0), (.iload_n 1, 1, 0, 0), (.iload_n 2, 1, 0, 0), (.iload_n 3, 1, 0, 0), (.iload 4, 2, 0, 0), (.iload 5, 2, 0, 0), (.invokevirtual 95, 3, 80, 5), (.ifCond .eq 19, 3, 30, 0)] := propext Iff.rfl
theorem e_Model_isAllowed_14 {F : List rw4 → Prop} {G : Prop} : lkp F G t_Model_isAllowed 14 = F [(.aload_n 0, 1, 0, 0), (.iload_n 1, 1, 0, 0), (.iload_n 2, 1, 0, 0), (.iload_n 3, 1, 0, 0), (.iload 4, 2, 0, 0), (.invokevirtual 102, 3, 82, 4), (.ifCond .ne 7, 3, 30, 0)] := propext Iff.rfl
theorem e_Model_isAllowed_26 {F : List rw4 → Prop} {G : Prop} : lkp F G t_Model_isAllowed 26 = F [(.iconst 1, 1, 0, 0), (.goto 4, 3, 31, 0)] := propext Iff.rfl
theorem e_Model_isAllowed_30 {F : List rw4 → Prop} {G : Prop} : lkp F G t_Model_isAllowed 30 = F [(.iconst 0, 1, 0, 0)] := propext Iff.rfl
theorem e_Model_isAllowed_31 {F : List rw4 → Prop} {G : Prop} : lkp F G t_Model_isAllowed 31 = F [(.ireturn, 1, 1, 0)] := propext Iff.rfl
theorem o_Model_isAllowed : tOk k_Model_isAllowed t_Model_isAllowed = true := by decide +kernel
/-- DroppedPiecesModel.many(III)I; heads of loops: [6, 75, 96] -/
def t_Model_many : tb4 := [
  (0, [(.iconst 0, 1, 0, 0), (.istore 4, 2, 0, 0), (.iconst 0, 1, 0, 0), (.istore 5, 2, 0, 0)]),
  (6, [(.iload 5, 2, 0, 0), (.bipush 89, 2, 0, 0), (.if_icmp .ge 136, 3, 146, 0)]),
  (13, [(.iload 4, 2, 0, 0), (.iload_n 3, 1, 0, 0), (.if_icmp .ge 130, 3, 146, 0)]),
  (19, [(.iload 5, 2, 0, 0), (.bipush 81, 2, 0, 0), (.if_icmp .ge 17, 3, 40, 0)]),
  (26, [(.aload_n 0, 1, 0, 0), (.getfield 7, 3, 6, 1), (.iload 5, 2, 0, 0), (.iaload, 1, 0, 0), (.iload_n 2, 1, 0, 0), (.invokestatic 54, 3, 66, 2), (.goto 33, 3, 70, 0)]),
  (40, [(.iload 5, 2, 0, 0), (.bipush 81, 2, 0, 0), (.if_icmp .le 25, 3, 69, 0)]),
  (47, [(.aload_n 0, 1, 0, 0), (.getfield 13, 3, 6, 2), (.bipush 8, 2, 0, 0), (.iload_n 2, 1, 0, 0), (.imul, 1, 0, 0), (.iload 5, 2, 0, 0), (.iadd, 1, 0, 0), (.bipush 81, 2, 0, 0), (.isub, 1, 0, 0), (.iaload, 1, 0, 0), (.ifCond .le 7, 3, 69, 0)]),
  (65, [(.iconst 1, 1, 0, 0), (.goto 4, 3, 70, 0)]),
  (69, [(.iconst 0, 1, 0, 0)]),
  (70, [(.istore 6, 2, 0, 0), (.iconst 0, 1, 0, 0), (.istore 7, 2, 0, 0)]),
  (75, [(.iload 7, 2, 0, 0), (.bipush 81, 2, 0, 0), (.if_icmp .ge 61, 3, 140, 0)]),
  (82, [(.iload 6, 2, 0, 0), (.ifCond .eq 56, 3, 140, 0)]),
  (87, [(.iload 4, 2, 0, 0), (.iload_n 3, 1, 0, 0), (.if_icmp .ge 50, 3, 140, 0)]),
  (93, [(.iconst 0, 1, 0, 0), (.istore 8, 2, 0, 0)]),
  (96, [(.iload 8, 2, 0, 0), (.iconst 2, 1, 0, 0), (.if_icmp .ge 35, 3, 134, 0)]),
  (102, [(.aload_n 0, 1, 0, 0), (.iload_n 1, 1, 0, 0), (.iload_n 2, 1, 0, 0), (.iload 5, 2, 0, 0), (.iload 7, 2, 0, 0), (.iload 8, 2, 0, 0), (.invokevirtual 105, 3, 83, 5), (.ifCond .eq 10, 3, 124, 0)]),
  (117, [(.iload 4, 2, 0, 0), (.iconst 1, 1, 0, 0), (.iadd, 1, 0, 0), (.goto 5, 3, 126, 0)]),
  (124, [(.iload 4, 2, 0, 0)]),
  (126, [(.istore 4, 2, 0, 0), (.iinc 8 1, 3, 0, 0), (.goto (-35), 3, 96, 0)]),
  (134, [(.iinc 7 1, 3, 0, 0), (.goto (-62), 3, 75, 0)]),
  (140, [(.iinc 5 1, 3, 0, 0), (.goto (-137), 3, 6, 0)]),
  (146, [(.iload 4, 2, 0, 0), (.iload_n 3, 1, 0, 0), (.if_icmp .le 7, 3, 156, 0)]),
  (152, [(.iload_n 3, 1, 0, 0), (.goto 5, 3, 158, 0)]),
  (156, [(.iload 4, 2, 0, 0)]),
  (158, [(.ireturn, 1, 0, 0)])]
theorem e_Model_many_0 {F : List rw4 → Prop} {G : Prop} : lkp F G t_Model_many 0 = F [(.iconst 0, 1, 0, 0), (.istore 4, 2, 0, 0), (.iconst 0, 1, 0, 0), (.istore 5, 2, 0, 0)] := propext Iff.rfl
theorem e_Model_many_6 {F : List rw4 → Prop} {G : Prop} : lkp F G t_Model_many 6 = F [(.iload 5, 2, 0, 0), (.bipush 89, 2, 0, 0), (.if_icmp .ge 136, 3, 146, 0)] := propext Iff.rfl
theorem e_Model_many_13 {F : List rw4 → Prop} {G : Prop} : lkp F G t_Model_many 13 = F [(.iload 4, 2, 0, 0), (.iload_n 3, 1, 0, 0), (.if_icmp .ge 130, 3, 146, 0)] := propext Iff.rfl
theorem e_Model_many_19 {F : List rw4 → Prop} {G : Prop} : lkp F G t_Model_many 19 = F [(.iload 5, 2, 0, 0), (.bipush 81, 2, 0, 0), (.if_icmp .ge 17, 3, 40, 0)] := propext Iff.rfl
theorem e_Model_many_26 {F : List rw4 → Prop} {G : Prop} : lkp F G t_Model_many 26 = F [(.aload_n 0, 1, 0, 0), (.getfield 7, 3, 6, 1), (.iload 5, 2, 0, 0), (.iaload, 1, 0, 0), (.iload_n 2, 1, 0, 0), (.invokestatic 54, 3, 66, 2), (.goto 33, 3, 70, 0)] := propext Iff.rfl
theorem e_Model_many_40 {F : List rw4 → Prop} {G : Prop} : lkp F G t_Model_many 40 = F [(.iload 5, 2, 0, 0), (.bipush 81, 2, 0, 0), (.if_icmp .le 25, 3, 69, 0)] := propext Iff.rfl
theorem e_Model_many_47 {F : List rw4 → Prop} {G : Prop} : lkp F G t_Model_many 47 = F [(.aload_n 0, 1, 0, 0), (.getfield 13, 3, 6, 2), (.bipush 8, 2, 0, 0), (.iload_n 2, 1, 0, 0), (.imul, 1, 0, 0), (.iload 5, 2, 0, 0), (.iadd, 1, 0, 0), (.bipush 81, 2, 0, 0), (.isub, 1, 0, 0), (.iaload, 1, 0, 0), (.ifCond .le 7, 3, 69, 0)] := propext Iff.rfl
theorem e_Model_many_65 {F : List rw4 → Prop} {G : Prop} : lkp F G t_Model_many 65 = F [(.iconst 1, 1, 0, 0), (.goto 4, 3, 70, 0)] := propext Iff.rfl
theorem e_Model_many_69 {F : List rw4 → Prop} {G : Prop} : lkp F G t_Model_many 69 = F [(.iconst 0, 1, 0, 0)] := propext Iff.rfl
theorem e_Model_many_70 {F : List rw4 → Prop} {G : Prop} : lkp F G t_Model_many 70 = F [(.istore 6, 2, 0, 0), (.iconst 0, 1, 0, 0), (.istore 7, 2, 0, 0)] := propext Iff.rfl
theorem e_Model_many_75 {F : List rw4 → Prop} {G : Prop} : lkp F G t_Model_many 75 = F [(.iload 7, 2, 0, 0), (.bipush 81, 2, 0, 0), (.if_icmp .ge 61, 3, 140, 0)] := propext Iff.rfl
theorem e_Model_many_82 {F : List rw4 → Prop} {G : Prop} : lkp F G t_Model_many 82 = F [(.iload 6, 2, 0, 0), (.ifCond .eq 56, 3, 140, 0)] := propext Iff.rfl
theorem e_Model_many_87 {F : List rw4 → Prop} {G : Prop} : lkp F G t_Model_many 87 = F [(.iload 4, 2, 0, 0), (.iload_n 3, 1, 0, 0), (.if_icmp .ge 50, 3, 140, 0)] := propext Iff.rfl
theorem e_Model_many_93 {F : List rw4 → Prop} {G : Prop} : lkp F G t_Model_many 93 = F [(.iconst 0, 1, 0, 0), (.istore 8, 2, 0, 0)] := propext Iff.rfl
theorem e_Model_many_96 {F : List rw4 → Prop} {G : Prop} : lkp F G t_Model_many 96 = F [(.iload 8, 2, 0, 0), (.iconst 2, 1, 0, 0), (.if_icmp .ge 35, 3, 134, 0)] := propext Iff.rfl
theorem e_Model_many_102 {F : List rw4 → Prop} {G : Prop} : lkp F G t_Model_many 102 = F [(.aload_n 0, 1, 0, 0), (.iload_n 1, 1, 0, 0), (.iload_n 2, 1, 0, 0), (.iload 5, 2, 0, 0), (.iload 7, 2, 0, 0), (.iload 8, 2, 0, 0), (.invokevirtual 105, 3, 83, 5), (.ifCond .eq 10, 3, 124, 0)] := propext Iff.rfl
theorem e_Model_many_117 {F : List rw4 → Prop} {G : Prop} : lkp F G t_Model_many 117 = F [(.iload 4, 2, 0, 0), (.iconst 1, 1, 0, 0), (.iadd, 1, 0, 0), (.goto 5, 3, 126, 0)] := propext Iff.rfl
theorem e_Model_many_124 {F : List rw4 → Prop} {G : Prop} : lkp F G t_Model_many 124 = F [(.iload 4, 2, 0, 0)] := propext Iff.rfl
theorem e_Model_many_126 {F : List rw4 → Prop} {G : Prop} : lkp F G t_Model_many 126 = F [(.istore 4, 2, 0, 0), (.iinc 8 1, 3, 0, 0), (.goto (-35), 3, 96, 0)] := propext Iff.rfl
theorem e_Model_many_134 {F : List rw4 → Prop} {G : Prop} : lkp F G t_Model_many 134 = F [(.iinc 7 1, 3, 0, 0), (.goto (-62), 3, 75, 0)] := propext Iff.rfl
theorem e_Model_many_140 {F : List rw4 → Prop} {G : Prop} : lkp F G t_Model_many 140 = F [(.iinc 5 1, 3, 0, 0), (.goto (-137), 3, 6, 0)] := propext Iff.rfl
theorem e_Model_many_146 {F : List rw4 → Prop} {G : Prop} : lkp F G t_Model_many 146 = F [(.iload 4, 2, 0, 0), (.iload_n 3, 1, 0, 0), (.if_icmp .le 7, 3, 156, 0)] := propext Iff.rfl
theorem e_Model_many_152 {F : List rw4 → Prop} {G : Prop} : lkp F G t_Model_many 152 = F [(.iload_n 3, 1, 0, 0), (.goto 5, 3, 158, 0)] := propext Iff.rfl
theorem e_Model_many_156 {F : List rw4 → Prop} {G : Prop} : lkp F G t_Model_many 156 = F [(.iload 4, 2, 0, 0)] := propext Iff.rfl
theorem e_Model_many_158 {F : List rw4 → Prop} {G : Prop} : lkp F G t_Model_many 158 = F [(.ireturn, 1, 0, 0)] := propext Iff.rfl
theorem o_Model_many : tOk k_Model_many t_Model_many = true := by decide +kernel
/-- DroppedPiecesModel.moveAt(I)I; heads of loops: [4, 68, 83] -/
def t_Model_moveAt : tb4 := [
  (0, [(.iload_n 1, 1, 0, 0), (.istore_n 2, 1, 0, 0), (.iconst 0, 1, 0, 0), (.istore_n 3, 1, 0, 0)]),
  (4, [(.iload_n 3, 1, 0, 0), (.bipush 89, 2, 0, 0), (.if_icmp .ge 140, 3, 147, 0)]),
  (10, [(.iload_n 3, 1, 0, 0), (.bipush 81, 2, 0, 0), (.if_icmp .ge 19, 3, 32, 0)]),
  (16, [(.aload_n 0, 1, 0, 0), (.getfield 7, 3, 6, 1), (.iload_n 3, 1, 0, 0), (.iaload, 1, 0, 0), (.aload_n 0, 1, 0, 0), (.getfield 108, 3, 6, 5), (.invokestatic 54, 3, 66, 2), (.goto 34, 3, 63, 0)]),
  (32, [(.iload_n 3, 1, 0, 0), (.bipush 81, 2, 0, 0), (.if_icmp .le 27, 3, 62, 0)]),
  (38, [(.aload_n 0, 1, 0, 0), (.getfield 13, 3, 6, 2), (.bipush 8, 2, 0, 0), (.aload_n 0, 1, 0, 0), (.getfield 108, 3, 6, 5), (.imul, 1, 0, 0), (.iload_n 3, 1, 0, 0), (.iadd, 1, 0, 0), (.bipush 81, 2, 0, 0), (.isub, 1, 0, 0), (.iaload, 1, 0, 0), (.ifCond .le 7, 3, 62, 0)]),
  (58, [(.iconst 1, 1, 0, 0), (.goto 4, 3, 63, 0)]),
  (62, [(.iconst 0, 1, 0, 0)]),
  (63, [(.istore 4, 2, 0, 0), (.iconst 0, 1, 0, 0), (.istore 5, 2, 0, 0)]),
  (68, [(.iload 5, 2, 0, 0), (.bipush 81, 2, 0, 0), (.if_icmp .ge 69, 3, 141, 0)]),
  (75, [(.iload 4, 2, 0, 0), (.ifCond .eq 64, 3, 141, 0)]),
  (80, [(.iconst 0, 1, 0, 0), (.istore 6, 2, 0, 0)]),
  (83, [(.iload 6, 2, 0, 0), (.iconst 2, 1, 0, 0), (.if_icmp .ge 49, 3, 135, 0)]),
  (89, [(.aload_n 0, 1, 0, 0), (.iconst 0, 1, 0, 0), (.aload_n 0, 1, 0, 0), (.getfield 108, 3, 6, 5), (.iload_n 3, 1, 0, 0), (.iload 5, 2, 0, 0), (.iload 6, 2, 0, 0), (.invokevirtual 105, 3, 83, 5), (.ifCond .eq 26, 3, 129, 0)]),
  (106, [(.iload_n 2, 1, 0, 0), (.ifCond .ne 19, 3, 126, 0)]),
  (110, [(.iload_n 3, 1, 0, 0), (.sipush 128, 3, 0, 0), (.iload 5, 2, 0, 0), (.imul, 1, 0, 0), (.iadd, 1, 0, 0), (.sipush 16384, 3, 0, 0), (.iload 6, 2, 0, 0), (.imul, 1, 0, 0), (.iadd, 1, 0, 0), (.ireturn, 1, 0, 0)]),
  (126, [(.iinc 2 (-1), 3, 0, 0)]),
  (129, [(.iinc 6 1, 3, 0, 0), (.goto (-49), 3, 83, 0)]),
  (135, [(.iinc 5 1, 3, 0, 0), (.goto (-70), 3, 68, 0)]),
  (141, [(.iinc 3 1, 3, 0, 0), (.goto (-140), 3, 4, 0)]),
  (147, [(.iconst (-1), 1, 0, 0), (.ireturn, 1, 0, 0)])]
theorem e_Model_moveAt_0 {F : List rw4 → Prop} {G : Prop} : lkp F G t_Model_moveAt 0 = F [(.iload_n 1, 1, 0, 0), (.istore_n 2, 1, 0, 0), (.iconst 0, 1, 0, 0), (.istore_n 3, 1, 0, 0)] := propext Iff.rfl
theorem e_Model_moveAt_4 {F : List rw4 → Prop} {G : Prop} : lkp F G t_Model_moveAt 4 = F [(.iload_n 3, 1, 0, 0), (.bipush 89, 2, 0, 0), (.if_icmp .ge 140, 3, 147, 0)] := propext Iff.rfl
theorem e_Model_moveAt_10 {F : List rw4 → Prop} {G : Prop} : lkp F G t_Model_moveAt 10 = F [(.iload_n 3, 1, 0, 0), (.bipush 81, 2, 0, 0), (.if_icmp .ge 19, 3, 32, 0)] := propext Iff.rfl
theorem e_Model_moveAt_16 {F : List rw4 → Prop} {G : Prop} : lkp F G t_Model_moveAt 16 = F [(.aload_n 0, 1, 0, 0), (.getfield 7, 3, 6, 1), (.iload_n 3, 1, 0, 0), (.iaload, 1, 0, 0), (.aload_n 0, 1, 0, 0), (.getfield 108, 3, 6, 5), (.invokestatic 54, 3, 66, 2), (.goto 34, 3, 63, 0)] := propext Iff.rfl
theorem e_Model_moveAt_32 {F : List rw4 → Prop} {G : Prop} : lkp F G t_Model_moveAt 32 = F [(.iload_n 3, 1, 0, 0), (.bipush 81, 2, 0, 0), (.if_icmp .le 27, 3, 62, 0)] := propext Iff.rfl
theorem e_Model_moveAt_38 {F : List rw4 → Prop} {G : Prop} : lkp F G t_Model_moveAt 38 = F [(.aload_n 0, 1, 0, 0), (.getfield 13, 3, 6, 2), (.bipush 8, 2, 0, 0), (.aload_n 0, 1, 0, 0), (.getfield 108, 3, 6, 5), (.imul, 1, 0, 0), (.iload_n 3, 1, 0, 0), (.iadd, 1, 0, 0), (.bipush 81, 2, 0, 0), (.isub, 1, 0, 0), (.iaload, 1, 0, 0), (.ifCond .le 7, 3, 62, 0)] := propext Iff.rfl
theorem e_Model_moveAt_58 {F : List rw4 → Prop} {G : Prop} : lkp F G t_Model_moveAt 58 = F [(.iconst 1, 1, 0, 0), (.goto 4, 3, 63, 0)] := propext Iff.rfl
theorem e_Model_moveAt_62 {F : List rw4 → Prop} {G : Prop} : lkp F G t_Model_moveAt 62 = F [(.iconst 0, 1, 0, 0)] := propext Iff.rfl
theorem e_Model_moveAt_63 {F : List rw4 → Prop} {G : Prop} : lkp F G t_Model_moveAt 63 = F [(.istore 4, 2, 0, 0), (.iconst 0, 1, 0, 0), (.istore 5, 2, 0, 0)] := propext Iff.rfl
theorem e_Model_moveAt_68 {F : List rw4 → Prop} {G : Prop} : lkp F G t_Model_moveAt 68 = F [(.iload 5, 2, 0, 0), (.bipush 81, 2, 0, 0), (.if_icmp .ge 69, 3, 141, 0)] := propext Iff.rfl
theorem e_Model_moveAt_75 {F : List rw4 → Prop} {G : Prop} : lkp F G t_Model_moveAt 75 = F [(.iload 4, 2, 0, 0), (.ifCond .eq 64, 3, 141, 0)] := propext Iff.rfl
theorem e_Model_moveAt_80 {F : List rw4 → Prop} {G : Prop} : lkp F G t_Model_moveAt 80 = F [(.iconst 0, 1, 0, 0), (.istore 6, 2, 0, 0)] := propext Iff.rfl
theorem e_Model_moveAt_83 {F : List rw4 → Prop} {G : Prop} : lkp F G t_Model_moveAt 83 = F [(.iload 6, 2, 0, 0), (.iconst 2, 1, 0, 0), (.if_icmp .ge 49, 3, 135, 0)] := propext Iff.rfl
theorem e_Model_moveAt_89 {F : List rw4 → Prop} {G : Prop} : lkp F G t_Model_moveAt 89 = F [(.aload_n 0, 1, 0, 0), (.iconst 0, 1, 0, 0), (.aload_n 0, 1, 0, 0), (.getfield 108, 3, 6, 5), (.iload_n 3, 1, 0, 0), (.iload 5, 2, 0, 0), (.iload 6, 2, 0, 0), (.invokevirtual 105, 3, 83, 5), (.ifCond .eq 26, 3, 129, 0)] := propext Iff.rfl
theorem e_Model_moveAt_106 {F : List rw4 → Prop} {G : Prop} : lkp F G t_Model_moveAt 106 = F [(.iload_n 2, 1, 0, 0), (.ifCond .ne 19, 3, 126, 0)] := propext Iff.rfl
theorem e_Model_moveAt_110 {F : List rw4 → Prop} {G : Prop} : lkp F G t_Model_moveAt 110 = F [(.iload_n 3, 1, 0, 0), (.sipush 128, 3, 0, 0), (.iload 5, 2, 0, 0), (.imul, 1, 0, 0), (.iadd, 1, 0, 0), (.sipush 16384, 3, 0, 0), (.iload 6, 2, 0, 0), (.imul, 1, 0, 0), (.iadd, 1, 0, 0), (.ireturn, 1, 0, 0)] := propext Iff.rfl
theorem e_Model_moveAt_126 {F : List rw4 → Prop} {G : Prop} : lkp F G t_Model_moveAt 126 = F [(.iinc 2 (-1), 3, 0, 0)] := propext Iff.rfl
theorem e_Model_moveAt_129 {F : List rw4 → Prop} {G : Prop} : lkp F G t_Model_moveAt 129 = F [(.iinc 6 1, 3, 0, 0), (.goto (-49), 3, 83, 0)] := propext Iff.rfl
theorem e_Model_moveAt_135 {F : List rw4 → Prop} {G : Prop} : lkp F G t_Model_moveAt 135 = F [(.iinc 5 1, 3, 0, 0), (.goto (-70), 3, 68, 0)] := propext Iff.rfl
theorem e_Model_moveAt_141 {F : List rw4 → Prop} {G : Prop} : lkp F G t_Model_moveAt 141 = F [(.iinc 3 1, 3, 0, 0), (.goto (-140), 3, 4, 0)] := propext Iff.rfl
theorem e_Model_moveAt_147 {F : List rw4 → Prop} {G : Prop} : lkp F G t_Model_moveAt 147 = F [(.iconst (-1), 1, 0, 0), (.ireturn, 1, 0, 0)] := propext Iff.rfl
theorem o_Model_moveAt : tOk k_Model_moveAt t_Model_moveAt = true := by decide +kernel
/-- DroppedPiecesModel.isCode(I)Z; heads of loops: [] -/
def t_Model_isCode : tb4 := [
  (0, [(.iload_n 0, 1, 0, 0), (.ifCond .lt 34, 3, 35, 0)]),
  (4, [(.iload_n 0, 1, 0, 0), (.ldc 111, 2, 32768, 0), (.if_icmp .ge 28, 3, 35, 0)]),
  (10, [(.iload_n 0, 1, 0, 0), (.bipush 127, 2, 0, 0), (.iand, 1, 1, 7), (.bipush 89, 2, 0, 0), (.if_icmp .ge 19, 3, 35, 0)]),
  (19, [(.iload_n 0, 1, 0, 0), (.bipush 7, 2, 0, 0), (.ishr, 1, 0, 0), (.bipush 127, 2, 0, 0), (.iand, 1, 1, 7), (.bipush 81, 2, 0, 0), (.if_icmp .ge 7, 3, 35, 0)]),
  (31, [(.iconst 1, 1, 0, 0), (.goto 4, 3, 36, 0)]),
  (35, [(.iconst 0, 1, 0, 0)]),
  (36, [(.ireturn, 1, 1, 0)])]
theorem e_Model_isCode_0 {F : List rw4 → Prop} {G : Prop} : lkp F G t_Model_isCode 0 = F [(.iload_n 0, 1, 0, 0), (.ifCond .lt 34, 3, 35, 0)] := propext Iff.rfl
theorem e_Model_isCode_4 {F : List rw4 → Prop} {G : Prop} : lkp F G t_Model_isCode 4 = F [(.iload_n 0, 1, 0, 0), (.ldc 111, 2, 32768, 0), (.if_icmp .ge 28, 3, 35, 0)] := propext Iff.rfl
theorem e_Model_isCode_10 {F : List rw4 → Prop} {G : Prop} : lkp F G t_Model_isCode 10 = F [(.iload_n 0, 1, 0, 0), (.bipush 127, 2, 0, 0), (.iand, 1, 1, 7), (.bipush 89, 2, 0, 0), (.if_icmp .ge 19, 3, 35, 0)] := propext Iff.rfl
theorem e_Model_isCode_19 {F : List rw4 → Prop} {G : Prop} : lkp F G t_Model_isCode 19 = F [(.iload_n 0, 1, 0, 0), (.bipush 7, 2, 0, 0), (.ishr, 1, 0, 0), (.bipush 127, 2, 0, 0), (.iand, 1, 1, 7), (.bipush 81, 2, 0, 0), (.if_icmp .ge 7, 3, 35, 0)] := propext Iff.rfl
theorem e_Model_isCode_31 {F : List rw4 → Prop} {G : Prop} : lkp F G t_Model_isCode 31 = F [(.iconst 1, 1, 0, 0), (.goto 4, 3, 36, 0)] := propext Iff.rfl
theorem e_Model_isCode_35 {F : List rw4 → Prop} {G : Prop} : lkp F G t_Model_isCode 35 = F [(.iconst 0, 1, 0, 0)] := propext Iff.rfl
theorem e_Model_isCode_36 {F : List rw4 → Prop} {G : Prop} : lkp F G t_Model_isCode 36 = F [(.ireturn, 1, 1, 0)] := propext Iff.rfl
theorem o_Model_isCode : tOk k_Model_isCode t_Model_isCode = true := by decide +kernel
/-- DroppedPiecesModel.isLegalNow(I)Z; heads of loops: [] -/
def t_Model_isLegalNow : tb4 := [
  (0, [(.iload_n 1, 1, 0, 0), (.invokestatic 112, 3, 86, 1), (.ifCond .eq 34, 3, 38, 0)]),
  (7, [(.aload_n 0, 1, 0, 0), (.iconst 0, 1, 0, 0), (.aload_n 0, 1, 0, 0), (.getfield 108, 3, 6, 5), (.iload_n 1, 1, 0, 0), (.bipush 127, 2, 0, 0), (.iand, 1, 1, 7), (.iload_n 1, 1, 0, 0), (.bipush 7, 2, 0, 0), (.ishr, 1, 0, 0), (.bipush 127, 2, 0, 0), (.iand, 1, 1, 7), (.iload_n 1, 1, 0, 0), (.bipush 14, 2, 0, 0), (.ishr, 1, 0, 0), (.invokevirtual 105, 3, 83, 5), (.ifCond .eq 7, 3, 38, 0)]),
  (34, [(.iconst 1, 1, 0, 0), (.goto 4, 3, 39, 0)]),
  (38, [(.iconst 0, 1, 0, 0)]),
  (39, [(.ireturn, 1, 1, 0)])]
theorem e_Model_isLegalNow_0 {F : List rw4 → Prop} {G : Prop} : lkp F G t_Model_isLegalNow 0 = F [(.iload_n 1, 1, 0, 0), (.invokestatic 112, 3, 86, 1), (.ifCond .eq 34, 3, 38, 0)] := propext Iff.rfl
theorem e_Model_isLegalNow_7 {F : List rw4 → Prop} {G : Prop} : lkp F G t_Model_isLegalNow 7 = F [(.aload_n 0, 1, 0, 0), (.iconst 0, 1, 0, 0), (.aload_n 0, 1, 0, 0), (.getfield 108, 3, 6, 5), (.iload_n 1, 1, 0, 0), (.bipush 127, 2, 0, 0), (.iand, 1, 1, 7), (.iload_n 1, 1, 0, 0), (.bipush 7, 2, 0, 0), (.ishr, 1, 0, 0), (.bipush 127, 2, 0, 0), (.iand, 1, 1, 7), (.iload_n 1, 1, 0, 0), (.bipush 14, 2, 0, 0), (.ishr, 1, 0, 0), (.invokevirtual 105, 3, 83, 5), (.ifCond .eq 7, 3, 38, 0)] := propext Iff.rfl
theorem e_Model_isLegalNow_34 {F : List rw4 → Prop} {G : Prop} : lkp F G t_Model_isLegalNow 34 = F [(.iconst 1, 1, 0, 0), (.goto 4, 3, 39, 0)] := propext Iff.rfl
theorem e_Model_isLegalNow_38 {F : List rw4 → Prop} {G : Prop} : lkp F G t_Model_isLegalNow 38 = F [(.iconst 0, 1, 0, 0)] := propext Iff.rfl
theorem e_Model_isLegalNow_39 {F : List rw4 → Prop} {G : Prop} : lkp F G t_Model_isLegalNow 39 = F [(.ireturn, 1, 1, 0)] := propext Iff.rfl
theorem o_Model_isLegalNow : tOk k_Model_isLegalNow t_Model_isLegalNow = true := by decide +kernel
/-- DroppedPiecesModel.emptyAll()V; heads of loops: [2, 23] -/
def t_Model_emptyAll : tb4 := [
  (0, [(.iconst 0, 1, 0, 0), (.istore_n 1, 1, 0, 0)]),
  (2, [(.iload_n 1, 1, 0, 0), (.bipush 81, 2, 0, 0), (.if_icmp .ge 16, 3, 21, 0)]),
  (8, [(.aload_n 0, 1, 0, 0), (.getfield 7, 3, 6, 1), (.iload_n 1, 1, 0, 0), (.iconst 0, 1, 0, 0), (.iastore, 1, 0, 0), (.iinc 1 1, 3, 0, 0), (.goto (-16), 3, 2, 0)]),
  (21, [(.iconst 0, 1, 0, 0), (.istore_n 1, 1, 0, 0)]),
  (23, [(.iload_n 1, 1, 0, 0), (.bipush 16, 2, 0, 0), (.if_icmp .ge 16, 3, 42, 0)]),
  (29, [(.aload_n 0, 1, 0, 0), (.getfield 13, 3, 6, 2), (.iload_n 1, 1, 0, 0), (.iconst 0, 1, 0, 0), (.iastore, 1, 0, 0), (.iinc 1 1, 3, 0, 0), (.goto (-16), 3, 23, 0)]),
  (42, [(.aload_n 0, 1, 0, 0), (.iconst 0, 1, 0, 0), (.putfield 115, 3, 6, 6), (.aload_n 0, 1, 0, 0), (.iconst 0, 1, 0, 0), (.putfield 108, 3, 6, 5), (.return_, 1, 0, 0)])]
theorem e_Model_emptyAll_0 {F : List rw4 → Prop} {G : Prop} : lkp F G t_Model_emptyAll 0 = F [(.iconst 0, 1, 0, 0), (.istore_n 1, 1, 0, 0)] := propext Iff.rfl
theorem e_Model_emptyAll_2 {F : List rw4 → Prop} {G : Prop} : lkp F G t_Model_emptyAll 2 = F [(.iload_n 1, 1, 0, 0), (.bipush 81, 2, 0, 0), (.if_icmp .ge 16, 3, 21, 0)] := propext Iff.rfl
theorem e_Model_emptyAll_8 {F : List rw4 → Prop} {G : Prop} : lkp F G t_Model_emptyAll 8 = F [(.aload_n 0, 1, 0, 0), (.getfield 7, 3, 6, 1), (.iload_n 1, 1, 0, 0), (.iconst 0, 1, 0, 0), (.iastore, 1, 0, 0), (.iinc 1 1, 3, 0, 0), (.goto (-16), 3, 2, 0)] := propext Iff.rfl
theorem e_Model_emptyAll_21 {F : List rw4 → Prop} {G : Prop} : lkp F G t_Model_emptyAll 21 = F [(.iconst 0, 1, 0, 0), (.istore_n 1, 1, 0, 0)] := propext Iff.rfl
theorem e_Model_emptyAll_23 {F : List rw4 → Prop} {G : Prop} : lkp F G t_Model_emptyAll 23 = F [(.iload_n 1, 1, 0, 0), (.bipush 16, 2, 0, 0), (.if_icmp .ge 16, 3, 42, 0)] := propext Iff.rfl
theorem e_Model_emptyAll_29 {F : List rw4 → Prop} {G : Prop} : lkp F G t_Model_emptyAll 29 = F [(.aload_n 0, 1, 0, 0), (.getfield 13, 3, 6, 2), (.iload_n 1, 1, 0, 0), (.iconst 0, 1, 0, 0), (.iastore, 1, 0, 0), (.iinc 1 1, 3, 0, 0), (.goto (-16), 3, 23, 0)] := propext Iff.rfl
theorem e_Model_emptyAll_42 {F : List rw4 → Prop} {G : Prop} : lkp F G t_Model_emptyAll 42 = F [(.aload_n 0, 1, 0, 0), (.iconst 0, 1, 0, 0), (.putfield 115, 3, 6, 6), (.aload_n 0, 1, 0, 0), (.iconst 0, 1, 0, 0), (.putfield 108, 3, 6, 5), (.return_, 1, 0, 0)] := propext Iff.rfl
theorem o_Model_emptyAll : tOk k_Model_emptyAll t_Model_emptyAll = true := by decide +kernel
/-- DroppedPiecesModel.note()V; heads of loops: [10, 33, 82] -/
def t_Model_note : tb4 := [
  (0, [(.bipush 9, 2, 0, 0), (.aload_n 0, 1, 0, 0), (.getfield 115, 3, 6, 6), (.imul, 1, 0, 0), (.istore_n 1, 1, 0, 0), (.iconst 0, 1, 0, 0), (.istore_n 2, 1, 0, 0)]),
  (10, [(.iload_n 2, 1, 0, 0), (.bipush 9, 2, 0, 0), (.if_icmp .ge 18, 3, 31, 0)]),
  (16, [(.aload_n 0, 1, 0, 0), (.getfield 25, 3, 6, 9), (.iload_n 1, 1, 0, 0), (.iload_n 2, 1, 0, 0), (.iadd, 1, 0, 0), (.lconst 0, 1, 0, 0), (.lastore, 1, 0, 0), (.iinc 2 1, 3, 0, 0), (.goto (-18), 3, 10, 0)]),
  (31, [(.iconst 0, 1, 0, 0), (.istore_n 2, 1, 0, 0)]),
  (33, [(.iload_n 2, 1, 0, 0), (.bipush 81, 2, 0, 0), (.if_icmp .ge 44, 3, 80, 0)]),
  (39, [(.aload_n 0, 1, 0, 0), (.getfield 25, 3, 6, 9), (.iload_n 1, 1, 0, 0), (.iload_n 2, 1, 0, 0), (.bipush 12, 2, 0, 0), (.idiv, 1, 0, 0), (.iadd, 1, 0, 0), (.aload_n 0, 1, 0, 0), (.getfield 25, 3, 6, 9), (.iload_n 1, 1, 0, 0), (.iload_n 2, 1, 0, 0), (.bipush 12, 2, 0, 0), (.idiv, 1, 0, 0), (.iadd, 1, 0, 0), (.laload, 1, 0, 0), (.iconst 5, 1, 0, 0), (.lshl, 1, 0, 0), (.aload_n 0, 1, 0, 0), (.getfield 7, 3, 6, 1), (.iload_n 2, 1, 0, 0), (.iaload, 1, 0, 0), (.bipush 15, 2, 0, 0), (.iadd, 1, 0, 0), (.i2l, 1, 0, 0), (.lor, 1, 0, 0), (.lastore, 1, 0, 0), (.iinc 2 1, 3, 0, 0), (.goto (-44), 3, 33, 0)]),
  (80, [(.iconst 0, 1, 0, 0), (.istore_n 2, 1, 0, 0)]),
  (82, [(.iload_n 2, 1, 0, 0), (.bipush 16, 2, 0, 0), (.if_icmp .ge 48, 3, 133, 0)]),
  (88, [(.aload_n 0, 1, 0, 0), (.getfield 25, 3, 6, 9), (.iload_n 1, 1, 0, 0), (.bipush 7, 2, 0, 0), (.iadd, 1, 0, 0), (.iload_n 2, 1, 0, 0), (.bipush 8, 2, 0, 0), (.idiv, 1, 0, 0), (.iadd, 1, 0, 0), (.aload_n 0, 1, 0, 0), (.getfield 25, 3, 6, 9), (.iload_n 1, 1, 0, 0), (.bipush 7, 2, 0, 0), (.iadd, 1, 0, 0), (.iload_n 2, 1, 0, 0), (.bipush 8, 2, 0, 0), (.idiv, 1, 0, 0), (.iadd, 1, 0, 0), (.laload, 1, 0, 0), (.bipush 7, 2, 0, 0), (.lshl, 1, 0, 0), (.aload_n 0, 1, 0, 0), (.getfield 13, 3, 6, 2), (.iload_n 2, 1, 0, 0), (.iaload, 1, 0, 0), (.i2l, 1, 0, 0), (.lor, 1, 0, 0), (.lastore, 1, 0, 0), (.iinc 2 1, 3, 0, 0), (.goto (-48), 3, 82, 0)]),
  (133, [(.aload_n 0, 1, 0, 0), (.getfield 29, 3, 6, 10), (.aload_n 0, 1, 0, 0), (.getfield 115, 3, 6, 6), (.aload_n 0, 1, 0, 0), (.aload_n 0, 1, 0, 0), (.getfield 108, 3, 6, 5), (.invokevirtual 88, 3, 73, 1), (.bastore, 1, 0, 0), (.return_, 1, 0, 0)])]
theorem e_Model_note_0 {F : List rw4 → Prop} {G : Prop} : lkp F G t_Model_note 0 = F [(.bipush 9, 2, 0, 0), (.aload_n 0, 1, 0, 0), (.getfield 115, 3, 6, 6), (.imul, 1, 0, 0), (.istore_n 1, 1, 0, 0), (.iconst 0, 1, 0, 0), (.istore_n 2, 1, 0, 0)] := propext Iff.rfl
theorem e_Model_note_10 {F : List rw4 → Prop} {G : Prop} : lkp F G t_Model_note 10 = F [(.iload_n 2, 1, 0, 0), (.bipush 9, 2, 0, 0), (.if_icmp .ge 18, 3, 31, 0)] := propext Iff.rfl
theorem e_Model_note_16 {F : List rw4 → Prop} {G : Prop} : lkp F G t_Model_note 16 = F [(.aload_n 0, 1, 0, 0), (.getfield 25, 3, 6, 9), (.iload_n 1, 1, 0, 0), (.iload_n 2, 1, 0, 0), (.iadd, 1, 0, 0), (.lconst 0, 1, 0, 0), (.lastore, 1, 0, 0), (.iinc 2 1, 3, 0, 0), (.goto (-18), 3, 10, 0)] := propext Iff.rfl
theorem e_Model_note_31 {F : List rw4 → Prop} {G : Prop} : lkp F G t_Model_note 31 = F [(.iconst 0, 1, 0, 0), (.istore_n 2, 1, 0, 0)] := propext Iff.rfl
theorem e_Model_note_33 {F : List rw4 → Prop} {G : Prop} : lkp F G t_Model_note 33 = F [(.iload_n 2, 1, 0, 0), (.bipush 81, 2, 0, 0), (.if_icmp .ge 44, 3, 80, 0)] := propext Iff.rfl
theorem e_Model_note_39 {F : List rw4 → Prop} {G : Prop} : lkp F G t_Model_note 39 = F [(.aload_n 0, 1, 0, 0), (.getfield 25, 3, 6, 9), (.iload_n 1, 1, 0, 0), (.iload_n 2, 1, 0, 0), (.bipush 12, 2, 0, 0), (.idiv, 1, 0, 0), (.iadd, 1, 0, 0), (.aload_n 0, 1, 0, 0), (.getfield 25, 3, 6, 9), (.iload_n 1, 1, 0, 0), (.iload_n 2, 1, 0, 0), (.bipush 12, 2, 0, 0), (.idiv, 1, 0, 0), (.iadd, 1, 0, 0), (.laload, 1, 0, 0), (.iconst 5, 1, 0, 0), (.lshl, 1, 0, 0), (.aload_n 0, 1, 0, 0), (.getfield 7, 3, 6, 1), (.iload_n 2, 1, 0, 0), (.iaload, 1, 0, 0), (.bipush 15, 2, 0, 0), (.iadd, 1, 0, 0), (.i2l, 1, 0, 0), (.lor, 1, 0, 0), (.lastore, 1, 0, 0), (.iinc 2 1, 3, 0, 0), (.goto (-44), 3, 33, 0)] := propext Iff.rfl
theorem e_Model_note_80 {F : List rw4 → Prop} {G : Prop} : lkp F G t_Model_note 80 = F [(.iconst 0, 1, 0, 0), (.istore_n 2, 1, 0, 0)] := propext Iff.rfl
theorem e_Model_note_82 {F : List rw4 → Prop} {G : Prop} : lkp F G t_Model_note 82 = F [(.iload_n 2, 1, 0, 0), (.bipush 16, 2, 0, 0), (.if_icmp .ge 48, 3, 133, 0)] := propext Iff.rfl
theorem e_Model_note_88 {F : List rw4 → Prop} {G : Prop} : lkp F G t_Model_note 88 = F [(.aload_n 0, 1, 0, 0), (.getfield 25, 3, 6, 9), (.iload_n 1, 1, 0, 0), (.bipush 7, 2, 0, 0), (.iadd, 1, 0, 0), (.iload_n 2, 1, 0, 0), (.bipush 8, 2, 0, 0), (.idiv, 1, 0, 0), (.iadd, 1, 0, 0), (.aload_n 0, 1, 0, 0), (.getfield 25, 3, 6, 9), (.iload_n 1, 1, 0, 0), (.bipush 7, 2, 0, 0), (.iadd, 1, 0, 0), (.iload_n 2, 1, 0, 0), (.bipush 8, 2, 0, 0), (.idiv, 1, 0, 0), (.iadd, 1, 0, 0), (.laload, 1, 0, 0), (.bipush 7, 2, 0, 0), (.lshl, 1, 0, 0), (.aload_n 0, 1, 0, 0), (.getfield 13, 3, 6, 2), (.iload_n 2, 1, 0, 0), (.iaload, 1, 0, 0), (.i2l, 1, 0, 0), (.lor, 1, 0, 0), (.lastore, 1, 0, 0), (.iinc 2 1, 3, 0, 0), (.goto (-48), 3, 82, 0)] := propext Iff.rfl
theorem e_Model_note_133 {F : List rw4 → Prop} {G : Prop} : lkp F G t_Model_note 133 = F [(.aload_n 0, 1, 0, 0), (.getfield 29, 3, 6, 10), (.aload_n 0, 1, 0, 0), (.getfield 115, 3, 6, 6), (.aload_n 0, 1, 0, 0), (.aload_n 0, 1, 0, 0), (.getfield 108, 3, 6, 5), (.invokevirtual 88, 3, 73, 1), (.bastore, 1, 0, 0), (.return_, 1, 0, 0)] := propext Iff.rfl
theorem o_Model_note : tOk k_Model_note t_Model_note = true := by decide +kernel
/-- DroppedPiecesModel.begin()V; heads of loops: [11, 90] -/
def t_Model_begin : tb4 := [
  (0, [(.aload_n 0, 1, 0, 0), (.iconst 0, 1, 0, 0), (.putfield 39, 3, 6, 0), (.aload_n 0, 1, 0, 0), (.invokevirtual 118, 3, 88, 0), (.iconst 0, 1, 0, 0), (.istore_n 1, 1, 0, 0)]),
  (11, [(.iload_n 1, 1, 0, 0), (.bipush 9, 2, 0, 0), (.if_icmp .ge 56, 3, 70, 0)]),
  (17, [(.iload_n 1, 1, 0, 0), (.iconst 5, 1, 0, 0), (.if_icmp .ge 9, 3, 28, 0)]),
  (22, [(.iload_n 1, 1, 0, 0), (.iconst 2, 1, 0, 0), (.iadd, 1, 0, 0), (.goto 7, 3, 32, 0)]),
  (28, [(.bipush 10, 2, 0, 0), (.iload_n 1, 1, 0, 0), (.isub, 1, 0, 0)]),
  (32, [(.istore_n 2, 1, 0, 0), (.aload_n 0, 1, 0, 0), (.getfield 7, 3, 6, 1), (.bipush 72, 2, 0, 0), (.iload_n 1, 1, 0, 0), (.iadd, 1, 0, 0), (.iload_n 2, 1, 0, 0), (.bipush 6, 2, 0, 0), (.if_icmp .ne 8, 3, 52, 0)]),
  (47, [(.bipush 8, 2, 0, 0), (.goto 4, 3, 53, 0)]),
  (52, [(.iload_n 2, 1, 0, 0)]),
  (53, [(.iastore, 1, 0, 0), (.aload_n 0, 1, 0, 0), (.getfield 7, 3, 6, 1), (.bipush 54, 2, 0, 0), (.iload_n 1, 1, 0, 0), (.iadd, 1, 0, 0), (.iconst 1, 1, 0, 0), (.iastore, 1, 0, 0), (.iinc 1 1, 3, 0, 0), (.goto (-56), 3, 11, 0)]),
  (70, [(.aload_n 0, 1, 0, 0), (.getfield 7, 3, 6, 1), (.bipush 64, 2, 0, 0), (.bipush 6, 2, 0, 0), (.iastore, 1, 0, 0), (.aload_n 0, 1, 0, 0), (.getfield 7, 3, 6, 1), (.bipush 70, 2, 0, 0), (.bipush 7, 2, 0, 0), (.iastore, 1, 0, 0), (.iconst 0, 1, 0, 0), (.istore_n 1, 1, 0, 0)]),
  (90, [(.iload_n 1, 1, 0, 0), (.bipush 27, 2, 0, 0), (.if_icmp .ge 25, 3, 118, 0)]),
  (96, [(.aload_n 0, 1, 0, 0), (.getfield 7, 3, 6, 1), (.iload_n 1, 1, 0, 0), (.aload_n 0, 1, 0, 0), (.getfield 7, 3, 6, 1), (.bipush 80, 2, 0, 0), (.iload_n 1, 1, 0, 0), (.isub, 1, 0, 0), (.iaload, 1, 0, 0), (.ineg, 1, 0, 0), (.iastore, 1, 0, 0), (.iinc 1 1, 3, 0, 0), (.goto (-25), 3, 90, 0)]),
  (118, [(.aload_n 0, 1, 0, 0), (.getfield 16, 3, 6, 3), (.iconst 0, 1, 0, 0), (.bipush 76, 2, 0, 0), (.iastore, 1, 0, 0), (.aload_n 0, 1, 0, 0), (.getfield 16, 3, 6, 3), (.iconst 1, 1, 0, 0), (.iconst 4, 1, 0, 0), (.iastore, 1, 0, 0), (.aload_n 0, 1, 0, 0), (.iconst 0, 1, 0, 0), (.putfield 121, 3, 6, 4), (.aload_n 0, 1, 0, 0), (.invokevirtual 125, 3, 89, 0), (.return_, 1, 0, 0)])]
theorem e_Model_begin_0 {F : List rw4 → Prop} {G : Prop} : lkp F G t_Model_begin 0 = F [(.aload_n 0, 1, 0, 0), (.iconst 0, 1, 0, 0), (.putfield 39, 3, 6, 0), (.aload_n 0, 1, 0, 0), (.invokevirtual 118, 3, 88, 0), (.iconst 0, 1, 0, 0), (.istore_n 1, 1, 0, 0)] := propext Iff.rfl
theorem e_Model_begin_11 {F : List rw4 → Prop} {G : Prop} : lkp F G t_Model_begin 11 = F [(.iload_n 1, 1, 0, 0), (.bipush 9, 2, 0, 0), (.if_icmp .ge 56, 3, 70, 0)] := propext Iff.rfl
theorem e_Model_begin_17 {F : List rw4 → Prop} {G : Prop} : lkp F G t_Model_begin 17 = F [(.iload_n 1, 1, 0, 0), (.iconst 5, 1, 0, 0), (.if_icmp .ge 9, 3, 28, 0)] := propext Iff.rfl
theorem e_Model_begin_22 {F : List rw4 → Prop} {G : Prop} : lkp F G t_Model_begin 22 = F [(.iload_n 1, 1, 0, 0), (.iconst 2, 1, 0, 0), (.iadd, 1, 0, 0), (.goto 7, 3, 32, 0)] := propext Iff.rfl
theorem e_Model_begin_28 {F : List rw4 → Prop} {G : Prop} : lkp F G t_Model_begin 28 = F [(.bipush 10, 2, 0, 0), (.iload_n 1, 1, 0, 0), (.isub, 1, 0, 0)] := propext Iff.rfl
theorem e_Model_begin_32 {F : List rw4 → Prop} {G : Prop} : lkp F G t_Model_begin 32 = F [(.istore_n 2, 1, 0, 0), (.aload_n 0, 1, 0, 0), (.getfield 7, 3, 6, 1), (.bipush 72, 2, 0, 0), (.iload_n 1, 1, 0, 0), (.iadd, 1, 0, 0), (.iload_n 2, 1, 0, 0), (.bipush 6, 2, 0, 0), (.if_icmp .ne 8, 3, 52, 0)] := propext Iff.rfl
theorem e_Model_begin_47 {F : List rw4 → Prop} {G : Prop} : lkp F G t_Model_begin 47 = F [(.bipush 8, 2, 0, 0), (.goto 4, 3, 53, 0)] := propext Iff.rfl
theorem e_Model_begin_52 {F : List rw4 → Prop} {G : Prop} : lkp F G t_Model_begin 52 = F [(.iload_n 2, 1, 0, 0)] := propext Iff.rfl
theorem e_Model_begin_53 {F : List rw4 → Prop} {G : Prop} : lkp F G t_Model_begin 53 = F [(.iastore, 1, 0, 0), (.aload_n 0, 1, 0, 0), (.getfield 7, 3, 6, 1), (.bipush 54, 2, 0, 0), (.iload_n 1, 1, 0, 0), (.iadd, 1, 0, 0), (.iconst 1, 1, 0, 0), (.iastore, 1, 0, 0), (.iinc 1 1, 3, 0, 0), (.goto (-56), 3, 11, 0)] := propext Iff.rfl
theorem e_Model_begin_70 {F : List rw4 → Prop} {G : Prop} : lkp F G t_Model_begin 70 = F [(.aload_n 0, 1, 0, 0), (.getfield 7, 3, 6, 1), (.bipush 64, 2, 0, 0), (.bipush 6, 2, 0, 0), (.iastore, 1, 0, 0), (.aload_n 0, 1, 0, 0), (.getfield 7, 3, 6, 1), (.bipush 70, 2, 0, 0), (.bipush 7, 2, 0, 0), (.iastore, 1, 0, 0), (.iconst 0, 1, 0, 0), (.istore_n 1, 1, 0, 0)] := propext Iff.rfl
theorem e_Model_begin_90 {F : List rw4 → Prop} {G : Prop} : lkp F G t_Model_begin 90 = F [(.iload_n 1, 1, 0, 0), (.bipush 27, 2, 0, 0), (.if_icmp .ge 25, 3, 118, 0)] := propext Iff.rfl
theorem e_Model_begin_96 {F : List rw4 → Prop} {G : Prop} : lkp F G t_Model_begin 96 = F [(.aload_n 0, 1, 0, 0), (.getfield 7, 3, 6, 1), (.iload_n 1, 1, 0, 0), (.aload_n 0, 1, 0, 0), (.getfield 7, 3, 6, 1), (.bipush 80, 2, 0, 0), (.iload_n 1, 1, 0, 0), (.isub, 1, 0, 0), (.iaload, 1, 0, 0), (.ineg, 1, 0, 0), (.iastore, 1, 0, 0), (.iinc 1 1, 3, 0, 0), (.goto (-25), 3, 90, 0)] := propext Iff.rfl
theorem e_Model_begin_118 {F : List rw4 → Prop} {G : Prop} : lkp F G t_Model_begin 118 = F [(.aload_n 0, 1, 0, 0), (.getfield 16, 3, 6, 3), (.iconst 0, 1, 0, 0), (.bipush 76, 2, 0, 0), (.iastore, 1, 0, 0), (.aload_n 0, 1, 0, 0), (.getfield 16, 3, 6, 3), (.iconst 1, 1, 0, 0), (.iconst 4, 1, 0, 0), (.iastore, 1, 0, 0), (.aload_n 0, 1, 0, 0), (.iconst 0, 1, 0, 0), (.putfield 121, 3, 6, 4), (.aload_n 0, 1, 0, 0), (.invokevirtual 125, 3, 89, 0), (.return_, 1, 0, 0)] := propext Iff.rfl
theorem o_Model_begin : tOk k_Model_begin t_Model_begin = true := by decide +kernel
/-- DroppedPiecesModel.clear()V; heads of loops: [] -/
def t_Model_clear : tb4 := [
  (0, [(.aload_n 0, 1, 0, 0), (.iconst 0, 1, 0, 0), (.putfield 39, 3, 6, 0), (.aload_n 0, 1, 0, 0), (.invokevirtual 118, 3, 88, 0), (.aload_n 0, 1, 0, 0), (.iconst 1, 1, 0, 0), (.putfield 121, 3, 6, 4), (.return_, 1, 0, 0)])]
theorem e_Model_clear_0 {F : List rw4 → Prop} {G : Prop} : lkp F G t_Model_clear 0 = F [(.aload_n 0, 1, 0, 0), (.iconst 0, 1, 0, 0), (.putfield 39, 3, 6, 0), (.aload_n 0, 1, 0, 0), (.invokevirtual 118, 3, 88, 0), (.aload_n 0, 1, 0, 0), (.iconst 1, 1, 0, 0), (.putfield 121, 3, 6, 4), (.return_, 1, 0, 0)] := propext Iff.rfl
theorem o_Model_clear : tOk k_Model_clear t_Model_clear = true := by decide +kernel
