/-! the code of the methods that throw, of the helpers of the law (by program: wip/whole/gen/code.py) -/
/-- DroppedPieces.requireSettingUp()V; heads of loops: [] -/
def t_DP_requireSettingUp : tb4 := [
  (0, [(.aload_n 0, 1, 0, 0), (.getfield 54, 3, 5, 5), (.iconst (-1), 1, 0, 0), (.if_icmp .eq 13, 3, 18, 0)]),
  (18, [(.return_, 1, 0, 0)])]
theorem e_DP_requireSettingUp_0 {F : List rw4 → Prop} {G : Prop} : lkp F G t_DP_requireSettingUp 0 = F [(.aload_n 0, 1, 0, 0), (.getfield 54, 3, 5, 5), (.iconst (-1), 1, 0, 0), (.if_icmp .eq 13, 3, 18, 0)] := propext Iff.rfl
theorem e_DP_requireSettingUp_8 {F : List rw4 → Prop} {G : Prop} : lkp F G t_DP_requireSettingUp 8 = G := propext Iff.rfl
theorem e_DP_requireSettingUp_18 {F : List rw4 → Prop} {G : Prop} : lkp F G t_DP_requireSettingUp 18 = F [(.return_, 1, 0, 0)] := propext Iff.rfl
theorem o_DP_requireSettingUp : tOk k_DP_requireSettingUp t_DP_requireSettingUp = true := by decide +kernel
/-- DroppedPieces.requireGame()V; heads of loops: [] -/
def t_DP_requireGame : tb4 := [
  (0, [(.aload_n 0, 1, 0, 0), (.getfield 54, 3, 5, 5), (.iconst (-1), 1, 0, 0), (.if_icmp .ne 13, 3, 18, 0)]),
  (18, [(.return_, 1, 0, 0)])]
theorem e_DP_requireGame_0 {F : List rw4 → Prop} {G : Prop} : lkp F G t_DP_requireGame 0 = F [(.aload_n 0, 1, 0, 0), (.getfield 54, 3, 5, 5), (.iconst (-1), 1, 0, 0), (.if_icmp .ne 13, 3, 18, 0)] := propext Iff.rfl
theorem e_DP_requireGame_8 {F : List rw4 → Prop} {G : Prop} : lkp F G t_DP_requireGame 8 = G := propext Iff.rfl
theorem e_DP_requireGame_18 {F : List rw4 → Prop} {G : Prop} : lkp F G t_DP_requireGame 18 = F [(.return_, 1, 0, 0)] := propext Iff.rfl
theorem o_DP_requireGame : tOk k_DP_requireGame t_DP_requireGame = true := by decide +kernel
/-- DroppedPieces.requireSquare(I)V; heads of loops: [] -/
def t_DP_requireSquare : tb4 := [
  (0, [(.iload_n 0, 1, 0, 0), (.invokestatic 100, 3, 14, 1), (.ifCond .ne 13, 3, 17, 0)]),
  (17, [(.return_, 1, 0, 0)])]
theorem e_DP_requireSquare_0 {F : List rw4 → Prop} {G : Prop} : lkp F G t_DP_requireSquare 0 = F [(.iload_n 0, 1, 0, 0), (.invokestatic 100, 3, 14, 1), (.ifCond .ne 13, 3, 17, 0)] := propext Iff.rfl
theorem e_DP_requireSquare_7 {F : List rw4 → Prop} {G : Prop} : lkp F G t_DP_requireSquare 7 = G := propext Iff.rfl
theorem e_DP_requireSquare_17 {F : List rw4 → Prop} {G : Prop} : lkp F G t_DP_requireSquare 17 = F [(.return_, 1, 0, 0)] := propext Iff.rfl
theorem o_DP_requireSquare : tOk k_DP_requireSquare t_DP_requireSquare = true := by decide +kernel
/-- DroppedPieces.put(II)I; heads of loops: [] -/
def t_DP_put : tb4 := [
  (0, [(.aload_n 0, 1, 0, 0)]),
  (1, [(.invokevirtual 57, 3, 127, 0)]),
  (4, [(.iload_n 1, 1, 0, 0)]),
  (5, [(.invokestatic 60, 3, 129, 1)]),
  (8, [(.iload_n 2, 1, 0, 0), (.invokestatic 63, 3, 126, 1), (.ifCond .ne 13, 3, 25, 0)]),
  (25, [(.aload_n 0, 1, 0, 0), (.getfield 10, 3, 5, 0), (.getfield 76, 3, 0, 0), (.iload_n 1, 1, 0, 0), (.iaload, 1, 0, 0), (.istore_n 3, 1, 0, 0), (.aload_n 0, 1, 0, 0), (.getfield 10, 3, 5, 0), (.getfield 76, 3, 0, 0), (.iload_n 1, 1, 0, 0), (.iload_n 2, 1, 0, 0), (.iastore, 1, 0, 0), (.iload_n 3, 1, 0, 0), (.ireturn, 1, 0, 0)])]
theorem e_DP_put_0 {F : List rw4 → Prop} {G : Prop} : lkp F G t_DP_put 0 = F [(.aload_n 0, 1, 0, 0)] := propext Iff.rfl
theorem e_DP_put_1 {F : List rw4 → Prop} {G : Prop} : lkp F G t_DP_put 1 = F [(.invokevirtual 57, 3, 127, 0)] := propext Iff.rfl
theorem e_DP_put_4 {F : List rw4 → Prop} {G : Prop} : lkp F G t_DP_put 4 = F [(.iload_n 1, 1, 0, 0)] := propext Iff.rfl
theorem e_DP_put_5 {F : List rw4 → Prop} {G : Prop} : lkp F G t_DP_put 5 = F [(.invokestatic 60, 3, 129, 1)] := propext Iff.rfl
theorem e_DP_put_8 {F : List rw4 → Prop} {G : Prop} : lkp F G t_DP_put 8 = F [(.iload_n 2, 1, 0, 0), (.invokestatic 63, 3, 126, 1), (.ifCond .ne 13, 3, 25, 0)] := propext Iff.rfl
theorem e_DP_put_15 {F : List rw4 → Prop} {G : Prop} : lkp F G t_DP_put 15 = G := propext Iff.rfl
theorem e_DP_put_25 {F : List rw4 → Prop} {G : Prop} : lkp F G t_DP_put 25 = F [(.aload_n 0, 1, 0, 0), (.getfield 10, 3, 5, 0), (.getfield 76, 3, 0, 0), (.iload_n 1, 1, 0, 0), (.iaload, 1, 0, 0), (.istore_n 3, 1, 0, 0), (.aload_n 0, 1, 0, 0), (.getfield 10, 3, 5, 0), (.getfield 76, 3, 0, 0), (.iload_n 1, 1, 0, 0), (.iload_n 2, 1, 0, 0), (.iastore, 1, 0, 0), (.iload_n 3, 1, 0, 0), (.ireturn, 1, 0, 0)] := propext Iff.rfl
theorem o_DP_put : tOk k_DP_put t_DP_put = true := by decide +kernel
/-- DroppedPieces.give(III)V; heads of loops: [] -/
def t_DP_give : tb4 := [
  (0, [(.aload_n 0, 1, 0, 0)]),
  (1, [(.invokevirtual 57, 3, 127, 0)]),
  (4, [(.iload_n 1, 1, 0, 0), (.invokestatic 80, 3, 9, 1), (.ifCond .eq 20, 3, 28, 0)]),
  (11, [(.iload_n 2, 1, 0, 0), (.invokestatic 83, 3, 10, 1), (.ifCond .eq 13, 3, 28, 0)]),
  (18, [(.iload_n 3, 1, 0, 0), (.ifCond .lt 9, 3, 28, 0)]),
  (22, [(.iload_n 3, 1, 0, 0), (.bipush 18, 2, 0, 0), (.if_icmp .le 13, 3, 38, 0)]),
  (38, [(.aload_n 0, 1, 0, 0), (.getfield 10, 3, 5, 0), (.getfield 88, 3, 0, 1), (.iload_n 1, 1, 0, 0), (.iload_n 2, 1, 0, 0), (.invokestatic 91, 3, 11, 2), (.iload_n 3, 1, 0, 0), (.iastore, 1, 0, 0), (.return_, 1, 0, 0)])]
theorem e_DP_give_0 {F : List rw4 → Prop} {G : Prop} : lkp F G t_DP_give 0 = F [(.aload_n 0, 1, 0, 0)] := propext Iff.rfl
theorem e_DP_give_1 {F : List rw4 → Prop} {G : Prop} : lkp F G t_DP_give 1 = F [(.invokevirtual 57, 3, 127, 0)] := propext Iff.rfl
theorem e_DP_give_4 {F : List rw4 → Prop} {G : Prop} : lkp F G t_DP_give 4 = F [(.iload_n 1, 1, 0, 0), (.invokestatic 80, 3, 9, 1), (.ifCond .eq 20, 3, 28, 0)] := propext Iff.rfl
theorem e_DP_give_11 {F : List rw4 → Prop} {G : Prop} : lkp F G t_DP_give 11 = F [(.iload_n 2, 1, 0, 0), (.invokestatic 83, 3, 10, 1), (.ifCond .eq 13, 3, 28, 0)] := propext Iff.rfl
theorem e_DP_give_18 {F : List rw4 → Prop} {G : Prop} : lkp F G t_DP_give 18 = F [(.iload_n 3, 1, 0, 0), (.ifCond .lt 9, 3, 28, 0)] := propext Iff.rfl
theorem e_DP_give_22 {F : List rw4 → Prop} {G : Prop} : lkp F G t_DP_give 22 = F [(.iload_n 3, 1, 0, 0), (.bipush 18, 2, 0, 0), (.if_icmp .le 13, 3, 38, 0)] := propext Iff.rfl
theorem e_DP_give_28 {F : List rw4 → Prop} {G : Prop} : lkp F G t_DP_give 28 = G := propext Iff.rfl
theorem e_DP_give_38 {F : List rw4 → Prop} {G : Prop} : lkp F G t_DP_give 38 = F [(.aload_n 0, 1, 0, 0), (.getfield 10, 3, 5, 0), (.getfield 88, 3, 0, 1), (.iload_n 1, 1, 0, 0), (.iload_n 2, 1, 0, 0), (.invokestatic 91, 3, 11, 2), (.iload_n 3, 1, 0, 0), (.iastore, 1, 0, 0), (.return_, 1, 0, 0)] := propext Iff.rfl
theorem o_DP_give : tOk k_DP_give t_DP_give = true := by decide +kernel
/-- DroppedPieces.start(I)V; heads of loops: [] -/
def t_DP_start : tb4 := [
  (0, [(.aload_n 0, 1, 0, 0)]),
  (1, [(.invokevirtual 57, 3, 127, 0)]),
  (4, [(.iload_n 1, 1, 0, 0), (.invokestatic 80, 3, 9, 1), (.ifCond .eq 14, 3, 22, 0)]),
  (11, [(.aload_n 0, 1, 0, 0), (.getfield 10, 3, 5, 0), (.iload_n 1, 1, 0, 0), (.invokevirtual 95, 3, 124, 1), (.ifCond .ne 13, 3, 32, 0)]),
  (32, [(.aload_n 0, 1, 0, 0), (.iload_n 1, 1, 0, 0), (.putfield 54, 3, 5, 5), (.return_, 1, 0, 0)])]
theorem e_DP_start_0 {F : List rw4 → Prop} {G : Prop} : lkp F G t_DP_start 0 = F [(.aload_n 0, 1, 0, 0)] := propext Iff.rfl
theorem e_DP_start_1 {F : List rw4 → Prop} {G : Prop} : lkp F G t_DP_start 1 = F [(.invokevirtual 57, 3, 127, 0)] := propext Iff.rfl
theorem e_DP_start_4 {F : List rw4 → Prop} {G : Prop} : lkp F G t_DP_start 4 = F [(.iload_n 1, 1, 0, 0), (.invokestatic 80, 3, 9, 1), (.ifCond .eq 14, 3, 22, 0)] := propext Iff.rfl
theorem e_DP_start_11 {F : List rw4 → Prop} {G : Prop} : lkp F G t_DP_start 11 = F [(.aload_n 0, 1, 0, 0), (.getfield 10, 3, 5, 0), (.iload_n 1, 1, 0, 0), (.invokevirtual 95, 3, 124, 1), (.ifCond .ne 13, 3, 32, 0)] := propext Iff.rfl
theorem e_DP_start_22 {F : List rw4 → Prop} {G : Prop} : lkp F G t_DP_start 22 = G := propext Iff.rfl
theorem e_DP_start_32 {F : List rw4 → Prop} {G : Prop} : lkp F G t_DP_start 32 = F [(.aload_n 0, 1, 0, 0), (.iload_n 1, 1, 0, 0), (.putfield 54, 3, 5, 5), (.return_, 1, 0, 0)] := propext Iff.rfl
theorem o_DP_start : tOk k_DP_start t_DP_start = true := by decide +kernel
/-- DroppedPieces.at(I)I; heads of loops: [] -/
def t_DP_at : tb4 := [
  (0, [(.iload_n 1, 1, 0, 0)]),
  (1, [(.invokestatic 60, 3, 129, 1)]),
  (4, [(.aload_n 0, 1, 0, 0), (.getfield 10, 3, 5, 0), (.getfield 76, 3, 0, 0), (.iload_n 1, 1, 0, 0), (.iaload, 1, 0, 0), (.ireturn, 1, 0, 0)])]
theorem e_DP_at_0 {F : List rw4 → Prop} {G : Prop} : lkp F G t_DP_at 0 = F [(.iload_n 1, 1, 0, 0)] := propext Iff.rfl
theorem e_DP_at_1 {F : List rw4 → Prop} {G : Prop} : lkp F G t_DP_at 1 = F [(.invokestatic 60, 3, 129, 1)] := propext Iff.rfl
theorem e_DP_at_4 {F : List rw4 → Prop} {G : Prop} : lkp F G t_DP_at 4 = F [(.aload_n 0, 1, 0, 0), (.getfield 10, 3, 5, 0), (.getfield 76, 3, 0, 0), (.iload_n 1, 1, 0, 0), (.iaload, 1, 0, 0), (.ireturn, 1, 0, 0)] := propext Iff.rfl
theorem o_DP_at : tOk k_DP_at t_DP_at = true := by decide +kernel
/-- DroppedPieces.moves()I; heads of loops: [] -/
def t_DP_moves : tb4 := [
  (0, [(.aload_n 0, 1, 0, 0)]),
  (1, [(.invokevirtual 110, 3, 128, 0)]),
  (4, [(.aload_n 0, 1, 0, 0), (.getfield 21, 3, 5, 1), (.aload_n 0, 1, 0, 0), (.getfield 54, 3, 5, 5), (.aload_n 0, 1, 0, 0), (.getfield 37, 3, 5, 3), (.invokevirtual 113, 3, 47, 2), (.aload_n 0, 1, 0, 0), (.getfield 37, 3, 5, 3), (.getfield 117, 3, 3, 1), (.ireturn, 1, 0, 0)])]
theorem e_DP_moves_0 {F : List rw4 → Prop} {G : Prop} : lkp F G t_DP_moves 0 = F [(.aload_n 0, 1, 0, 0)] := propext Iff.rfl
theorem e_DP_moves_1 {F : List rw4 → Prop} {G : Prop} : lkp F G t_DP_moves 1 = F [(.invokevirtual 110, 3, 128, 0)] := propext Iff.rfl
theorem e_DP_moves_4 {F : List rw4 → Prop} {G : Prop} : lkp F G t_DP_moves 4 = F [(.aload_n 0, 1, 0, 0), (.getfield 21, 3, 5, 1), (.aload_n 0, 1, 0, 0), (.getfield 54, 3, 5, 5), (.aload_n 0, 1, 0, 0), (.getfield 37, 3, 5, 3), (.invokevirtual 113, 3, 47, 2), (.aload_n 0, 1, 0, 0), (.getfield 37, 3, 5, 3), (.getfield 117, 3, 3, 1), (.ireturn, 1, 0, 0)] := propext Iff.rfl
theorem o_DP_moves : tOk k_DP_moves t_DP_moves = true := by decide +kernel
/-- DroppedPieces.move(I)I; heads of loops: [] -/
def t_DP_move : tb4 := [
  (0, [(.aload_n 0, 1, 0, 0)]),
  (1, [(.invokevirtual 110, 3, 128, 0)]),
  (4, [(.aload_n 0, 1, 0, 0), (.getfield 21, 3, 5, 1), (.aload_n 0, 1, 0, 0), (.getfield 54, 3, 5, 5), (.aload_n 0, 1, 0, 0), (.getfield 37, 3, 5, 3), (.invokevirtual 113, 3, 47, 2), (.iload_n 1, 1, 0, 0), (.ifCond .lt 14, 3, 34, 0)]),
  (23, [(.iload_n 1, 1, 0, 0), (.aload_n 0, 1, 0, 0), (.getfield 37, 3, 5, 3), (.getfield 117, 3, 3, 1), (.if_icmp .lt 13, 3, 44, 0)]),
  (44, [(.aload_n 0, 1, 0, 0), (.getfield 37, 3, 5, 3), (.getfield 125, 3, 3, 0), (.iload_n 1, 1, 0, 0), (.iaload, 1, 0, 0), (.ireturn, 1, 0, 0)])]
theorem e_DP_move_0 {F : List rw4 → Prop} {G : Prop} : lkp F G t_DP_move 0 = F [(.aload_n 0, 1, 0, 0)] := propext Iff.rfl
theorem e_DP_move_1 {F : List rw4 → Prop} {G : Prop} : lkp F G t_DP_move 1 = F [(.invokevirtual 110, 3, 128, 0)] := propext Iff.rfl
theorem e_DP_move_4 {F : List rw4 → Prop} {G : Prop} : lkp F G t_DP_move 4 = F [(.aload_n 0, 1, 0, 0), (.getfield 21, 3, 5, 1), (.aload_n 0, 1, 0, 0), (.getfield 54, 3, 5, 5), (.aload_n 0, 1, 0, 0), (.getfield 37, 3, 5, 3), (.invokevirtual 113, 3, 47, 2), (.iload_n 1, 1, 0, 0), (.ifCond .lt 14, 3, 34, 0)] := propext Iff.rfl
theorem e_DP_move_23 {F : List rw4 → Prop} {G : Prop} : lkp F G t_DP_move 23 = F [(.iload_n 1, 1, 0, 0), (.aload_n 0, 1, 0, 0), (.getfield 37, 3, 5, 3), (.getfield 117, 3, 3, 1), (.if_icmp .lt 13, 3, 44, 0)] := propext Iff.rfl
theorem e_DP_move_34 {F : List rw4 → Prop} {G : Prop} : lkp F G t_DP_move 34 = G := propext Iff.rfl
theorem e_DP_move_44 {F : List rw4 → Prop} {G : Prop} : lkp F G t_DP_move 44 = F [(.aload_n 0, 1, 0, 0), (.getfield 37, 3, 5, 3), (.getfield 125, 3, 3, 0), (.iload_n 1, 1, 0, 0), (.iaload, 1, 0, 0), (.ireturn, 1, 0, 0)] := propext Iff.rfl
theorem o_DP_move : tOk k_DP_move t_DP_move = true := by decide +kernel
/-- DroppedPieces.isLegal(I)Z; heads of loops: [] -/
def t_DP_isLegal : tb4 := [
  (0, [(.aload_n 0, 1, 0, 0)]),
  (1, [(.invokevirtual 110, 3, 128, 0)]),
  (4, [(.aload_n 0, 1, 0, 0), (.getfield 21, 3, 5, 1), (.aload_n 0, 1, 0, 0), (.getfield 54, 3, 5, 5), (.aload_n 0, 1, 0, 0), (.getfield 37, 3, 5, 3), (.invokevirtual 113, 3, 47, 2), (.aload_n 0, 1, 0, 0), (.getfield 37, 3, 5, 3), (.iload_n 1, 1, 0, 0), (.invokevirtual 128, 3, 48, 1), (.ireturn, 1, 1, 0)])]
theorem e_DP_isLegal_0 {F : List rw4 → Prop} {G : Prop} : lkp F G t_DP_isLegal 0 = F [(.aload_n 0, 1, 0, 0)] := propext Iff.rfl
theorem e_DP_isLegal_1 {F : List rw4 → Prop} {G : Prop} : lkp F G t_DP_isLegal 1 = F [(.invokevirtual 110, 3, 128, 0)] := propext Iff.rfl
theorem e_DP_isLegal_4 {F : List rw4 → Prop} {G : Prop} : lkp F G t_DP_isLegal 4 = F [(.aload_n 0, 1, 0, 0), (.getfield 21, 3, 5, 1), (.aload_n 0, 1, 0, 0), (.getfield 54, 3, 5, 5), (.aload_n 0, 1, 0, 0), (.getfield 37, 3, 5, 3), (.invokevirtual 113, 3, 47, 2), (.aload_n 0, 1, 0, 0), (.getfield 37, 3, 5, 3), (.iload_n 1, 1, 0, 0), (.invokevirtual 128, 3, 48, 1), (.ireturn, 1, 1, 0)] := propext Iff.rfl
theorem o_DP_isLegal : tOk k_DP_isLegal t_DP_isLegal = true := by decide +kernel
/-- DroppedPieces.result()I; heads of loops: [] -/
def t_DP_result : tb4 := [
  (0, [(.aload_n 0, 1, 0, 0)]),
  (1, [(.invokevirtual 110, 3, 128, 0)]),
  (4, [(.aload_n 0, 1, 0, 0), (.getfield 21, 3, 5, 1), (.aload_n 0, 1, 0, 0), (.getfield 54, 3, 5, 5), (.aload_n 0, 1, 0, 0), (.getfield 37, 3, 5, 3), (.invokevirtual 113, 3, 47, 2), (.aload_n 0, 1, 0, 0), (.invokevirtual 131, 3, 59, 0), (.ireturn, 1, 0, 0)])]
theorem e_DP_result_0 {F : List rw4 → Prop} {G : Prop} : lkp F G t_DP_result 0 = F [(.aload_n 0, 1, 0, 0)] := propext Iff.rfl
theorem e_DP_result_1 {F : List rw4 → Prop} {G : Prop} : lkp F G t_DP_result 1 = F [(.invokevirtual 110, 3, 128, 0)] := propext Iff.rfl
theorem e_DP_result_4 {F : List rw4 → Prop} {G : Prop} : lkp F G t_DP_result 4 = F [(.aload_n 0, 1, 0, 0), (.getfield 21, 3, 5, 1), (.aload_n 0, 1, 0, 0), (.getfield 54, 3, 5, 5), (.aload_n 0, 1, 0, 0), (.getfield 37, 3, 5, 3), (.invokevirtual 113, 3, 47, 2), (.aload_n 0, 1, 0, 0), (.invokevirtual 131, 3, 59, 0), (.ireturn, 1, 0, 0)] := propext Iff.rfl
theorem o_DP_result : tOk k_DP_result t_DP_result = true := by decide +kernel
/-- DroppedPieces.times()I; heads of loops: [] -/
def t_DP_times : tb4 := [
  (0, [(.aload_n 0, 1, 0, 0)]),
  (1, [(.invokevirtual 110, 3, 128, 0)]),
  (4, [(.aload_n 0, 1, 0, 0), (.getfield 28, 3, 5, 2), (.aload_n 0, 1, 0, 0), (.getfield 10, 3, 5, 0), (.aload_n 0, 1, 0, 0), (.getfield 54, 3, 5, 5), (.invokevirtual 135, 3, 56, 2), (.ireturn, 1, 0, 0)])]
theorem e_DP_times_0 {F : List rw4 → Prop} {G : Prop} : lkp F G t_DP_times 0 = F [(.aload_n 0, 1, 0, 0)] := propext Iff.rfl
theorem e_DP_times_1 {F : List rw4 → Prop} {G : Prop} : lkp F G t_DP_times 1 = F [(.invokevirtual 110, 3, 128, 0)] := propext Iff.rfl
theorem e_DP_times_4 {F : List rw4 → Prop} {G : Prop} : lkp F G t_DP_times 4 = F [(.aload_n 0, 1, 0, 0), (.getfield 28, 3, 5, 2), (.aload_n 0, 1, 0, 0), (.getfield 10, 3, 5, 0), (.aload_n 0, 1, 0, 0), (.getfield 54, 3, 5, 5), (.invokevirtual 135, 3, 56, 2), (.ireturn, 1, 0, 0)] := propext Iff.rfl
theorem o_DP_times : tOk k_DP_times t_DP_times = true := by decide +kernel
/-- DroppedPieces.play(I)I; heads of loops: [] -/
def t_DP_play : tb4 := [
  (0, [(.aload_n 0, 1, 0, 0)]),
  (1, [(.invokevirtual 110, 3, 128, 0)]),
  (4, [(.aload_n 0, 1, 0, 0), (.getfield 21, 3, 5, 1), (.aload_n 0, 1, 0, 0), (.getfield 54, 3, 5, 5), (.aload_n 0, 1, 0, 0), (.getfield 37, 3, 5, 3), (.invokevirtual 113, 3, 47, 2), (.aload_n 0, 1, 0, 0), (.getfield 28, 3, 5, 2), (.getfield 50, 3, 2, 5), (.sipush 150, 3, 0, 0), (.if_icmp .ge 10, 3, 39, 0)]),
  (32, [(.aload_n 0, 1, 0, 0), (.invokevirtual 131, 3, 59, 0), (.ifCond .eq 13, 3, 49, 0)]),
  (49, [(.aload_n 0, 1, 0, 0), (.getfield 37, 3, 5, 3), (.iload_n 1, 1, 0, 0), (.invokevirtual 128, 3, 48, 1), (.ifCond .ne 13, 3, 70, 0)]),
  (70, [(.aload_n 0, 1, 0, 0), (.getfield 10, 3, 5, 0), (.aload_n 0, 1, 0, 0), (.getfield 54, 3, 5, 5), (.iload_n 1, 1, 0, 0), (.invokevirtual 146, 3, 61, 2), (.istore_n 2, 1, 0, 0), (.aload_n 0, 1, 0, 0), (.iconst 1, 1, 0, 0), (.aload_n 0, 1, 0, 0), (.getfield 54, 3, 5, 5), (.isub, 1, 0, 0), (.putfield 54, 3, 5, 5), (.aload_n 0, 1, 0, 0), (.getfield 28, 3, 5, 2), (.iload_n 1, 1, 0, 0), (.iload_n 2, 1, 0, 0), (.aload_n 0, 1, 0, 0), (.getfield 10, 3, 5, 0), (.aload_n 0, 1, 0, 0), (.getfield 54, 3, 5, 5), (.invokevirtual 107, 3, 23, 1), (.invokevirtual 149, 3, 125, 3), (.iload_n 2, 1, 0, 0), (.ireturn, 1, 0, 0)])]
theorem e_DP_play_0 {F : List rw4 → Prop} {G : Prop} : lkp F G t_DP_play 0 = F [(.aload_n 0, 1, 0, 0)] := propext Iff.rfl
theorem e_DP_play_1 {F : List rw4 → Prop} {G : Prop} : lkp F G t_DP_play 1 = F [(.invokevirtual 110, 3, 128, 0)] := propext Iff.rfl
theorem e_DP_play_4 {F : List rw4 → Prop} {G : Prop} : lkp F G t_DP_play 4 = F [(.aload_n 0, 1, 0, 0), (.getfield 21, 3, 5, 1), (.aload_n 0, 1, 0, 0), (.getfield 54, 3, 5, 5), (.aload_n 0, 1, 0, 0), (.getfield 37, 3, 5, 3), (.invokevirtual 113, 3, 47, 2), (.aload_n 0, 1, 0, 0), (.getfield 28, 3, 5, 2), (.getfield 50, 3, 2, 5), (.sipush 150, 3, 0, 0), (.if_icmp .ge 10, 3, 39, 0)] := propext Iff.rfl
theorem e_DP_play_32 {F : List rw4 → Prop} {G : Prop} : lkp F G t_DP_play 32 = F [(.aload_n 0, 1, 0, 0), (.invokevirtual 131, 3, 59, 0), (.ifCond .eq 13, 3, 49, 0)] := propext Iff.rfl
theorem e_DP_play_39 {F : List rw4 → Prop} {G : Prop} : lkp F G t_DP_play 39 = G := propext Iff.rfl
theorem e_DP_play_49 {F : List rw4 → Prop} {G : Prop} : lkp F G t_DP_play 49 = F [(.aload_n 0, 1, 0, 0), (.getfield 37, 3, 5, 3), (.iload_n 1, 1, 0, 0), (.invokevirtual 128, 3, 48, 1), (.ifCond .ne 13, 3, 70, 0)] := propext Iff.rfl
theorem e_DP_play_60 {F : List rw4 → Prop} {G : Prop} : lkp F G t_DP_play 60 = G := propext Iff.rfl
theorem e_DP_play_70 {F : List rw4 → Prop} {G : Prop} : lkp F G t_DP_play 70 = F [(.aload_n 0, 1, 0, 0), (.getfield 10, 3, 5, 0), (.aload_n 0, 1, 0, 0), (.getfield 54, 3, 5, 5), (.iload_n 1, 1, 0, 0), (.invokevirtual 146, 3, 61, 2), (.istore_n 2, 1, 0, 0), (.aload_n 0, 1, 0, 0), (.iconst 1, 1, 0, 0), (.aload_n 0, 1, 0, 0), (.getfield 54, 3, 5, 5), (.isub, 1, 0, 0), (.putfield 54, 3, 5, 5), (.aload_n 0, 1, 0, 0), (.getfield 28, 3, 5, 2), (.iload_n 1, 1, 0, 0), (.iload_n 2, 1, 0, 0), (.aload_n 0, 1, 0, 0), (.getfield 10, 3, 5, 0), (.aload_n 0, 1, 0, 0), (.getfield 54, 3, 5, 5), (.invokevirtual 107, 3, 23, 1), (.invokevirtual 149, 3, 125, 3), (.iload_n 2, 1, 0, 0), (.ireturn, 1, 0, 0)] := propext Iff.rfl
theorem o_DP_play : tOk k_DP_play t_DP_play = true := by decide +kernel
/-- DroppedPieces.back()I; heads of loops: [] -/
def t_DP_back : tb4 := [
  (0, [(.aload_n 0, 1, 0, 0)]),
  (1, [(.invokevirtual 110, 3, 128, 0)]),
  (4, [(.aload_n 0, 1, 0, 0), (.getfield 28, 3, 5, 2), (.getfield 50, 3, 2, 5), (.ifCond .ne 13, 3, 24, 0)]),
  (24, [(.aload_n 0, 1, 0, 0), (.getfield 28, 3, 5, 2), (.dup, 1, 0, 0), (.getfield 50, 3, 2, 5), (.iconst 1, 1, 0, 0), (.isub, 1, 0, 0), (.putfield 50, 3, 2, 5), (.aload_n 0, 1, 0, 0), (.getfield 28, 3, 5, 2), (.getfield 158, 3, 2, 0), (.aload_n 0, 1, 0, 0), (.getfield 28, 3, 5, 2), (.getfield 50, 3, 2, 5), (.iaload, 1, 0, 0), (.istore_n 1, 1, 0, 0), (.aload_n 0, 1, 0, 0), (.iconst 1, 1, 0, 0), (.aload_n 0, 1, 0, 0), (.getfield 54, 3, 5, 5), (.isub, 1, 0, 0), (.putfield 54, 3, 5, 5), (.aload_n 0, 1, 0, 0), (.getfield 10, 3, 5, 0), (.aload_n 0, 1, 0, 0), (.getfield 54, 3, 5, 5), (.iload_n 1, 1, 0, 0), (.aload_n 0, 1, 0, 0), (.getfield 28, 3, 5, 2), (.getfield 161, 3, 2, 1), (.aload_n 0, 1, 0, 0), (.getfield 28, 3, 5, 2), (.getfield 50, 3, 2, 5), (.iaload, 1, 0, 0), (.invokevirtual 164, 3, 54, 3), (.iload_n 1, 1, 0, 0), (.ireturn, 1, 0, 0)])]
theorem e_DP_back_0 {F : List rw4 → Prop} {G : Prop} : lkp F G t_DP_back 0 = F [(.aload_n 0, 1, 0, 0)] := propext Iff.rfl
theorem e_DP_back_1 {F : List rw4 → Prop} {G : Prop} : lkp F G t_DP_back 1 = F [(.invokevirtual 110, 3, 128, 0)] := propext Iff.rfl
theorem e_DP_back_4 {F : List rw4 → Prop} {G : Prop} : lkp F G t_DP_back 4 = F [(.aload_n 0, 1, 0, 0), (.getfield 28, 3, 5, 2), (.getfield 50, 3, 2, 5), (.ifCond .ne 13, 3, 24, 0)] := propext Iff.rfl
theorem e_DP_back_14 {F : List rw4 → Prop} {G : Prop} : lkp F G t_DP_back 14 = G := propext Iff.rfl
theorem e_DP_back_24 {F : List rw4 → Prop} {G : Prop} : lkp F G t_DP_back 24 = F [(.aload_n 0, 1, 0, 0), (.getfield 28, 3, 5, 2), (.dup, 1, 0, 0), (.getfield 50, 3, 2, 5), (.iconst 1, 1, 0, 0), (.isub, 1, 0, 0), (.putfield 50, 3, 2, 5), (.aload_n 0, 1, 0, 0), (.getfield 28, 3, 5, 2), (.getfield 158, 3, 2, 0), (.aload_n 0, 1, 0, 0), (.getfield 28, 3, 5, 2), (.getfield 50, 3, 2, 5), (.iaload, 1, 0, 0), (.istore_n 1, 1, 0, 0), (.aload_n 0, 1, 0, 0), (.iconst 1, 1, 0, 0), (.aload_n 0, 1, 0, 0), (.getfield 54, 3, 5, 5), (.isub, 1, 0, 0), (.putfield 54, 3, 5, 5), (.aload_n 0, 1, 0, 0), (.getfield 10, 3, 5, 0), (.aload_n 0, 1, 0, 0), (.getfield 54, 3, 5, 5), (.iload_n 1, 1, 0, 0), (.aload_n 0, 1, 0, 0), (.getfield 28, 3, 5, 2), (.getfield 161, 3, 2, 1), (.aload_n 0, 1, 0, 0), (.getfield 28, 3, 5, 2), (.getfield 50, 3, 2, 5), (.iaload, 1, 0, 0), (.invokevirtual 164, 3, 54, 3), (.iload_n 1, 1, 0, 0), (.ireturn, 1, 0, 0)] := propext Iff.rfl
theorem o_DP_back : tOk k_DP_back t_DP_back = true := by decide +kernel
/-- DroppedPieces.count(I)I; heads of loops: [] -/
def t_DP_count : tb4 := [
  (0, [(.aload_n 0, 1, 0, 0)]),
  (1, [(.invokevirtual 110, 3, 128, 0)]),
  (4, [(.iload_n 1, 1, 0, 0), (.ifCond .lt 8, 3, 13, 0)]),
  (8, [(.iload_n 1, 1, 0, 0), (.iconst 2, 1, 0, 0), (.if_icmp .le 13, 3, 23, 0)]),
  (23, [(.iload_n 1, 1, 0, 0), (.ifCond .ne 5, 3, 29, 0)]),
  (27, [(.iconst 1, 1, 0, 0), (.ireturn, 1, 0, 0)]),
  (29, [(.aload_n 0, 1, 0, 0), (.getfield 21, 3, 5, 1), (.aload_n 0, 1, 0, 0), (.getfield 54, 3, 5, 5), (.aload_n 0, 1, 0, 0), (.getfield 37, 3, 5, 3), (.invokevirtual 113, 3, 47, 2), (.iload_n 1, 1, 0, 0), (.iconst 1, 1, 0, 0), (.if_icmp .ne 13, 3, 59, 0)]),
  (49, [(.aload_n 0, 1, 0, 0), (.getfield 37, 3, 5, 3), (.getfield 117, 3, 3, 1), (.goto 7, 3, 63, 0)]),
  (59, [(.aload_n 0, 1, 0, 0), (.invokevirtual 170, 3, 63, 0)]),
  (63, [(.ireturn, 1, 0, 0)])]
theorem e_DP_count_0 {F : List rw4 → Prop} {G : Prop} : lkp F G t_DP_count 0 = F [(.aload_n 0, 1, 0, 0)] := propext Iff.rfl
theorem e_DP_count_1 {F : List rw4 → Prop} {G : Prop} : lkp F G t_DP_count 1 = F [(.invokevirtual 110, 3, 128, 0)] := propext Iff.rfl
theorem e_DP_count_4 {F : List rw4 → Prop} {G : Prop} : lkp F G t_DP_count 4 = F [(.iload_n 1, 1, 0, 0), (.ifCond .lt 8, 3, 13, 0)] := propext Iff.rfl
theorem e_DP_count_8 {F : List rw4 → Prop} {G : Prop} : lkp F G t_DP_count 8 = F [(.iload_n 1, 1, 0, 0), (.iconst 2, 1, 0, 0), (.if_icmp .le 13, 3, 23, 0)] := propext Iff.rfl
theorem e_DP_count_13 {F : List rw4 → Prop} {G : Prop} : lkp F G t_DP_count 13 = G := propext Iff.rfl
theorem e_DP_count_23 {F : List rw4 → Prop} {G : Prop} : lkp F G t_DP_count 23 = F [(.iload_n 1, 1, 0, 0), (.ifCond .ne 5, 3, 29, 0)] := propext Iff.rfl
theorem e_DP_count_27 {F : List rw4 → Prop} {G : Prop} : lkp F G t_DP_count 27 = F [(.iconst 1, 1, 0, 0), (.ireturn, 1, 0, 0)] := propext Iff.rfl
theorem e_DP_count_29 {F : List rw4 → Prop} {G : Prop} : lkp F G t_DP_count 29 = F [(.aload_n 0, 1, 0, 0), (.getfield 21, 3, 5, 1), (.aload_n 0, 1, 0, 0), (.getfield 54, 3, 5, 5), (.aload_n 0, 1, 0, 0), (.getfield 37, 3, 5, 3), (.invokevirtual 113, 3, 47, 2), (.iload_n 1, 1, 0, 0), (.iconst 1, 1, 0, 0), (.if_icmp .ne 13, 3, 59, 0)] := propext Iff.rfl
theorem e_DP_count_49 {F : List rw4 → Prop} {G : Prop} : lkp F G t_DP_count 49 = F [(.aload_n 0, 1, 0, 0), (.getfield 37, 3, 5, 3), (.getfield 117, 3, 3, 1), (.goto 7, 3, 63, 0)] := propext Iff.rfl
theorem e_DP_count_59 {F : List rw4 → Prop} {G : Prop} : lkp F G t_DP_count 59 = F [(.aload_n 0, 1, 0, 0), (.invokevirtual 170, 3, 63, 0)] := propext Iff.rfl
theorem e_DP_count_63 {F : List rw4 → Prop} {G : Prop} : lkp F G t_DP_count 63 = F [(.ireturn, 1, 0, 0)] := propext Iff.rfl
theorem o_DP_count : tOk k_DP_count t_DP_count = true := by decide +kernel
/-- DroppedPieces.mate()I; heads of loops: [21] -/
def t_DP_mate : tb4 := [
  (0, [(.aload_n 0, 1, 0, 0)]),
  (1, [(.invokevirtual 110, 3, 128, 0)]),
  (4, [(.aload_n 0, 1, 0, 0), (.getfield 21, 3, 5, 1), (.aload_n 0, 1, 0, 0), (.getfield 54, 3, 5, 5), (.aload_n 0, 1, 0, 0), (.getfield 37, 3, 5, 3), (.invokevirtual 113, 3, 47, 2), (.iconst 0, 1, 0, 0), (.istore_n 1, 1, 0, 0)]),
  (21, [(.iload_n 1, 1, 0, 0), (.aload_n 0, 1, 0, 0), (.getfield 37, 3, 5, 3), (.getfield 117, 3, 3, 1), (.if_icmp .ge 35, 3, 64, 0)]),
  (32, [(.aload_n 0, 1, 0, 0), (.aload_n 0, 1, 0, 0), (.getfield 37, 3, 5, 3), (.getfield 125, 3, 3, 0), (.iload_n 1, 1, 0, 0), (.iaload, 1, 0, 0), (.invokevirtual 173, 3, 62, 1), (.ifCond .eq 13, 3, 58, 0)]),
  (48, [(.aload_n 0, 1, 0, 0), (.getfield 37, 3, 5, 3), (.getfield 125, 3, 3, 0), (.iload_n 1, 1, 0, 0), (.iaload, 1, 0, 0), (.ireturn, 1, 0, 0)]),
  (58, [(.iinc 1 1, 3, 0, 0), (.goto (-40), 3, 21, 0)]),
  (64, [(.iconst (-1), 1, 0, 0), (.ireturn, 1, 0, 0)])]
theorem e_DP_mate_0 {F : List rw4 → Prop} {G : Prop} : lkp F G t_DP_mate 0 = F [(.aload_n 0, 1, 0, 0)] := propext Iff.rfl
theorem e_DP_mate_1 {F : List rw4 → Prop} {G : Prop} : lkp F G t_DP_mate 1 = F [(.invokevirtual 110, 3, 128, 0)] := propext Iff.rfl
theorem e_DP_mate_4 {F : List rw4 → Prop} {G : Prop} : lkp F G t_DP_mate 4 = F [(.aload_n 0, 1, 0, 0), (.getfield 21, 3, 5, 1), (.aload_n 0, 1, 0, 0), (.getfield 54, 3, 5, 5), (.aload_n 0, 1, 0, 0), (.getfield 37, 3, 5, 3), (.invokevirtual 113, 3, 47, 2), (.iconst 0, 1, 0, 0), (.istore_n 1, 1, 0, 0)] := propext Iff.rfl
theorem e_DP_mate_21 {F : List rw4 → Prop} {G : Prop} : lkp F G t_DP_mate 21 = F [(.iload_n 1, 1, 0, 0), (.aload_n 0, 1, 0, 0), (.getfield 37, 3, 5, 3), (.getfield 117, 3, 3, 1), (.if_icmp .ge 35, 3, 64, 0)] := propext Iff.rfl
theorem e_DP_mate_32 {F : List rw4 → Prop} {G : Prop} : lkp F G t_DP_mate 32 = F [(.aload_n 0, 1, 0, 0), (.aload_n 0, 1, 0, 0), (.getfield 37, 3, 5, 3), (.getfield 125, 3, 3, 0), (.iload_n 1, 1, 0, 0), (.iaload, 1, 0, 0), (.invokevirtual 173, 3, 62, 1), (.ifCond .eq 13, 3, 58, 0)] := propext Iff.rfl
theorem e_DP_mate_48 {F : List rw4 → Prop} {G : Prop} : lkp F G t_DP_mate 48 = F [(.aload_n 0, 1, 0, 0), (.getfield 37, 3, 5, 3), (.getfield 125, 3, 3, 0), (.iload_n 1, 1, 0, 0), (.iaload, 1, 0, 0), (.ireturn, 1, 0, 0)] := propext Iff.rfl
theorem e_DP_mate_58 {F : List rw4 → Prop} {G : Prop} : lkp F G t_DP_mate 58 = F [(.iinc 1 1, 3, 0, 0), (.goto (-40), 3, 21, 0)] := propext Iff.rfl
theorem e_DP_mate_64 {F : List rw4 → Prop} {G : Prop} : lkp F G t_DP_mate 64 = F [(.iconst (-1), 1, 0, 0), (.ireturn, 1, 0, 0)] := propext Iff.rfl
theorem o_DP_mate : tOk k_DP_mate t_DP_mate = true := by decide +kernel
/-- DroppedPiecesLaw.put(LDroppedPieces;II[J)I; heads of loops: [] -/
def t_Law_put : tb4 := [
  (0, [(.aload_n 3, 1, 0, 0), (.iconst 0, 1, 0, 0), (.aload_n 0, 1, 0, 0), (.iload_n 1, 1, 0, 0), (.iload_n 2, 1, 0, 0)]),
  (5, [(.invokevirtual 7, 3, 130, 2)]),
  (8, [(.i2l, 1, 0, 0), (.lastore, 1, 0, 0), (.goto 15, 3, 25, 0)]),
  (25, [(.iconst 0, 1, 0, 0), (.ireturn, 1, 0, 0)])]
theorem e_Law_put_0 {F : List rw4 → Prop} {G : Prop} : lkp F G t_Law_put 0 = F [(.aload_n 3, 1, 0, 0), (.iconst 0, 1, 0, 0), (.aload_n 0, 1, 0, 0), (.iload_n 1, 1, 0, 0), (.iload_n 2, 1, 0, 0)] := propext Iff.rfl
theorem e_Law_put_5 {F : List rw4 → Prop} {G : Prop} : lkp F G t_Law_put 5 = F [(.invokevirtual 7, 3, 130, 2)] := propext Iff.rfl
theorem e_Law_put_8 {F : List rw4 → Prop} {G : Prop} : lkp F G t_Law_put 8 = F [(.i2l, 1, 0, 0), (.lastore, 1, 0, 0), (.goto 15, 3, 25, 0)] := propext Iff.rfl
theorem e_Law_put_13 {F : List rw4 → Prop} {G : Prop} : lkp F G t_Law_put 13 = G := propext Iff.rfl
theorem e_Law_put_17 {F : List rw4 → Prop} {G : Prop} : lkp F G t_Law_put 17 = G := propext Iff.rfl
theorem e_Law_put_21 {F : List rw4 → Prop} {G : Prop} : lkp F G t_Law_put 21 = G := propext Iff.rfl
theorem e_Law_put_25 {F : List rw4 → Prop} {G : Prop} : lkp F G t_Law_put 25 = F [(.iconst 0, 1, 0, 0), (.ireturn, 1, 0, 0)] := propext Iff.rfl
theorem o_Law_put : tOk k_Law_put t_Law_put = true := by decide +kernel
/-- DroppedPiecesLaw.give(LDroppedPieces;III)I; heads of loops: [] -/
def t_Law_give : tb4 := [
  (0, [(.aload_n 0, 1, 0, 0), (.iload_n 1, 1, 0, 0), (.iload_n 2, 1, 0, 0), (.iload_n 3, 1, 0, 0)]),
  (4, [(.invokevirtual 19, 3, 131, 3)]),
  (7, [(.goto 11, 3, 18, 0)]),
  (18, [(.iconst 0, 1, 0, 0), (.ireturn, 1, 0, 0)])]
theorem e_Law_give_0 {F : List rw4 → Prop} {G : Prop} : lkp F G t_Law_give 0 = F [(.aload_n 0, 1, 0, 0), (.iload_n 1, 1, 0, 0), (.iload_n 2, 1, 0, 0), (.iload_n 3, 1, 0, 0)] := propext Iff.rfl
theorem e_Law_give_4 {F : List rw4 → Prop} {G : Prop} : lkp F G t_Law_give 4 = F [(.invokevirtual 19, 3, 131, 3)] := propext Iff.rfl
theorem e_Law_give_7 {F : List rw4 → Prop} {G : Prop} : lkp F G t_Law_give 7 = F [(.goto 11, 3, 18, 0)] := propext Iff.rfl
theorem e_Law_give_10 {F : List rw4 → Prop} {G : Prop} : lkp F G t_Law_give 10 = G := propext Iff.rfl
theorem e_Law_give_14 {F : List rw4 → Prop} {G : Prop} : lkp F G t_Law_give 14 = G := propext Iff.rfl
theorem e_Law_give_18 {F : List rw4 → Prop} {G : Prop} : lkp F G t_Law_give 18 = F [(.iconst 0, 1, 0, 0), (.ireturn, 1, 0, 0)] := propext Iff.rfl
theorem o_Law_give : tOk k_Law_give t_Law_give = true := by decide +kernel
/-- DroppedPiecesLaw.start(LDroppedPieces;I)I; heads of loops: [] -/
def t_Law_start : tb4 := [
  (0, [(.aload_n 0, 1, 0, 0), (.iload_n 1, 1, 0, 0)]),
  (2, [(.invokevirtual 23, 3, 132, 1)]),
  (5, [(.goto 9, 3, 14, 0)]),
  (14, [(.iconst 0, 1, 0, 0), (.ireturn, 1, 0, 0)])]
theorem e_Law_start_0 {F : List rw4 → Prop} {G : Prop} : lkp F G t_Law_start 0 = F [(.aload_n 0, 1, 0, 0), (.iload_n 1, 1, 0, 0)] := propext Iff.rfl
theorem e_Law_start_2 {F : List rw4 → Prop} {G : Prop} : lkp F G t_Law_start 2 = F [(.invokevirtual 23, 3, 132, 1)] := propext Iff.rfl
theorem e_Law_start_5 {F : List rw4 → Prop} {G : Prop} : lkp F G t_Law_start 5 = F [(.goto 9, 3, 14, 0)] := propext Iff.rfl
theorem e_Law_start_8 {F : List rw4 → Prop} {G : Prop} : lkp F G t_Law_start 8 = G := propext Iff.rfl
theorem e_Law_start_11 {F : List rw4 → Prop} {G : Prop} : lkp F G t_Law_start 11 = G := propext Iff.rfl
theorem e_Law_start_14 {F : List rw4 → Prop} {G : Prop} : lkp F G t_Law_start 14 = F [(.iconst 0, 1, 0, 0), (.ireturn, 1, 0, 0)] := propext Iff.rfl
theorem o_Law_start : tOk k_Law_start t_Law_start = true := by decide +kernel
/-- DroppedPiecesLaw.at(LDroppedPieces;I[J)I; heads of loops: [] -/
def t_Law_at : tb4 := [
  (0, [(.aload_n 2, 1, 0, 0), (.iconst 0, 1, 0, 0), (.aload_n 0, 1, 0, 0), (.iload_n 1, 1, 0, 0)]),
  (4, [(.invokevirtual 27, 3, 133, 1)]),
  (7, [(.i2l, 1, 0, 0), (.lastore, 1, 0, 0), (.goto 6, 3, 15, 0)]),
  (15, [(.iconst 0, 1, 0, 0), (.ireturn, 1, 0, 0)])]
theorem e_Law_at_0 {F : List rw4 → Prop} {G : Prop} : lkp F G t_Law_at 0 = F [(.aload_n 2, 1, 0, 0), (.iconst 0, 1, 0, 0), (.aload_n 0, 1, 0, 0), (.iload_n 1, 1, 0, 0)] := propext Iff.rfl
theorem e_Law_at_4 {F : List rw4 → Prop} {G : Prop} : lkp F G t_Law_at 4 = F [(.invokevirtual 27, 3, 133, 1)] := propext Iff.rfl
theorem e_Law_at_7 {F : List rw4 → Prop} {G : Prop} : lkp F G t_Law_at 7 = F [(.i2l, 1, 0, 0), (.lastore, 1, 0, 0), (.goto 6, 3, 15, 0)] := propext Iff.rfl
theorem e_Law_at_12 {F : List rw4 → Prop} {G : Prop} : lkp F G t_Law_at 12 = G := propext Iff.rfl
theorem e_Law_at_15 {F : List rw4 → Prop} {G : Prop} : lkp F G t_Law_at 15 = F [(.iconst 0, 1, 0, 0), (.ireturn, 1, 0, 0)] := propext Iff.rfl
theorem o_Law_at : tOk k_Law_at t_Law_at = true := by decide +kernel
/-- DroppedPiecesLaw.moves(LDroppedPieces;[J)I; heads of loops: [] -/
def t_Law_moves : tb4 := [
  (0, [(.aload_n 1, 1, 0, 0), (.iconst 0, 1, 0, 0), (.aload_n 0, 1, 0, 0)]),
  (3, [(.invokevirtual 31, 3, 134, 0)]),
  (6, [(.i2l, 1, 0, 0), (.lastore, 1, 0, 0), (.goto 6, 3, 14, 0)]),
  (14, [(.iconst 0, 1, 0, 0), (.ireturn, 1, 0, 0)])]
theorem e_Law_moves_0 {F : List rw4 → Prop} {G : Prop} : lkp F G t_Law_moves 0 = F [(.aload_n 1, 1, 0, 0), (.iconst 0, 1, 0, 0), (.aload_n 0, 1, 0, 0)] := propext Iff.rfl
theorem e_Law_moves_3 {F : List rw4 → Prop} {G : Prop} : lkp F G t_Law_moves 3 = F [(.invokevirtual 31, 3, 134, 0)] := propext Iff.rfl
theorem e_Law_moves_6 {F : List rw4 → Prop} {G : Prop} : lkp F G t_Law_moves 6 = F [(.i2l, 1, 0, 0), (.lastore, 1, 0, 0), (.goto 6, 3, 14, 0)] := propext Iff.rfl
theorem e_Law_moves_11 {F : List rw4 → Prop} {G : Prop} : lkp F G t_Law_moves 11 = G := propext Iff.rfl
theorem e_Law_moves_14 {F : List rw4 → Prop} {G : Prop} : lkp F G t_Law_moves 14 = F [(.iconst 0, 1, 0, 0), (.ireturn, 1, 0, 0)] := propext Iff.rfl
theorem o_Law_moves : tOk k_Law_moves t_Law_moves = true := by decide +kernel
/-- DroppedPiecesLaw.move(LDroppedPieces;I[J)I; heads of loops: [] -/
def t_Law_move : tb4 := [
  (0, [(.aload_n 2, 1, 0, 0), (.iconst 0, 1, 0, 0), (.aload_n 0, 1, 0, 0), (.iload_n 1, 1, 0, 0)]),
  (4, [(.invokevirtual 35, 3, 135, 1)]),
  (7, [(.i2l, 1, 0, 0), (.lastore, 1, 0, 0), (.goto 9, 3, 18, 0)]),
  (18, [(.iconst 0, 1, 0, 0), (.ireturn, 1, 0, 0)])]
theorem e_Law_move_0 {F : List rw4 → Prop} {G : Prop} : lkp F G t_Law_move 0 = F [(.aload_n 2, 1, 0, 0), (.iconst 0, 1, 0, 0), (.aload_n 0, 1, 0, 0), (.iload_n 1, 1, 0, 0)] := propext Iff.rfl
theorem e_Law_move_4 {F : List rw4 → Prop} {G : Prop} : lkp F G t_Law_move 4 = F [(.invokevirtual 35, 3, 135, 1)] := propext Iff.rfl
theorem e_Law_move_7 {F : List rw4 → Prop} {G : Prop} : lkp F G t_Law_move 7 = F [(.i2l, 1, 0, 0), (.lastore, 1, 0, 0), (.goto 9, 3, 18, 0)] := propext Iff.rfl
theorem e_Law_move_12 {F : List rw4 → Prop} {G : Prop} : lkp F G t_Law_move 12 = G := propext Iff.rfl
theorem e_Law_move_15 {F : List rw4 → Prop} {G : Prop} : lkp F G t_Law_move 15 = G := propext Iff.rfl
theorem e_Law_move_18 {F : List rw4 → Prop} {G : Prop} : lkp F G t_Law_move 18 = F [(.iconst 0, 1, 0, 0), (.ireturn, 1, 0, 0)] := propext Iff.rfl
theorem o_Law_move : tOk k_Law_move t_Law_move = true := by decide +kernel
/-- DroppedPiecesLaw.isLegal(LDroppedPieces;I[J)I; heads of loops: [] -/
def t_Law_isLegal : tb4 := [
  (0, [(.aload_n 2, 1, 0, 0), (.iconst 0, 1, 0, 0), (.aload_n 0, 1, 0, 0), (.iload_n 1, 1, 0, 0)]),
  (4, [(.invokevirtual 38, 3, 136, 1)]),
  (7, [(.ifCond .eq 7, 3, 14, 0)]),
  (10, [(.lconst 1, 1, 0, 0), (.goto 4, 3, 15, 0)]),
  (14, [(.lconst 0, 1, 0, 0)]),
  (15, [(.lastore, 1, 0, 0), (.goto 6, 3, 22, 0)]),
  (22, [(.iconst 0, 1, 0, 0), (.ireturn, 1, 0, 0)])]
theorem e_Law_isLegal_0 {F : List rw4 → Prop} {G : Prop} : lkp F G t_Law_isLegal 0 = F [(.aload_n 2, 1, 0, 0), (.iconst 0, 1, 0, 0), (.aload_n 0, 1, 0, 0), (.iload_n 1, 1, 0, 0)] := propext Iff.rfl
theorem e_Law_isLegal_4 {F : List rw4 → Prop} {G : Prop} : lkp F G t_Law_isLegal 4 = F [(.invokevirtual 38, 3, 136, 1)] := propext Iff.rfl
theorem e_Law_isLegal_7 {F : List rw4 → Prop} {G : Prop} : lkp F G t_Law_isLegal 7 = F [(.ifCond .eq 7, 3, 14, 0)] := propext Iff.rfl
theorem e_Law_isLegal_10 {F : List rw4 → Prop} {G : Prop} : lkp F G t_Law_isLegal 10 = F [(.lconst 1, 1, 0, 0), (.goto 4, 3, 15, 0)] := propext Iff.rfl
theorem e_Law_isLegal_14 {F : List rw4 → Prop} {G : Prop} : lkp F G t_Law_isLegal 14 = F [(.lconst 0, 1, 0, 0)] := propext Iff.rfl
theorem e_Law_isLegal_15 {F : List rw4 → Prop} {G : Prop} : lkp F G t_Law_isLegal 15 = F [(.lastore, 1, 0, 0), (.goto 6, 3, 22, 0)] := propext Iff.rfl
theorem e_Law_isLegal_19 {F : List rw4 → Prop} {G : Prop} : lkp F G t_Law_isLegal 19 = G := propext Iff.rfl
theorem e_Law_isLegal_22 {F : List rw4 → Prop} {G : Prop} : lkp F G t_Law_isLegal 22 = F [(.iconst 0, 1, 0, 0), (.ireturn, 1, 0, 0)] := propext Iff.rfl
theorem o_Law_isLegal : tOk k_Law_isLegal t_Law_isLegal = true := by decide +kernel
/-- DroppedPiecesLaw.result(LDroppedPieces;[J)I; heads of loops: [] -/
def t_Law_result : tb4 := [
  (0, [(.aload_n 1, 1, 0, 0), (.iconst 0, 1, 0, 0), (.aload_n 0, 1, 0, 0)]),
  (3, [(.invokevirtual 42, 3, 137, 0)]),
  (6, [(.i2l, 1, 0, 0), (.lastore, 1, 0, 0), (.goto 6, 3, 14, 0)]),
  (14, [(.iconst 0, 1, 0, 0), (.ireturn, 1, 0, 0)])]
theorem e_Law_result_0 {F : List rw4 → Prop} {G : Prop} : lkp F G t_Law_result 0 = F [(.aload_n 1, 1, 0, 0), (.iconst 0, 1, 0, 0), (.aload_n 0, 1, 0, 0)] := propext Iff.rfl
theorem e_Law_result_3 {F : List rw4 → Prop} {G : Prop} : lkp F G t_Law_result 3 = F [(.invokevirtual 42, 3, 137, 0)] := propext Iff.rfl
theorem e_Law_result_6 {F : List rw4 → Prop} {G : Prop} : lkp F G t_Law_result 6 = F [(.i2l, 1, 0, 0), (.lastore, 1, 0, 0), (.goto 6, 3, 14, 0)] := propext Iff.rfl
theorem e_Law_result_11 {F : List rw4 → Prop} {G : Prop} : lkp F G t_Law_result 11 = G := propext Iff.rfl
theorem e_Law_result_14 {F : List rw4 → Prop} {G : Prop} : lkp F G t_Law_result 14 = F [(.iconst 0, 1, 0, 0), (.ireturn, 1, 0, 0)] := propext Iff.rfl
theorem o_Law_result : tOk k_Law_result t_Law_result = true := by decide +kernel
/-- DroppedPiecesLaw.times(LDroppedPieces;[J)I; heads of loops: [] -/
def t_Law_times : tb4 := [
  (0, [(.aload_n 1, 1, 0, 0), (.iconst 0, 1, 0, 0), (.aload_n 0, 1, 0, 0)]),
  (3, [(.invokevirtual 45, 3, 138, 0)]),
  (6, [(.i2l, 1, 0, 0), (.lastore, 1, 0, 0), (.goto 6, 3, 14, 0)]),
  (14, [(.iconst 0, 1, 0, 0), (.ireturn, 1, 0, 0)])]
theorem e_Law_times_0 {F : List rw4 → Prop} {G : Prop} : lkp F G t_Law_times 0 = F [(.aload_n 1, 1, 0, 0), (.iconst 0, 1, 0, 0), (.aload_n 0, 1, 0, 0)] := propext Iff.rfl
theorem e_Law_times_3 {F : List rw4 → Prop} {G : Prop} : lkp F G t_Law_times 3 = F [(.invokevirtual 45, 3, 138, 0)] := propext Iff.rfl
theorem e_Law_times_6 {F : List rw4 → Prop} {G : Prop} : lkp F G t_Law_times 6 = F [(.i2l, 1, 0, 0), (.lastore, 1, 0, 0), (.goto 6, 3, 14, 0)] := propext Iff.rfl
theorem e_Law_times_11 {F : List rw4 → Prop} {G : Prop} : lkp F G t_Law_times 11 = G := propext Iff.rfl
theorem e_Law_times_14 {F : List rw4 → Prop} {G : Prop} : lkp F G t_Law_times 14 = F [(.iconst 0, 1, 0, 0), (.ireturn, 1, 0, 0)] := propext Iff.rfl
theorem o_Law_times : tOk k_Law_times t_Law_times = true := by decide +kernel
/-- DroppedPiecesLaw.play(LDroppedPieces;I[J)I; heads of loops: [] -/
def t_Law_play : tb4 := [
  (0, [(.aload_n 2, 1, 0, 0), (.iconst 0, 1, 0, 0), (.aload_n 0, 1, 0, 0), (.iload_n 1, 1, 0, 0)]),
  (4, [(.invokevirtual 48, 3, 139, 1)]),
  (7, [(.i2l, 1, 0, 0), (.lastore, 1, 0, 0), (.goto 9, 3, 18, 0)]),
  (18, [(.iconst 0, 1, 0, 0), (.ireturn, 1, 0, 0)])]
theorem e_Law_play_0 {F : List rw4 → Prop} {G : Prop} : lkp F G t_Law_play 0 = F [(.aload_n 2, 1, 0, 0), (.iconst 0, 1, 0, 0), (.aload_n 0, 1, 0, 0), (.iload_n 1, 1, 0, 0)] := propext Iff.rfl
theorem e_Law_play_4 {F : List rw4 → Prop} {G : Prop} : lkp F G t_Law_play 4 = F [(.invokevirtual 48, 3, 139, 1)] := propext Iff.rfl
theorem e_Law_play_7 {F : List rw4 → Prop} {G : Prop} : lkp F G t_Law_play 7 = F [(.i2l, 1, 0, 0), (.lastore, 1, 0, 0), (.goto 9, 3, 18, 0)] := propext Iff.rfl
theorem e_Law_play_12 {F : List rw4 → Prop} {G : Prop} : lkp F G t_Law_play 12 = G := propext Iff.rfl
theorem e_Law_play_15 {F : List rw4 → Prop} {G : Prop} : lkp F G t_Law_play 15 = G := propext Iff.rfl
theorem e_Law_play_18 {F : List rw4 → Prop} {G : Prop} : lkp F G t_Law_play 18 = F [(.iconst 0, 1, 0, 0), (.ireturn, 1, 0, 0)] := propext Iff.rfl
theorem o_Law_play : tOk k_Law_play t_Law_play = true := by decide +kernel
/-- DroppedPiecesLaw.back(LDroppedPieces;[J)I; heads of loops: [] -/
def t_Law_back : tb4 := [
  (0, [(.aload_n 1, 1, 0, 0), (.iconst 0, 1, 0, 0), (.aload_n 0, 1, 0, 0)]),
  (3, [(.invokevirtual 51, 3, 140, 0)]),
  (6, [(.i2l, 1, 0, 0), (.lastore, 1, 0, 0), (.goto 9, 3, 17, 0)]),
  (17, [(.iconst 0, 1, 0, 0), (.ireturn, 1, 0, 0)])]
theorem e_Law_back_0 {F : List rw4 → Prop} {G : Prop} : lkp F G t_Law_back 0 = F [(.aload_n 1, 1, 0, 0), (.iconst 0, 1, 0, 0), (.aload_n 0, 1, 0, 0)] := propext Iff.rfl
theorem e_Law_back_3 {F : List rw4 → Prop} {G : Prop} : lkp F G t_Law_back 3 = F [(.invokevirtual 51, 3, 140, 0)] := propext Iff.rfl
theorem e_Law_back_6 {F : List rw4 → Prop} {G : Prop} : lkp F G t_Law_back 6 = F [(.i2l, 1, 0, 0), (.lastore, 1, 0, 0), (.goto 9, 3, 17, 0)] := propext Iff.rfl
theorem e_Law_back_11 {F : List rw4 → Prop} {G : Prop} : lkp F G t_Law_back 11 = G := propext Iff.rfl
theorem e_Law_back_14 {F : List rw4 → Prop} {G : Prop} : lkp F G t_Law_back 14 = G := propext Iff.rfl
theorem e_Law_back_17 {F : List rw4 → Prop} {G : Prop} : lkp F G t_Law_back 17 = F [(.iconst 0, 1, 0, 0), (.ireturn, 1, 0, 0)] := propext Iff.rfl
theorem o_Law_back : tOk k_Law_back t_Law_back = true := by decide +kernel
/-- DroppedPiecesLaw.count(LDroppedPieces;I[J)I; heads of loops: [] -/
def t_Law_count : tb4 := [
  (0, [(.aload_n 2, 1, 0, 0), (.iconst 0, 1, 0, 0), (.aload_n 0, 1, 0, 0), (.iload_n 1, 1, 0, 0)]),
  (4, [(.invokevirtual 56, 3, 141, 1)]),
  (7, [(.i2l, 1, 0, 0), (.lastore, 1, 0, 0), (.goto 9, 3, 18, 0)]),
  (18, [(.iconst 0, 1, 0, 0), (.ireturn, 1, 0, 0)])]
theorem e_Law_count_0 {F : List rw4 → Prop} {G : Prop} : lkp F G t_Law_count 0 = F [(.aload_n 2, 1, 0, 0), (.iconst 0, 1, 0, 0), (.aload_n 0, 1, 0, 0), (.iload_n 1, 1, 0, 0)] := propext Iff.rfl
theorem e_Law_count_4 {F : List rw4 → Prop} {G : Prop} : lkp F G t_Law_count 4 = F [(.invokevirtual 56, 3, 141, 1)] := propext Iff.rfl
theorem e_Law_count_7 {F : List rw4 → Prop} {G : Prop} : lkp F G t_Law_count 7 = F [(.i2l, 1, 0, 0), (.lastore, 1, 0, 0), (.goto 9, 3, 18, 0)] := propext Iff.rfl
theorem e_Law_count_12 {F : List rw4 → Prop} {G : Prop} : lkp F G t_Law_count 12 = G := propext Iff.rfl
theorem e_Law_count_15 {F : List rw4 → Prop} {G : Prop} : lkp F G t_Law_count 15 = G := propext Iff.rfl
theorem e_Law_count_18 {F : List rw4 → Prop} {G : Prop} : lkp F G t_Law_count 18 = F [(.iconst 0, 1, 0, 0), (.ireturn, 1, 0, 0)] := propext Iff.rfl
theorem o_Law_count : tOk k_Law_count t_Law_count = true := by decide +kernel
/-- DroppedPiecesLaw.mate(LDroppedPieces;[J)I; heads of loops: [] -/
def t_Law_mate : tb4 := [
  (0, [(.aload_n 1, 1, 0, 0), (.iconst 0, 1, 0, 0), (.aload_n 0, 1, 0, 0)]),
  (3, [(.invokevirtual 59, 3, 142, 0)]),
  (6, [(.i2l, 1, 0, 0), (.lastore, 1, 0, 0), (.goto 6, 3, 14, 0)]),
  (14, [(.iconst 0, 1, 0, 0), (.ireturn, 1, 0, 0)])]
theorem e_Law_mate_0 {F : List rw4 → Prop} {G : Prop} : lkp F G t_Law_mate 0 = F [(.aload_n 1, 1, 0, 0), (.iconst 0, 1, 0, 0), (.aload_n 0, 1, 0, 0)] := propext Iff.rfl
theorem e_Law_mate_3 {F : List rw4 → Prop} {G : Prop} : lkp F G t_Law_mate 3 = F [(.invokevirtual 59, 3, 142, 0)] := propext Iff.rfl
theorem e_Law_mate_6 {F : List rw4 → Prop} {G : Prop} : lkp F G t_Law_mate 6 = F [(.i2l, 1, 0, 0), (.lastore, 1, 0, 0), (.goto 6, 3, 14, 0)] := propext Iff.rfl
theorem e_Law_mate_11 {F : List rw4 → Prop} {G : Prop} : lkp F G t_Law_mate 11 = G := propext Iff.rfl
theorem e_Law_mate_14 {F : List rw4 → Prop} {G : Prop} : lkp F G t_Law_mate 14 = F [(.iconst 0, 1, 0, 0), (.ireturn, 1, 0, 0)] := propext Iff.rfl
theorem o_Law_mate : tOk k_Law_mate t_Law_mate = true := by decide +kernel
theorem L_DP_requireSettingUp : mL k_DP_requireSettingUp = 1 := by decide +kernel
theorem L_DP_requireGame : mL k_DP_requireGame = 1 := by decide +kernel
theorem L_DP_requireSquare : mL k_DP_requireSquare = 1 := by decide +kernel
theorem L_DP_put : mL k_DP_put = 4 := by decide +kernel
theorem L_DP_give : mL k_DP_give = 4 := by decide +kernel
theorem L_DP_start : mL k_DP_start = 2 := by decide +kernel
theorem L_DP_at : mL k_DP_at = 2 := by decide +kernel
theorem L_DP_moves : mL k_DP_moves = 1 := by decide +kernel
theorem L_DP_move : mL k_DP_move = 2 := by decide +kernel
theorem L_DP_isLegal : mL k_DP_isLegal = 2 := by decide +kernel
theorem L_DP_result : mL k_DP_result = 1 := by decide +kernel
theorem L_DP_times : mL k_DP_times = 1 := by decide +kernel
theorem L_DP_play : mL k_DP_play = 3 := by decide +kernel
theorem L_DP_back : mL k_DP_back = 2 := by decide +kernel
theorem L_DP_count : mL k_DP_count = 2 := by decide +kernel
theorem L_DP_mate : mL k_DP_mate = 2 := by decide +kernel
theorem L_Law_put : mL k_Law_put = 5 := by decide +kernel
theorem L_Law_give : mL k_Law_give = 5 := by decide +kernel
theorem L_Law_start : mL k_Law_start = 3 := by decide +kernel
theorem L_Law_at : mL k_Law_at = 4 := by decide +kernel
theorem L_Law_moves : mL k_Law_moves = 3 := by decide +kernel
theorem L_Law_move : mL k_Law_move = 4 := by decide +kernel
theorem L_Law_isLegal : mL k_Law_isLegal = 4 := by decide +kernel
theorem L_Law_result : mL k_Law_result = 3 := by decide +kernel
theorem L_Law_times : mL k_Law_times = 3 := by decide +kernel
theorem L_Law_play : mL k_Law_play = 4 := by decide +kernel
theorem L_Law_back : mL k_Law_back = 3 := by decide +kernel
theorem L_Law_count : mL k_Law_count = 4 := by decide +kernel
theorem L_Law_mate : mL k_Law_mate = 3 := by decide +kernel
theorem L_Law_law : mL k_Law_law = 7 := by decide +kernel
theorem N_DP_requireSettingUp : mN 127 = 5 := by decide +kernel
theorem N_DP_requireGame : mN 128 = 5 := by decide +kernel
theorem N_DP_requireSquare : mN 129 = 5 := by decide +kernel
theorem N_DP_put : mN 130 = 5 := by decide +kernel
theorem N_DP_give : mN 131 = 5 := by decide +kernel
theorem N_DP_start : mN 132 = 5 := by decide +kernel
theorem N_DP_at : mN 133 = 5 := by decide +kernel
theorem N_DP_moves : mN 134 = 5 := by decide +kernel
theorem N_DP_move : mN 135 = 5 := by decide +kernel
theorem N_DP_isLegal : mN 136 = 5 := by decide +kernel
theorem N_DP_result : mN 137 = 5 := by decide +kernel
theorem N_DP_times : mN 138 = 5 := by decide +kernel
theorem N_DP_play : mN 139 = 5 := by decide +kernel
theorem N_DP_back : mN 140 = 5 := by decide +kernel
theorem N_DP_count : mN 141 = 5 := by decide +kernel
theorem N_DP_mate : mN 142 = 5 := by decide +kernel
theorem N_Law_put : mN 143 = 10 := by decide +kernel
theorem N_Law_give : mN 144 = 10 := by decide +kernel
theorem N_Law_start : mN 145 = 10 := by decide +kernel
theorem N_Law_at : mN 146 = 10 := by decide +kernel
theorem N_Law_moves : mN 147 = 10 := by decide +kernel
theorem N_Law_move : mN 148 = 10 := by decide +kernel
theorem N_Law_isLegal : mN 149 = 10 := by decide +kernel
theorem N_Law_result : mN 150 = 10 := by decide +kernel
theorem N_Law_times : mN 151 = 10 := by decide +kernel
theorem N_Law_play : mN 152 = 10 := by decide +kernel
theorem N_Law_back : mN 153 = 10 := by decide +kernel
theorem N_Law_count : mN 154 = 10 := by decide +kernel
theorem N_Law_mate : mN 155 = 10 := by decide +kernel
theorem N_Law_law : mN 156 = 10 := by decide +kernel
