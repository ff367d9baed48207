/-! Rules: insertTarget, addTargets -/
/-- the targets are T, in rising order -/
def tgIs (M : am) (T : List Nat) : Prop := M 5 5 = T.length ∧ ∀ i, i < T.length → M 6 i = ((T.getD i 0 : Nat) : Int)
abbrev rising (T : List Nat) : Prop := T.Pairwise (fun a b => a < b)
theorem rising_at {T : List Nat} (h : rising T) {i j : Nat} (hij : i < j) (hj : j < T.length) : T.getD i 0 < T.getD j 0 := by
  rw [List.getD_eq_getElem?_getD, List.getD_eq_getElem?_getD, List.getElem?_eq_getElem (by omega), List.getElem?_eq_getElem hj]
  exact List.pairwise_iff_getElem.mp h i j (by omega) hj hij
theorem getD_mem {T : List Nat} {i : Nat} (h : i < T.length) : T.getD i 0 ∈ T := by
  rw [List.getD_eq_getElem?_getD, List.getElem?_eq_getElem h]
  exact List.getElem_mem h
def fr56 (M M' : am) : Prop := (∀ a, a ≠ 5 → a ≠ 6 → M' a = M a) ∧ ∀ i, i ≠ 5 → M' 5 i = M 5 i
def insP (M : am) (T : List Nat) (to : Nat) : Option av → am → Prop := fun r M' => r = none ∧ fr56 M M' ∧ ∃ T', tgIs M' T' ∧ rising T' ∧ (∀ x, x ∈ T' ↔ x = to ∨ x ∈ T) ∧ T'.length = T.length + 1
theorem ins_end (M M1 : am) (T : List Nat) (to k : Nat) (hT : tgIs M T) (hs : rising T) (hk : k ≤ T.length) (hn : to ∉ T) (hf : fr56 M M1) (h55 : M1 5 5 = T.length) (h1 : ∀ i, i < k → M1 6 i = ((T.getD i 0 : Nat) : Int)) (h2 : ∀ i, k ≤ i → i < T.length → M1 6 (i + 1) = ((T.getD i 0 : Nat) : Int)) (h3 : ∀ i, k ≤ i → i < T.length → to < T.getD i 0) (h4 : k = 0 ∨ T.getD (k - 1) 0 ≤ to) :
    insP M T to none (up2 (up2 M1 6 k to) 5 5 (M1 5 5 + 1)) := by
  have hlt : ∀ i, i < k → T.getD i 0 < to := by
    intro i hi
    rcases h4 with h | h
    · omega
    · have hne : T.getD i 0 ≠ to := fun e => hn (e ▸ getD_mem (by omega))
      by_cases e : i = k - 1
      · subst e; omega
      · have := rising_at hs (show i < k - 1 by omega) (by omega); omega
  have e6 : up2 (up2 M1 6 k to) 5 5 (M1 5 5 + 1) 6 = up1 (M1 6) k to := by simp only [up2_ap, ↓reduceIte, Nat.reduceEqDiff]
  have hlen : (T.take k ++ to :: T.drop k).length = T.length + 1 := by simp; omega
  have hat : ∀ i, (T.take k ++ to :: T.drop k).getD i 0 = if i < k then T.getD i 0 else if i = k then to else T.getD (i - 1) 0 := by
    intro i
    simp only [List.getD_eq_getElem?_getD]
    by_cases hi : i < k
    · rw [if_pos hi, List.getElem?_append_left (by simp; omega), List.getElem?_take_of_lt hi]
    · rw [if_neg hi, List.getElem?_append_right (by simp; omega)]
      simp only [List.length_take, Nat.min_eq_left hk]
      by_cases e : i = k
      · subst e; simp
      · rw [if_neg e, show i - k = (i - 1 - k) + 1 by omega, List.getElem?_cons_succ, List.getElem?_drop, show k + (i - 1 - k) = i - 1 by omega]
  refine ⟨rfl, ⟨fun a q1 q2 => ?_, fun i hi => ?_⟩, T.take k ++ to :: T.drop k, ⟨?_, fun i hi => ?_⟩, ?_, fun x => ?_, hlen⟩
  · simp only [up2_ap, q1, q2, if_false]; exact hf.1 a q1 q2
  · rw [up2_n _ _ (Or.inr hi), up2_n _ _ (Or.inl (by decide))]; exact hf.2 i hi
  · rw [up2_s, h55, hlen]; omega
  · rw [e6, hat i]
    unfold up1
    by_cases h : i < k
    · rw [if_neg (by omega), if_pos h]; exact h1 i h
    · rw [if_neg h]
      by_cases e : i = k
      · rw [if_pos e, if_pos e]
      · rw [if_neg e, if_neg e]
        have := h2 (i - 1) (by omega) (by omega)
        rw [show i - 1 + 1 = i by omega] at this
        exact this
  · refine List.pairwise_append.mpr ⟨List.Pairwise.sublist (List.take_sublist k T) hs, List.pairwise_cons.mpr ⟨fun a ha => ?_, List.Pairwise.sublist (List.drop_sublist k T) hs⟩, fun a ha b hb => ?_⟩
    · obtain ⟨j, hj, rfl⟩ := List.getElem_of_mem ha
      have hj2 : j < T.length - k := by simpa using hj
      have := h3 (k + j) (by omega) (by omega)
      rw [List.getD_eq_getElem?_getD, List.getElem?_eq_getElem (by omega)] at this
      rw [List.getElem_drop]
      exact this
    · obtain ⟨i, hi, rfl⟩ := List.getElem_of_mem ha
      have hi2 : i < k ∧ i < T.length := by
        have h9 : i < min k T.length := by simpa using hi
        omega
      have h5 := hlt i hi2.1
      rw [List.getD_eq_getElem?_getD, List.getElem?_eq_getElem hi2.2] at h5
      rw [List.getElem_take]
      have h5 : T[i] < to := h5
      rcases List.mem_cons.mp hb with rfl | hb
      · exact h5
      · obtain ⟨j, hj, rfl⟩ := List.getElem_of_mem hb
        have hj2 : j < T.length - k := by simpa using hj
        have := h3 (k + j) (by omega) (by omega)
        rw [List.getD_eq_getElem?_getD, List.getElem?_eq_getElem (by omega)] at this
        rw [List.getElem_drop]
        have this : to < T[k + j] := this
        omega
  · rw [List.mem_append, List.mem_cons]
    constructor
    · rintro (h | h | h)
      · exact Or.inr (List.mem_of_mem_take h)
      · exact Or.inl h
      · exact Or.inr (List.mem_of_mem_drop h)
    · rintro (h | h)
      · exact Or.inr (Or.inl h)
      · rw [← List.take_append_drop k T] at h
        rcases List.mem_append.mp h with h | h
        · exact Or.inl h
        · exact Or.inr (Or.inr h)
theorem insertTarget_loop (M : am) (T : List Nat) (to : Nat) (hT : tgIs M T) (hs : rising T) (hl : T.length < 20) (hto : to < 81) (hb : ∀ x ∈ T, x < 81) (hn : to ∉ T) : ∀ (k : Nat) (M1 : am), k ≤ T.length → fr56 M M1 → M1 5 5 = T.length → (∀ i, i < k → M1 6 i = ((T.getD i 0 : Nat) : Int)) → (∀ i, k ≤ i → i < T.length → M1 6 (i + 1) = ((T.getD i 0 : Nat) : Int)) → (∀ i, k ≤ i → i < T.length → to < T.getD i 0) → V 27 k_Rules_insertTarget (insP M T to) 15 [some (.inr 5), some (.inl (to : Int)), some (.inl (k : Int))] [] M1 := by
  intro k
  induction k with
  | zero =>
    intro M1 hk hf h55 h1 h2 h3
    have he := ins_end M M1 T to 0 hT hs hk hn hf h55 h1 h2 h3 (Or.inl rfl)
    have e5 : ∀ (j : Nat) v, up2 M1 6 j v 5 5 = M1 5 5 := fun j v => up2_n M1 v (Or.inl (by decide))
    (refine go_ok o_Rules_insertTarget [15] 30 ?_; simp only [e_Rules_insertTarget_0, e_Rules_insertTarget_9, e_Rules_insertTarget_10, e_Rules_insertTarget_15, e_Rules_insertTarget_19, e_Rules_insertTarget_31, e_Rules_insertTarget_51, q_nil, q_iconst, q_bipush, q_sipush, q_ldc, q_ldc_w, q_iload_0, q_iload_n_0, q_aload_0, q_aload_n_0, q_istore_0, q_istore_n_0, q_iinc_0, q_iload_1, q_iload_n_1, q_aload_1, q_aload_n_1, q_istore_1, q_istore_n_1, q_iinc_1, q_iload_2, q_iload_n_2, q_aload_2, q_aload_n_2, q_istore_2, q_istore_n_2, q_iinc_2, q_iload_3, q_iload_n_3, q_aload_3, q_aload_n_3, q_istore_3, q_istore_n_3, q_iinc_3, q_iload_4, q_aload_4, q_istore_4, q_iinc_4, q_iload_5, q_aload_5, q_istore_5, q_iinc_5, q_iload_6, q_aload_6, q_istore_6, q_iinc_6, q_iload_7, q_aload_7, q_istore_7, q_iinc_7, q_iload_8, q_aload_8, q_istore_8, q_iinc_8, q_iload_9, q_aload_9, q_istore_9, q_iinc_9, q_iload_10, q_aload_10, q_istore_10, q_iinc_10, q_iload_11, q_aload_11, q_istore_11, q_iinc_11, q_iload_12, q_aload_12, q_istore_12, q_iinc_12, q_iload_13, q_aload_13, q_istore_13, q_iinc_13, q_iadd, q_isub, q_imul, q_idiv, q_irem, q_ior, q_ixor, q_ishr, q_iushr, q_ishl, q_iand_1, q_iand_0, q_ineg, q_dup_i, q_pop_i, q_dup_a, q_pop_a, q_dup2, q_getfield, q_putfield, q_getstatic, q_iaload, q_baload, q_laload, q_iastore, q_bastore, q_lastore, q_arraylength, q_i2l, q_lconst, q_lshl, q_lor, q_lcmp, q_calls, q_callv, q_goto, q_if_eq, q_if_ne, q_if_lt, q_if_ge, q_if_gt, q_if_le, q_ic_eq, q_ic_ne, q_ic_lt, q_ic_ge, q_ic_gt, q_ic_le, q_sw, q_ret1, q_ret0, q_vret, q_gtf, q_ptf, q_aln, q_ald, q_zld, q_lld, q_ast, q_zst, q_lst, q_gfmI, q_gfmR, q_pfmI, q_pfmZ, q_cls, q_clv, q_clsm, q_clvm, q_pop0, q_go, inS, q_runT, q_runT0, popn, lo, wt, ini, List.map_cons, List.map_nil, List.cons_append, List.nil_append, List.length_cons, List.length_nil, List.replicate_succ, List.replicate_zero, ↓reduceIte, Nat.reduceAdd, Nat.reduceSub, Nat.reduceEqDiff, Nat.reduceLT, Nat.reduceLeDiff, List.getElem?_cons_zero, List.getElem?_cons_succ, true_and, and_true, true_or, or_true, false_or, or_false, not_true_eq_false, not_false_eq_true, eq_self, Option.some.injEq, Sum.inl.injEq, Option.toList_some, Option.toList_none, List.cons_append, List.nil_append, if_true, if_false, Bool.false_eq_true, forall_const, ans, Int.toNat_natCast, Int.reduceToNat, stN_100, stN_101, stN_102, stN_103, stN_104, stN_105, sh_0, sh_1, sh_2, sh_3, sh_4, sh_5, sh_6, sh_7, sh_8, sh_9, sh_10, sh_11, sh_12, sh_13, sh_14, sh_15, sh_16, sh_17, sh_18, sh_19, sh_20, sh_21, sh_22, sh_23, sh_24, sh_25, sh_26, sh_27, sh_28, sh_29, sh_30, sh_31, sh_32, sh_33, sh_34, sh_35, sh_36, cst_0, cst_1, cst_2, cst_4, cst_16, cst_20, cst_81, cst_150, cst_151, cst_1359, cst_3113, Int.natCast_nonneg, Int.reducePow, Int.reduceSub, N_Board_empty, N_Board_setBoth, N_Board_findKings, N_Board_setBeginning, N_DP_setBeginning, N_DP_begin, N_DP_clear, N_DP_hand, N_DP_player, N_Board_isAttackedAlong, N_Board_isKnightAt, N_Board_isAttacked, N_DP_reaches, N_Board_isKingAttacked, N_DP_inCheck, N_Guard_noteAttack, N_Guard_lookAlong, N_Guard_lookForKnight, N_Guard_look, N_MoveRow_add, N_Rules_addKingMoves, N_Guard_allowsAlong, N_Guard_allowsTo, N_Rules_insertTarget, N_Rules_addTargets, N_Rules_addPieceMoves, N_Rules_addBoardMoves, N_Board_pawnColumns, N_Rules_pawnCheckSquare, N_Rules_addDropsOf, N_Rules_addDrops, N_Rules_list, N_MoveRow_holds, N_Board_copyFrom, N_Board_takeBack, N_Board_isSameAs, N_History_countSame, N_History_areAllChecks, N_History_repetition, N_DP_outcome, N_DP_made, N_Board_make, N_DP_isMatedBehind, N_DP_countReplies, N_Model_thrown, N_Model_isFree, N_Model_mayGo, N_Model_attacks, N_Model_isAttacked, N_Model_hasPawn, N_Model_isMove, N_Model_make, N_Model_unmake, N_Model_isSafe, N_Model_hasSafe, N_Model_isPawnMate, N_Model_isAllowed, N_Model_many, N_Model_moveAt, N_Model_isLegalNow, N_Model_emptyAll, N_Model_note, N_Model_begin, N_Model_clear, N_Model_refused, N_Model_put, N_Model_give, N_Model_isSound, N_Model_start, N_Model_at, N_Model_hand, N_Model_player, N_Model_reaches, N_Model_inCheck, N_Model_moves, N_Model_move, N_Model_isLegal, N_Model_isSame, N_Model_often, N_Model_before, N_Model_allChecks, N_Model_resultNow, N_Model_result, N_Model_times, N_Model_play, N_Model_back, N_Model_made, N_Model_twoDeep, N_Model_count, N_Model_mate, N_Board_countOf, N_Board_hasStuckPiece, N_Board_hasTwoPawnsInColumn, N_Board_mayStart, N_History_add, mem])
    simp only [e5]
    refine ⟨fun _ => ?_, fun h => by omega⟩
    (repeat (refine And.intro (by first | (show (_ : Int) ≤ _; omega) | (show (_ : Int) < _; omega) | (show r32 _; unfold r32; omega) | (show (_ : Int) ≤ _ ∧ _; omega) | (show (_ : Nat) < _; omega) | (show (_ : Nat) ≤ _; omega)) ?_))
    exact he
  | succ k ih =>
    intro M1 hk hf h55 h1 h2 h3
    have e5 : ∀ (j : Nat) v, up2 M1 6 j v 5 5 = M1 5 5 := fun j v => up2_n M1 v (Or.inl (by decide))
    have hk1 := h1 k (by omega)
    have hm := hb _ (getD_mem (show k < T.length by omega))
    (refine go_ok o_Rules_insertTarget [15] 30 ?_; simp only [e_Rules_insertTarget_0, e_Rules_insertTarget_9, e_Rules_insertTarget_10, e_Rules_insertTarget_15, e_Rules_insertTarget_19, e_Rules_insertTarget_31, e_Rules_insertTarget_51, q_nil, q_iconst, q_bipush, q_sipush, q_ldc, q_ldc_w, q_iload_0, q_iload_n_0, q_aload_0, q_aload_n_0, q_istore_0, q_istore_n_0, q_iinc_0, q_iload_1, q_iload_n_1, q_aload_1, q_aload_n_1, q_istore_1, q_istore_n_1, q_iinc_1, q_iload_2, q_iload_n_2, q_aload_2, q_aload_n_2, q_istore_2, q_istore_n_2, q_iinc_2, q_iload_3, q_iload_n_3, q_aload_3, q_aload_n_3, q_istore_3, q_istore_n_3, q_iinc_3, q_iload_4, q_aload_4, q_istore_4, q_iinc_4, q_iload_5, q_aload_5, q_istore_5, q_iinc_5, q_iload_6, q_aload_6, q_istore_6, q_iinc_6, q_iload_7, q_aload_7, q_istore_7, q_iinc_7, q_iload_8, q_aload_8, q_istore_8, q_iinc_8, q_iload_9, q_aload_9, q_istore_9, q_iinc_9, q_iload_10, q_aload_10, q_istore_10, q_iinc_10, q_iload_11, q_aload_11, q_istore_11, q_iinc_11, q_iload_12, q_aload_12, q_istore_12, q_iinc_12, q_iload_13, q_aload_13, q_istore_13, q_iinc_13, q_iadd, q_isub, q_imul, q_idiv, q_irem, q_ior, q_ixor, q_ishr, q_iushr, q_ishl, q_iand_1, q_iand_0, q_ineg, q_dup_i, q_pop_i, q_dup_a, q_pop_a, q_dup2, q_getfield, q_putfield, q_getstatic, q_iaload, q_baload, q_laload, q_iastore, q_bastore, q_lastore, q_arraylength, q_i2l, q_lconst, q_lshl, q_lor, q_lcmp, q_calls, q_callv, q_goto, q_if_eq, q_if_ne, q_if_lt, q_if_ge, q_if_gt, q_if_le, q_ic_eq, q_ic_ne, q_ic_lt, q_ic_ge, q_ic_gt, q_ic_le, q_sw, q_ret1, q_ret0, q_vret, q_gtf, q_ptf, q_aln, q_ald, q_zld, q_lld, q_ast, q_zst, q_lst, q_gfmI, q_gfmR, q_pfmI, q_pfmZ, q_cls, q_clv, q_clsm, q_clvm, q_pop0, q_go, inS, q_runT, q_runT0, popn, lo, wt, ini, List.map_cons, List.map_nil, List.cons_append, List.nil_append, List.length_cons, List.length_nil, List.replicate_succ, List.replicate_zero, ↓reduceIte, Nat.reduceAdd, Nat.reduceSub, Nat.reduceEqDiff, Nat.reduceLT, Nat.reduceLeDiff, List.getElem?_cons_zero, List.getElem?_cons_succ, true_and, and_true, true_or, or_true, false_or, or_false, not_true_eq_false, not_false_eq_true, eq_self, Option.some.injEq, Sum.inl.injEq, Option.toList_some, Option.toList_none, List.cons_append, List.nil_append, if_true, if_false, Bool.false_eq_true, forall_const, ans, Int.toNat_natCast, Int.reduceToNat, stN_100, stN_101, stN_102, stN_103, stN_104, stN_105, sh_0, sh_1, sh_2, sh_3, sh_4, sh_5, sh_6, sh_7, sh_8, sh_9, sh_10, sh_11, sh_12, sh_13, sh_14, sh_15, sh_16, sh_17, sh_18, sh_19, sh_20, sh_21, sh_22, sh_23, sh_24, sh_25, sh_26, sh_27, sh_28, sh_29, sh_30, sh_31, sh_32, sh_33, sh_34, sh_35, sh_36, cst_0, cst_1, cst_2, cst_4, cst_16, cst_20, cst_81, cst_150, cst_151, cst_1359, cst_3113, Int.natCast_nonneg, Int.reducePow, Int.reduceSub, N_Board_empty, N_Board_setBoth, N_Board_findKings, N_Board_setBeginning, N_DP_setBeginning, N_DP_begin, N_DP_clear, N_DP_hand, N_DP_player, N_Board_isAttackedAlong, N_Board_isKnightAt, N_Board_isAttacked, N_DP_reaches, N_Board_isKingAttacked, N_DP_inCheck, N_Guard_noteAttack, N_Guard_lookAlong, N_Guard_lookForKnight, N_Guard_look, N_MoveRow_add, N_Rules_addKingMoves, N_Guard_allowsAlong, N_Guard_allowsTo, N_Rules_insertTarget, N_Rules_addTargets, N_Rules_addPieceMoves, N_Rules_addBoardMoves, N_Board_pawnColumns, N_Rules_pawnCheckSquare, N_Rules_addDropsOf, N_Rules_addDrops, N_Rules_list, N_MoveRow_holds, N_Board_copyFrom, N_Board_takeBack, N_Board_isSameAs, N_History_countSame, N_History_areAllChecks, N_History_repetition, N_DP_outcome, N_DP_made, N_Board_make, N_DP_isMatedBehind, N_DP_countReplies, N_Model_thrown, N_Model_isFree, N_Model_mayGo, N_Model_attacks, N_Model_isAttacked, N_Model_hasPawn, N_Model_isMove, N_Model_make, N_Model_unmake, N_Model_isSafe, N_Model_hasSafe, N_Model_isPawnMate, N_Model_isAllowed, N_Model_many, N_Model_moveAt, N_Model_isLegalNow, N_Model_emptyAll, N_Model_note, N_Model_begin, N_Model_clear, N_Model_refused, N_Model_put, N_Model_give, N_Model_isSound, N_Model_start, N_Model_at, N_Model_hand, N_Model_player, N_Model_reaches, N_Model_inCheck, N_Model_moves, N_Model_move, N_Model_isLegal, N_Model_isSame, N_Model_often, N_Model_before, N_Model_allChecks, N_Model_resultNow, N_Model_result, N_Model_times, N_Model_play, N_Model_back, N_Model_made, N_Model_twoDeep, N_Model_count, N_Model_mate, N_Board_countOf, N_Board_hasStuckPiece, N_Board_hasTwoPawnsInColumn, N_Board_mayStart, N_History_add, mem])
    rw [show ((k + 1 : Nat) : Int) - 1 = (k : Int) by omega, show ((k + 1 : Nat) : Int) + -1 = (k : Int) by omega]
    simp only [Int.toNat_natCast, e5, hk1]
    refine ⟨fun h => by omega, fun _ => ?_⟩
    (repeat (refine And.intro (by first | (show (_ : Int) ≤ _; omega) | (show (_ : Int) < _; omega) | (show r32 _; unfold r32; omega) | (show (_ : Int) ≤ _ ∧ _; omega) | (show (_ : Nat) < _; omega) | (show (_ : Nat) ≤ _; omega)) ?_))
    refine ⟨fun h => ?_, fun h => ?_⟩ <;> (repeat (refine And.intro (by first | (show (_ : Int) ≤ _; omega) | (show (_ : Int) < _; omega) | (show r32 _; unfold r32; omega) | (show (_ : Int) ≤ _ ∧ _; omega) | (show (_ : Nat) < _; omega) | (show (_ : Nat) ≤ _; omega)) ?_))
    · exact ins_end M M1 T to (k + 1) hT hs hk hn hf h55 h1 h2 h3 (Or.inr (by rw [Nat.add_sub_cancel]; omega))
    · refine ih _ (by omega) ⟨fun a q1 q2 => by rw [up2_ap, if_neg q2]; exact hf.1 a q1 q2, fun i hi => by rw [up2_n M1 _ (Or.inl (by decide))]; exact hf.2 i hi⟩ (by rw [e5]; exact h55) (fun i hi => by rw [up2_n M1 _ (Or.inr (by omega))]; exact h1 i (by omega)) (fun i hi hi2 => ?_) (fun i hi hi2 => ?_)
      · by_cases e : i = k
        · subst e; rw [up2_s]
        · rw [up2_n M1 _ (Or.inr (by omega))]; exact h2 i (by omega) hi2
      · by_cases e : i = k
        · subst e; omega
        · exact h3 i (by omega) hi2
theorem c_insertTarget (M : am) (T : List Nat) (to : Nat) (hT : tgIs M T) (hs : rising T) (hl : T.length < 20) (hto : to < 81) (hb : ∀ x ∈ T, x < 81) (hn : to ∉ T) : Runs 27 k_Rules_insertTarget [.inr 5, .inl (to : Int)] M (insP M T to) := by
  have h55 := hT.1
  (refine Runs.go L_Rules_insertTarget rfl (by simp) (fun hR => ?_); refine go_ok o_Rules_insertTarget [15] 30 ?_; simp only [e_Rules_insertTarget_0, e_Rules_insertTarget_9, e_Rules_insertTarget_10, e_Rules_insertTarget_15, e_Rules_insertTarget_19, e_Rules_insertTarget_31, e_Rules_insertTarget_51, q_nil, q_iconst, q_bipush, q_sipush, q_ldc, q_ldc_w, q_iload_0, q_iload_n_0, q_aload_0, q_aload_n_0, q_istore_0, q_istore_n_0, q_iinc_0, q_iload_1, q_iload_n_1, q_aload_1, q_aload_n_1, q_istore_1, q_istore_n_1, q_iinc_1, q_iload_2, q_iload_n_2, q_aload_2, q_aload_n_2, q_istore_2, q_istore_n_2, q_iinc_2, q_iload_3, q_iload_n_3, q_aload_3, q_aload_n_3, q_istore_3, q_istore_n_3, q_iinc_3, q_iload_4, q_aload_4, q_istore_4, q_iinc_4, q_iload_5, q_aload_5, q_istore_5, q_iinc_5, q_iload_6, q_aload_6, q_istore_6, q_iinc_6, q_iload_7, q_aload_7, q_istore_7, q_iinc_7, q_iload_8, q_aload_8, q_istore_8, q_iinc_8, q_iload_9, q_aload_9, q_istore_9, q_iinc_9, q_iload_10, q_aload_10, q_istore_10, q_iinc_10, q_iload_11, q_aload_11, q_istore_11, q_iinc_11, q_iload_12, q_aload_12, q_istore_12, q_iinc_12, q_iload_13, q_aload_13, q_istore_13, q_iinc_13, q_iadd, q_isub, q_imul, q_idiv, q_irem, q_ior, q_ixor, q_ishr, q_iushr, q_ishl, q_iand_1, q_iand_0, q_ineg, q_dup_i, q_pop_i, q_dup_a, q_pop_a, q_dup2, q_getfield, q_putfield, q_getstatic, q_iaload, q_baload, q_laload, q_iastore, q_bastore, q_lastore, q_arraylength, q_i2l, q_lconst, q_lshl, q_lor, q_lcmp, q_calls, q_callv, q_goto, q_if_eq, q_if_ne, q_if_lt, q_if_ge, q_if_gt, q_if_le, q_ic_eq, q_ic_ne, q_ic_lt, q_ic_ge, q_ic_gt, q_ic_le, q_sw, q_ret1, q_ret0, q_vret, q_gtf, q_ptf, q_aln, q_ald, q_zld, q_lld, q_ast, q_zst, q_lst, q_gfmI, q_gfmR, q_pfmI, q_pfmZ, q_cls, q_clv, q_clsm, q_clvm, q_pop0, q_go, inS, q_runT, q_runT0, popn, lo, wt, ini, List.map_cons, List.map_nil, List.cons_append, List.nil_append, List.length_cons, List.length_nil, List.replicate_succ, List.replicate_zero, ↓reduceIte, Nat.reduceAdd, Nat.reduceSub, Nat.reduceEqDiff, Nat.reduceLT, Nat.reduceLeDiff, List.getElem?_cons_zero, List.getElem?_cons_succ, true_and, and_true, true_or, or_true, false_or, or_false, not_true_eq_false, not_false_eq_true, eq_self, Option.some.injEq, Sum.inl.injEq, Option.toList_some, Option.toList_none, List.cons_append, List.nil_append, if_true, if_false, Bool.false_eq_true, forall_const, ans, Int.toNat_natCast, Int.reduceToNat, stN_100, stN_101, stN_102, stN_103, stN_104, stN_105, sh_0, sh_1, sh_2, sh_3, sh_4, sh_5, sh_6, sh_7, sh_8, sh_9, sh_10, sh_11, sh_12, sh_13, sh_14, sh_15, sh_16, sh_17, sh_18, sh_19, sh_20, sh_21, sh_22, sh_23, sh_24, sh_25, sh_26, sh_27, sh_28, sh_29, sh_30, sh_31, sh_32, sh_33, sh_34, sh_35, sh_36, cst_0, cst_1, cst_2, cst_4, cst_16, cst_20, cst_81, cst_150, cst_151, cst_1359, cst_3113, Int.natCast_nonneg, Int.reducePow, Int.reduceSub, N_Board_empty, N_Board_setBoth, N_Board_findKings, N_Board_setBeginning, N_DP_setBeginning, N_DP_begin, N_DP_clear, N_DP_hand, N_DP_player, N_Board_isAttackedAlong, N_Board_isKnightAt, N_Board_isAttacked, N_DP_reaches, N_Board_isKingAttacked, N_DP_inCheck, N_Guard_noteAttack, N_Guard_lookAlong, N_Guard_lookForKnight, N_Guard_look, N_MoveRow_add, N_Rules_addKingMoves, N_Guard_allowsAlong, N_Guard_allowsTo, N_Rules_insertTarget, N_Rules_addTargets, N_Rules_addPieceMoves, N_Rules_addBoardMoves, N_Board_pawnColumns, N_Rules_pawnCheckSquare, N_Rules_addDropsOf, N_Rules_addDrops, N_Rules_list, N_MoveRow_holds, N_Board_copyFrom, N_Board_takeBack, N_Board_isSameAs, N_History_countSame, N_History_areAllChecks, N_History_repetition, N_DP_outcome, N_DP_made, N_Board_make, N_DP_isMatedBehind, N_DP_countReplies, N_Model_thrown, N_Model_isFree, N_Model_mayGo, N_Model_attacks, N_Model_isAttacked, N_Model_hasPawn, N_Model_isMove, N_Model_make, N_Model_unmake, N_Model_isSafe, N_Model_hasSafe, N_Model_isPawnMate, N_Model_isAllowed, N_Model_many, N_Model_moveAt, N_Model_isLegalNow, N_Model_emptyAll, N_Model_note, N_Model_begin, N_Model_clear, N_Model_refused, N_Model_put, N_Model_give, N_Model_isSound, N_Model_start, N_Model_at, N_Model_hand, N_Model_player, N_Model_reaches, N_Model_inCheck, N_Model_moves, N_Model_move, N_Model_isLegal, N_Model_isSame, N_Model_often, N_Model_before, N_Model_allChecks, N_Model_resultNow, N_Model_result, N_Model_times, N_Model_play, N_Model_back, N_Model_made, N_Model_twoDeep, N_Model_count, N_Model_mate, N_Board_countOf, N_Board_hasStuckPiece, N_Board_hasTwoPawnsInColumn, N_Board_mayStart, N_History_add, mem])
  rw [h55]
  refine ⟨fun _ => ?_, fun h => by omega⟩
  exact insertTarget_loop M T to hT hs hl hto hb hn T.length M (Nat.le_refl _) ⟨fun _ _ _ => rfl, fun _ _ => rfl⟩ h55 hT.2 (fun i h1 h2 => by omega) (fun i h1 h2 => by omega)
