/-! The tables of this claim, by program (wip/whole/gen/names.py) out of claim/Statement.lean: classes of the world and their fields, objects, static arrays, methods, links. -/
def T_Board : u_T := fun k => match k with
  | 0 => ("DroppedPieces$Board", "squares", "[I", true)
  | 1 => ("DroppedPieces$Board", "hands", "[I", true)
  | _ => ("DroppedPieces$Board", "kings", "[I", true)
def ty_Board : Nat → FieldType := fun k => match k with
  | 0 => .array .int
  | 1 => .array .int
  | _ => .array .int
def T_Guard : u_T := fun k => match k with
  | 0 => ("DroppedPieces$Guard", "board", "LDroppedPieces$Board;", true)
  | 1 => ("DroppedPieces$Guard", "pinLines", "[I", true)
  | 2 => ("DroppedPieces$Guard", "answered", "[I", true)
  | _ => ("DroppedPieces$Guard", "checks", "I", false)
def ty_Guard : Nat → FieldType := fun k => match k with
  | 0 => .object "DroppedPieces$Board"
  | 1 => .array .int
  | 2 => .array .int
  | _ => .int
def T_History : u_T := fun k => match k with
  | 0 => ("DroppedPieces$History", "moves", "[I", true)
  | 1 => ("DroppedPieces$History", "taken", "[I", true)
  | 2 => ("DroppedPieces$History", "checks", "[Z", true)
  | 3 => ("DroppedPieces$History", "past", "LDroppedPieces$Board;", true)
  | 4 => ("DroppedPieces$History", "thirdBefore", "I", false)
  | _ => ("DroppedPieces$History", "length", "I", false)
def ty_History : Nat → FieldType := fun k => match k with
  | 0 => .array .int
  | 1 => .array .int
  | 2 => .array .boolean
  | 3 => .object "DroppedPieces$Board"
  | 4 => .int
  | _ => .int
def T_MoveRow : u_T := fun k => match k with
  | 0 => ("DroppedPieces$MoveRow", "numbers", "[I", true)
  | _ => ("DroppedPieces$MoveRow", "size", "I", false)
def ty_MoveRow : Nat → FieldType := fun k => match k with
  | 0 => .array .int
  | _ => .int
def T_Rules : u_T := fun k => match k with
  | 0 => ("DroppedPieces$Rules", "board", "LDroppedPieces$Board;", true)
  | 1 => ("DroppedPieces$Rules", "guard", "LDroppedPieces$Guard;", true)
  | 2 => ("DroppedPieces$Rules", "replyGuard", "LDroppedPieces$Guard;", true)
  | 3 => ("DroppedPieces$Rules", "replies", "LDroppedPieces$MoveRow;", true)
  | 4 => ("DroppedPieces$Rules", "targets", "[I", true)
  | _ => ("DroppedPieces$Rules", "targetCount", "I", false)
def ty_Rules : Nat → FieldType := fun k => match k with
  | 0 => .object "DroppedPieces$Board"
  | 1 => .object "DroppedPieces$Guard"
  | 2 => .object "DroppedPieces$Guard"
  | 3 => .object "DroppedPieces$MoveRow"
  | 4 => .array .int
  | _ => .int
def T_DP : u_T := fun k => match k with
  | 0 => ("DroppedPieces", "board", "LDroppedPieces$Board;", true)
  | 1 => ("DroppedPieces", "rules", "LDroppedPieces$Rules;", true)
  | 2 => ("DroppedPieces", "history", "LDroppedPieces$History;", true)
  | 3 => ("DroppedPieces", "legal", "LDroppedPieces$MoveRow;", true)
  | 4 => ("DroppedPieces", "replies", "LDroppedPieces$MoveRow;", true)
  | _ => ("DroppedPieces", "toMove", "I", false)
def ty_DP : Nat → FieldType := fun k => match k with
  | 0 => .object "DroppedPieces$Board"
  | 1 => .object "DroppedPieces$Rules"
  | 2 => .object "DroppedPieces$History"
  | 3 => .object "DroppedPieces$MoveRow"
  | 4 => .object "DroppedPieces$MoveRow"
  | _ => .int
def T_Model : u_T := fun k => match k with
  | 0 => ("DroppedPiecesModel", "thrown", "I", false)
  | 1 => ("DroppedPiecesModel", "board", "[I", true)
  | 2 => ("DroppedPiecesModel", "hands", "[I", true)
  | 3 => ("DroppedPiecesModel", "kings", "[I", true)
  | 4 => ("DroppedPiecesModel", "setting", "Z", false)
  | 5 => ("DroppedPiecesModel", "mover", "I", false)
  | 6 => ("DroppedPiecesModel", "played", "I", false)
  | 7 => ("DroppedPiecesModel", "moves", "[I", true)
  | 8 => ("DroppedPiecesModel", "takens", "[I", true)
  | 9 => ("DroppedPiecesModel", "keys", "[J", true)
  | 10 => ("DroppedPiecesModel", "checks", "[Z", true)
  | _ => ("DroppedPiecesModel", "tried", "[I", true)
def ty_Model : Nat → FieldType := fun k => match k with
  | 0 => .int
  | 1 => .array .int
  | 2 => .array .int
  | 3 => .array .int
  | 4 => .boolean
  | 5 => .int
  | 6 => .int
  | 7 => .array .int
  | 8 => .array .int
  | 9 => .array .long
  | 10 => .array .boolean
  | _ => .array .int
def vcl : List vw_C := [("DroppedPieces$Board", T_Board, 3), ("DroppedPieces$Guard", T_Guard, 4), ("DroppedPieces$History", T_History, 6), ("DroppedPieces$MoveRow", T_MoveRow, 2), ("DroppedPieces$Rules", T_Rules, 6), ("DroppedPieces", T_DP, 6), ("DroppedPiecesModel", T_Model, 12)]
/-- the types of the fields of a class of the world -/
def vty : Nat → Nat → FieldType := fun c => match c with
  | 0 => ty_Board
  | 1 => ty_Guard
  | 2 => ty_History
  | 3 => ty_MoveRow
  | 4 => ty_Rules
  | 5 => ty_DP
  | _ => ty_Model
def cnm : Nat → String := fun c => match c with
  | 0 => "DroppedPieces$Board"
  | 1 => "DroppedPieces$Guard"
  | 2 => "DroppedPieces$History"
  | 3 => "DroppedPieces$MoveRow"
  | 4 => "DroppedPieces$Rules"
  | 5 => "DroppedPieces"
  | 6 => "DroppedPiecesModel"
  | 7 => "DroppedPieces$Pieces"
  | 8 => "java/util/Arrays"
  | 9 => "java/lang/Integer"
  | _ => "DroppedPiecesLaw"
/-- the objects: kind (0 ints, 1 booleans, 2 longs, 3 an object), length or class, fields (a reference to an object, an int (0) or a boolean (1)) -/
abbrev shp : Type := Nat × Nat × List (Nat ⊕ Nat)
def shs : List shp := [(3, 5, [.inl 1, .inl 5, .inl 15, .inl 23, .inl 25, .inr 0]), (3, 0, [.inl 2, .inl 3, .inl 4]), (0, 81, []), (0, 16, []), (0, 2, []), (3, 4, [.inl 1, .inl 7, .inl 10, .inl 13, .inl 6, .inr 0]), (0, 20, []), (3, 1, [.inl 1, .inl 8, .inl 9, .inr 0]), (0, 81, []), (0, 81, []), (3, 1, [.inl 1, .inl 11, .inl 12, .inr 0]), (0, 81, []), (0, 81, []), (3, 3, [.inl 14, .inr 0]), (0, 0, []), (3, 2, [.inl 16, .inl 17, .inl 18, .inl 19, .inr 0, .inr 0]), (0, 150, []), (0, 150, []), (1, 150, []), (3, 0, [.inl 20, .inl 21, .inl 22]), (0, 81, []), (0, 16, []), (0, 2, []), (3, 3, [.inl 24, .inr 0]), (0, 3113, []), (3, 3, [.inl 26, .inr 0]), (0, 0, []), (3, 6, [.inr 0, .inl 28, .inl 29, .inl 30, .inr 1, .inr 0, .inr 0, .inl 31, .inl 32, .inl 33, .inl 34, .inl 35]), (0, 81, []), (0, 16, []), (0, 2, []), (0, 150, []), (0, 150, []), (2, 1359, []), (1, 151, []), (0, 4, []), (2, 1, [])]
def sh (a : Nat) : shp := shs.getD a (4, 0, [])
theorem sh_0 : sh 0 = (3, 5, [.inl 1, .inl 5, .inl 15, .inl 23, .inl 25, .inr 0]) := rfl
theorem sh_1 : sh 1 = (3, 0, [.inl 2, .inl 3, .inl 4]) := rfl
theorem sh_2 : sh 2 = (0, 81, []) := rfl
theorem sh_3 : sh 3 = (0, 16, []) := rfl
theorem sh_4 : sh 4 = (0, 2, []) := rfl
theorem sh_5 : sh 5 = (3, 4, [.inl 1, .inl 7, .inl 10, .inl 13, .inl 6, .inr 0]) := rfl
theorem sh_6 : sh 6 = (0, 20, []) := rfl
theorem sh_7 : sh 7 = (3, 1, [.inl 1, .inl 8, .inl 9, .inr 0]) := rfl
theorem sh_8 : sh 8 = (0, 81, []) := rfl
theorem sh_9 : sh 9 = (0, 81, []) := rfl
theorem sh_10 : sh 10 = (3, 1, [.inl 1, .inl 11, .inl 12, .inr 0]) := rfl
theorem sh_11 : sh 11 = (0, 81, []) := rfl
theorem sh_12 : sh 12 = (0, 81, []) := rfl
theorem sh_13 : sh 13 = (3, 3, [.inl 14, .inr 0]) := rfl
theorem sh_14 : sh 14 = (0, 0, []) := rfl
theorem sh_15 : sh 15 = (3, 2, [.inl 16, .inl 17, .inl 18, .inl 19, .inr 0, .inr 0]) := rfl
theorem sh_16 : sh 16 = (0, 150, []) := rfl
theorem sh_17 : sh 17 = (0, 150, []) := rfl
theorem sh_18 : sh 18 = (1, 150, []) := rfl
theorem sh_19 : sh 19 = (3, 0, [.inl 20, .inl 21, .inl 22]) := rfl
theorem sh_20 : sh 20 = (0, 81, []) := rfl
theorem sh_21 : sh 21 = (0, 16, []) := rfl
theorem sh_22 : sh 22 = (0, 2, []) := rfl
theorem sh_23 : sh 23 = (3, 3, [.inl 24, .inr 0]) := rfl
theorem sh_24 : sh 24 = (0, 3113, []) := rfl
theorem sh_25 : sh 25 = (3, 3, [.inl 26, .inr 0]) := rfl
theorem sh_26 : sh 26 = (0, 0, []) := rfl
theorem sh_27 : sh 27 = (3, 6, [.inr 0, .inl 28, .inl 29, .inl 30, .inr 1, .inr 0, .inr 0, .inl 31, .inl 32, .inl 33, .inl 34, .inl 35]) := rfl
theorem sh_28 : sh 28 = (0, 81, []) := rfl
theorem sh_29 : sh 29 = (0, 16, []) := rfl
theorem sh_30 : sh 30 = (0, 2, []) := rfl
theorem sh_31 : sh 31 = (0, 150, []) := rfl
theorem sh_32 : sh 32 = (0, 150, []) := rfl
theorem sh_33 : sh 33 = (2, 1359, []) := rfl
theorem sh_34 : sh 34 = (1, 151, []) := rfl
theorem sh_35 : sh 35 = (0, 4, []) := rfl
theorem sh_36 : sh 36 = (2, 1, []) := rfl
/-- the static arrays, by number: 100 and on -/
def sts : List (String × String × List Int) := [("DroppedPieces$Pieces", "ROW_STEP", [-1, -1, 0, 1, 1, 1, 0, -1, -2, -2]), ("DroppedPieces$Pieces", "COLUMN_STEP", [0, 1, 1, 1, 0, -1, -1, -1, -1, 1]), ("DroppedPieces$Pieces", "NEAR", [0, 1, 1, 768, 171, 215, 170, 85, 255, 215, 215, 215, 215, 0, 255, 255]), ("DroppedPieces$Pieces", "FAR", [0, 0, 1, 0, 0, 0, 170, 85, 0, 0, 0, 0, 0, 0, 170, 85]), ("DroppedPieces$Board", "BACK_ROW", [2, 3, 4, 5, 8, 5, 4, 3, 2]), ("DroppedPieces$Rules", "KING_ORDER", [7, 0, 1, 6, 2, 5, 4, 3])]
def stL (a : Nat) : List Int := (sts.getD (a - 100) ("", "", [])).2.2
def stv (a : Nat) (i : Nat) : Int := (stL a).getD i 0
theorem stL_100 : stL 100 = [-1, -1, 0, 1, 1, 1, 0, -1, -2, -2] := rfl
theorem stL_101 : stL 101 = [0, 1, 1, 1, 0, -1, -1, -1, -1, 1] := rfl
theorem stL_102 : stL 102 = [0, 1, 1, 768, 171, 215, 170, 85, 255, 215, 215, 215, 215, 0, 255, 255] := rfl
theorem stL_103 : stL 103 = [0, 0, 1, 0, 0, 0, 170, 85, 0, 0, 0, 0, 0, 0, 170, 85] := rfl
theorem stL_104 : stL 104 = [2, 3, 4, 5, 8, 5, 4, 3, 2] := rfl
theorem stL_105 : stL 105 = [7, 0, 1, 6, 2, 5, 4, 3] := rfl
/-- a method: name, code, size of locals, return type, frames and words that it nests, its class -/
abbrev mD : Type := MethodName × ByteArray × Nat × Option FieldType × Nat × Nat × Nat
def mts_0 : List mD := [(⟨"java/util/Arrays", "fill", "([II)V"⟩, prog_19_method_103_code, 4, none, 0, 0, 8),
  (⟨"DroppedPieces$Board", "empty", "()V"⟩, prog_2_method_3_code, 1, none, 1, 23, 0),
  (⟨"DroppedPieces$Board", "setBoth", "(II)V"⟩, prog_2_method_5_code, 3, none, 0, 0, 0),
  (⟨"DroppedPieces$Pieces", "kindOf", "(I)I"⟩, prog_6_method_6_code, 1, (some FieldType.int), 0, 0, 7),
  (⟨"DroppedPieces$Board", "findKings", "()V"⟩, prog_2_method_13_code, 2, none, 1, 20, 0),
  (⟨"DroppedPieces$Board", "setBeginning", "()V"⟩, prog_2_method_4_code, 2, none, 2, 43, 0),
  (⟨"DroppedPieces", "setBeginning", "()V"⟩, prog_1_method_22_code, 1, none, 3, 64, 5),
  (⟨"DroppedPieces", "begin", "()V"⟩, prog_1_method_2_code, 1, none, 4, 84, 5),
  (⟨"DroppedPieces", "clear", "()V"⟩, prog_1_method_3_code, 1, none, 2, 43, 5),
  (⟨"DroppedPieces$Pieces", "isPlayer", "(I)Z"⟩, prog_6_method_2_code, 1, (some FieldType.boolean), 0, 0, 7),
  (⟨"DroppedPieces$Pieces", "isHandKind", "(I)Z"⟩, prog_6_method_4_code, 1, (some FieldType.boolean), 0, 0, 7),
  (⟨"DroppedPieces$Board", "handIndex", "(II)I"⟩, prog_2_method_2_code, 2, (some FieldType.int), 0, 0, 0),
  (⟨"DroppedPieces", "hand", "(II)I"⟩, prog_1_method_8_code, 3, (some FieldType.int), 1, 21, 5),
  (⟨"DroppedPieces", "player", "()I"⟩, prog_1_method_9_code, 1, (some FieldType.int), 0, 0, 5),
  (⟨"DroppedPieces$Pieces", "isSquare", "(I)Z"⟩, prog_6_method_3_code, 1, (some FieldType.boolean), 0, 0, 7),
  (⟨"DroppedPieces$Pieces", "isOnBoard", "(II)Z"⟩, prog_6_method_14_code, 2, (some FieldType.boolean), 0, 0, 7),
  (⟨"DroppedPieces$Pieces", "isOf", "(II)Z"⟩, prog_6_method_8_code, 2, (some FieldType.boolean), 0, 0, 7),
  (⟨"DroppedPieces$Pieces", "strikes", "(IIII)Z"⟩, prog_6_method_17_code, 6, (some FieldType.boolean), 0, 0, 7),
  (⟨"DroppedPieces$Board", "isAttackedAlong", "(III)Z"⟩, prog_2_method_16_code, 8, (some FieldType.boolean), 1, 25, 0),
  (⟨"DroppedPieces$Pieces", "knightSquare", "(III)I"⟩, prog_6_method_16_code, 5, (some FieldType.int), 1, 21, 7)]
def mts_1 : List mD := [(⟨"DroppedPieces$Board", "isKnightAt", "(II)Z"⟩, prog_2_method_17_code, 3, (some FieldType.boolean), 0, 0, 0),
  (⟨"DroppedPieces$Board", "isAttacked", "(II)Z"⟩, prog_2_method_15_code, 4, (some FieldType.boolean), 2, 52, 0),
  (⟨"DroppedPieces", "reaches", "(II)Z"⟩, prog_1_method_10_code, 3, (some FieldType.boolean), 3, 75, 5),
  (⟨"DroppedPieces$Board", "isKingAttacked", "(I)Z"⟩, prog_2_method_14_code, 2, (some FieldType.boolean), 3, 75, 0),
  (⟨"DroppedPieces", "inCheck", "(I)Z"⟩, prog_1_method_11_code, 2, (some FieldType.boolean), 4, 96, 5),
  (⟨"DroppedPieces$Guard", "noteAttack", "(IIII)V"⟩, prog_3_method_4_code, 7, none, 0, 0, 1),
  (⟨"DroppedPieces$Guard", "lookAlong", "(II)V"⟩, prog_3_method_3_code, 9, none, 1, 26, 1),
  (⟨"DroppedPieces$Guard", "lookForKnight", "(II)V"⟩, prog_3_method_5_code, 3, none, 1, 22, 1),
  (⟨"DroppedPieces$Guard", "look", "(I)V"⟩, prog_3_method_2_code, 3, none, 2, 54, 1),
  (⟨"DroppedPieces$Pieces", "neighbour", "(II)I"⟩, prog_6_method_15_code, 4, (some FieldType.int), 1, 21, 7),
  (⟨"DroppedPieces$MoveRow", "add", "(IIZ)V"⟩, prog_5_method_5_code, 4, none, 0, 0, 3),
  (⟨"DroppedPieces$Rules", "addKingMoves", "(IILDroppedPieces$MoveRow;)V"⟩, prog_7_method_4_code, 7, none, 3, 75, 4),
  (⟨"DroppedPieces$Pieces", "canPromote", "(I)Z"⟩, prog_6_method_10_code, 1, (some FieldType.boolean), 0, 0, 7),
  (⟨"DroppedPieces$Pieces", "rowsAhead", "(II)I"⟩, prog_6_method_11_code, 3, (some FieldType.int), 0, 0, 7),
  (⟨"DroppedPieces$Pieces", "isInZone", "(II)Z"⟩, prog_6_method_12_code, 2, (some FieldType.boolean), 1, 22, 7),
  (⟨"DroppedPieces$Guard", "allowsAlong", "(II)Z"⟩, prog_3_method_7_code, 4, (some FieldType.boolean), 0, 0, 1),
  (⟨"DroppedPieces$Guard", "allowsTo", "(I)Z"⟩, prog_3_method_6_code, 2, (some FieldType.boolean), 0, 0, 1),
  (⟨"DroppedPieces$Rules", "insertTarget", "(I)V"⟩, prog_7_method_7_code, 3, none, 0, 0, 4),
  (⟨"DroppedPieces$Rules", "addTargets", "(IIIZLDroppedPieces$Guard;)V"⟩, prog_7_method_6_code, 14, none, 1, 22, 4),
  (⟨"DroppedPieces$Pieces", "isStuck", "(III)Z"⟩, prog_6_method_13_code, 3, (some FieldType.boolean), 1, 22, 7)]
def mts_2 : List mD := [(⟨"DroppedPieces$Rules", "addPieceMoves", "(IILDroppedPieces$Guard;LDroppedPieces$MoveRow;)V"⟩, prog_7_method_5_code, 9, none, 2, 55, 4),
  (⟨"DroppedPieces$Rules", "addBoardMoves", "(ILDroppedPieces$Guard;LDroppedPieces$MoveRow;)V"⟩, prog_7_method_3_code, 6, none, 4, 101, 4),
  (⟨"DroppedPieces$Pieces", "valueOf", "(II)I"⟩, prog_6_method_7_code, 2, (some FieldType.int), 0, 0, 7),
  (⟨"DroppedPieces$Board", "pawnColumns", "(I)I"⟩, prog_2_method_12_code, 5, (some FieldType.int), 1, 21, 0),
  (⟨"DroppedPieces$Rules", "pawnCheckSquare", "(I)I"⟩, prog_7_method_8_code, 4, (some FieldType.int), 2, 45, 4),
  (⟨"DroppedPieces$Rules", "addDropsOf", "(IIIILDroppedPieces$MoveRow;)V"⟩, prog_7_method_10_code, 8, none, 2, 44, 4),
  (⟨"DroppedPieces$Rules", "addDrops", "(IILDroppedPieces$MoveRow;)V"⟩, prog_7_method_9_code, 6, none, 3, 71, 4),
  (⟨"DroppedPieces$Rules", "list", "(ILDroppedPieces$MoveRow;)V"⟩, prog_7_method_2_code, 4, none, 5, 126, 4),
  (⟨"DroppedPieces$MoveRow", "holds", "(I)Z"⟩, prog_5_method_6_code, 3, (some FieldType.boolean), 0, 0, 3),
  (⟨"DroppedPieces$Board", "copyFrom", "(LDroppedPieces$Board;)V"⟩, prog_2_method_6_code, 2, none, 1, 40, 0),
  (⟨"DroppedPieces$MoveRow", "fromOf", "(I)I"⟩, prog_5_method_2_code, 1, (some FieldType.int), 0, 0, 3),
  (⟨"DroppedPieces$MoveRow", "toOf", "(I)I"⟩, prog_5_method_3_code, 1, (some FieldType.int), 0, 0, 3),
  (⟨"DroppedPieces$Pieces", "unpromoted", "(I)I"⟩, prog_6_method_9_code, 1, (some FieldType.int), 0, 0, 7),
  (⟨"DroppedPieces$MoveRow", "isPromotion", "(I)Z"⟩, prog_5_method_4_code, 1, (some FieldType.boolean), 0, 0, 3),
  (⟨"DroppedPieces$Board", "takeBack", "(III)V"⟩, prog_2_method_19_code, 7, none, 1, 21, 0),
  (⟨"DroppedPieces$Board", "isSameAs", "(LDroppedPieces$Board;)Z"⟩, prog_2_method_7_code, 3, (some FieldType.boolean), 0, 0, 0),
  (⟨"DroppedPieces$History", "countSame", "(LDroppedPieces$Board;I)I"⟩, prog_4_method_3_code, 6, (some FieldType.int), 2, 61, 2),
  (⟨"DroppedPieces$History", "areAllChecks", "(I)Z"⟩, prog_4_method_5_code, 3, (some FieldType.boolean), 0, 0, 2),
  (⟨"DroppedPieces$History", "repetition", "(LDroppedPieces$Board;I)I"⟩, prog_4_method_4_code, 3, (some FieldType.int), 3, 86, 2),
  (⟨"DroppedPieces", "outcome", "()I"⟩, prog_1_method_26_code, 1, (some FieldType.int), 4, 108, 5)]
def mts_3 : List mD := [(⟨"DroppedPieces", "made", "()I"⟩, prog_1_method_19_code, 1, (some FieldType.int), 0, 0, 5),
  (⟨"DroppedPieces$Board", "make", "(II)I"⟩, prog_2_method_18_code, 7, (some FieldType.int), 1, 21, 0),
  (⟨"DroppedPieces", "isMatedBehind", "(I)Z"⟩, prog_1_method_28_code, 4, (some FieldType.boolean), 6, 149, 5),
  (⟨"DroppedPieces", "countReplies", "()I"⟩, prog_1_method_27_code, 5, (some FieldType.int), 6, 149, 5),
  (⟨"DroppedPiecesModel", "thrown", "()I"⟩, prog_9_method_2_code, 1, (some FieldType.int), 0, 0, 6),
  (⟨"DroppedPiecesModel", "sizeOf", "(I)I"⟩, prog_9_method_3_code, 1, (some FieldType.int), 0, 0, 6),
  (⟨"DroppedPiecesModel", "isOf", "(II)Z"⟩, prog_9_method_4_code, 2, (some FieldType.boolean), 0, 0, 6),
  (⟨"DroppedPiecesModel", "valueOf", "(II)I"⟩, prog_9_method_5_code, 2, (some FieldType.int), 0, 0, 6),
  (⟨"DroppedPiecesModel", "plain", "(I)I"⟩, prog_9_method_6_code, 1, (some FieldType.int), 0, 0, 6),
  (⟨"DroppedPiecesModel", "isFree", "(II)Z"⟩, prog_9_method_7_code, 8, (some FieldType.boolean), 0, 0, 6),
  (⟨"DroppedPiecesModel", "isGold", "(II)Z"⟩, prog_9_method_8_code, 2, (some FieldType.boolean), 0, 0, 6),
  (⟨"DroppedPiecesModel", "mayGo", "(IIII)Z"⟩, prog_9_method_9_code, 9, (some FieldType.boolean), 1, 27, 6),
  (⟨"DroppedPiecesModel", "attacks", "(II)Z"⟩, prog_9_method_10_code, 5, (some FieldType.boolean), 2, 55, 6),
  (⟨"DroppedPiecesModel", "isAttacked", "(I)Z"⟩, prog_9_method_11_code, 2, (some FieldType.boolean), 3, 79, 6),
  (⟨"DroppedPiecesModel", "rowsAhead", "(II)I"⟩, prog_9_method_12_code, 2, (some FieldType.int), 0, 0, 6),
  (⟨"DroppedPiecesModel", "isStuck", "(III)Z"⟩, prog_9_method_13_code, 4, (some FieldType.boolean), 1, 21, 6),
  (⟨"DroppedPiecesModel", "hasPawn", "(II)Z"⟩, prog_9_method_14_code, 5, (some FieldType.boolean), 1, 21, 6),
  (⟨"DroppedPiecesModel", "isMove", "(IIII)Z"⟩, prog_9_method_15_code, 8, (some FieldType.boolean), 2, 55, 6),
  (⟨"DroppedPiecesModel", "make", "(IIIII)V"⟩, prog_9_method_16_code, 7, none, 1, 21, 6),
  (⟨"DroppedPiecesModel", "unmake", "(IIIII)V"⟩, prog_9_method_17_code, 7, none, 1, 21, 6)]
def mts_4 : List mD := [(⟨"DroppedPiecesModel", "isSafe", "(IIIII)Z"⟩, prog_9_method_18_code, 7, (some FieldType.boolean), 4, 100, 6),
  (⟨"DroppedPiecesModel", "hasSafe", "(II)Z"⟩, prog_9_method_19_code, 6, (some FieldType.boolean), 5, 126, 6),
  (⟨"DroppedPiecesModel", "isPawnMate", "(IIII)Z"⟩, prog_9_method_20_code, 6, (some FieldType.boolean), 6, 151, 6),
  (⟨"DroppedPiecesModel", "isAllowed", "(IIIII)Z"⟩, prog_9_method_21_code, 6, (some FieldType.boolean), 7, 176, 6),
  (⟨"DroppedPiecesModel", "many", "(III)I"⟩, prog_9_method_22_code, 9, (some FieldType.int), 8, 201, 6),
  (⟨"DroppedPiecesModel", "moveAt", "(I)I"⟩, prog_9_method_23_code, 7, (some FieldType.int), 8, 201, 6),
  (⟨"DroppedPiecesModel", "isCode", "(I)Z"⟩, prog_9_method_24_code, 1, (some FieldType.boolean), 0, 0, 6),
  (⟨"DroppedPiecesModel", "isLegalNow", "(I)Z"⟩, prog_9_method_25_code, 2, (some FieldType.boolean), 8, 201, 6),
  (⟨"DroppedPiecesModel", "emptyAll", "()V"⟩, prog_9_method_26_code, 2, none, 0, 0, 6),
  (⟨"DroppedPiecesModel", "note", "()V"⟩, prog_9_method_27_code, 3, none, 4, 100, 6),
  (⟨"DroppedPiecesModel", "begin", "()V"⟩, prog_9_method_28_code, 3, none, 5, 122, 6),
  (⟨"DroppedPiecesModel", "clear", "()V"⟩, prog_9_method_29_code, 1, none, 1, 21, 6),
  (⟨"DroppedPiecesModel", "refused", "(ZZZ)Z"⟩, prog_9_method_30_code, 4, (some FieldType.boolean), 0, 0, 6),
  (⟨"DroppedPiecesModel", "isSquare", "(I)Z"⟩, prog_9_method_31_code, 1, (some FieldType.boolean), 0, 0, 6),
  (⟨"DroppedPiecesModel", "put", "(II)I"⟩, prog_9_method_32_code, 5, (some FieldType.int), 1, 23, 6),
  (⟨"DroppedPiecesModel", "isPlayer", "(I)Z"⟩, prog_9_method_33_code, 1, (some FieldType.boolean), 0, 0, 6),
  (⟨"DroppedPiecesModel", "give", "(III)V"⟩, prog_9_method_34_code, 4, none, 1, 23, 6),
  (⟨"DroppedPiecesModel", "isSound", "()Z"⟩, prog_9_method_35_code, 7, (some FieldType.boolean), 2, 44, 6),
  (⟨"DroppedPiecesModel", "start", "(I)V"⟩, prog_9_method_36_code, 3, none, 5, 122, 6),
  (⟨"DroppedPiecesModel", "at", "(I)I"⟩, prog_9_method_37_code, 2, (some FieldType.int), 1, 23, 6)]
def mts_5 : List mD := [(⟨"DroppedPiecesModel", "hand", "(II)I"⟩, prog_9_method_38_code, 3, (some FieldType.int), 1, 20, 6),
  (⟨"DroppedPiecesModel", "player", "()I"⟩, prog_9_method_39_code, 1, (some FieldType.int), 0, 0, 6),
  (⟨"DroppedPiecesModel", "reaches", "(II)Z"⟩, prog_9_method_40_code, 3, (some FieldType.boolean), 3, 79, 6),
  (⟨"DroppedPiecesModel", "inCheck", "(I)Z"⟩, prog_9_method_41_code, 2, (some FieldType.boolean), 4, 100, 6),
  (⟨"DroppedPiecesModel", "moves", "()I"⟩, prog_9_method_42_code, 1, (some FieldType.int), 9, 229, 6),
  (⟨"DroppedPiecesModel", "move", "(I)I"⟩, prog_9_method_43_code, 3, (some FieldType.int), 9, 227, 6),
  (⟨"DroppedPiecesModel", "isLegal", "(I)Z"⟩, prog_9_method_44_code, 2, (some FieldType.boolean), 9, 222, 6),
  (⟨"DroppedPiecesModel", "isSame", "(I)Z"⟩, prog_9_method_45_code, 4, (some FieldType.boolean), 0, 0, 6),
  (⟨"DroppedPiecesModel", "often", "()I"⟩, prog_9_method_46_code, 3, (some FieldType.int), 1, 23, 6),
  (⟨"DroppedPiecesModel", "before", "(I)I"⟩, prog_9_method_47_code, 4, (some FieldType.int), 1, 23, 6),
  (⟨"DroppedPiecesModel", "allChecks", "(IZ)Z"⟩, prog_9_method_48_code, 6, (some FieldType.boolean), 0, 0, 6),
  (⟨"DroppedPiecesModel", "resultNow", "()I"⟩, prog_9_method_49_code, 2, (some FieldType.int), 9, 229, 6),
  (⟨"DroppedPiecesModel", "result", "()I"⟩, prog_9_method_50_code, 1, (some FieldType.int), 10, 250, 6),
  (⟨"DroppedPiecesModel", "times", "()I"⟩, prog_9_method_51_code, 1, (some FieldType.int), 2, 45, 6),
  (⟨"DroppedPiecesModel", "play", "(I)I"⟩, prog_9_method_52_code, 3, (some FieldType.int), 10, 250, 6),
  (⟨"DroppedPiecesModel", "back", "()I"⟩, prog_9_method_53_code, 2, (some FieldType.int), 2, 47, 6),
  (⟨"DroppedPiecesModel", "made", "()I"⟩, prog_9_method_54_code, 1, (some FieldType.int), 0, 0, 6),
  (⟨"DroppedPiecesModel", "twoDeep", "()I"⟩, prog_9_method_55_code, 6, (some FieldType.int), 9, 229, 6),
  (⟨"DroppedPiecesModel", "count", "(I)I"⟩, prog_9_method_56_code, 2, (some FieldType.int), 10, 254, 6),
  (⟨"DroppedPiecesModel", "mate", "()I"⟩, prog_9_method_57_code, 6, (some FieldType.int), 9, 229, 6)]
def mts_6 : List mD := [(⟨"DroppedPieces$Board", "countOf", "(I)I"⟩, prog_2_method_9_code, 4, (some FieldType.int), 0, 0, 0),
  (⟨"DroppedPieces$Board", "hasStuckPiece", "()Z"⟩, prog_2_method_10_code, 3, (some FieldType.boolean), 2, 44, 0),
  (⟨"java/lang/Integer", "bitCount", "(I)I"⟩, prog_14_method_49_code, 1, (some FieldType.int), 0, 0, 9),
  (⟨"DroppedPieces$Board", "hasTwoPawnsInColumn", "(I)Z"⟩, prog_2_method_11_code, 2, (some FieldType.boolean), 2, 45, 0),
  (⟨"DroppedPieces$Board", "mayStart", "(I)Z"⟩, prog_2_method_8_code, 2, (some FieldType.boolean), 4, 96, 0),
  (⟨"DroppedPieces$History", "add", "(IIZ)V"⟩, prog_4_method_2_code, 4, none, 0, 0, 2),
  (⟨"DroppedPieces$Pieces", "isValue", "(I)Z"⟩, prog_6_method_5_code, 1, (some FieldType.boolean), 0, 0, 7),
  (⟨"DroppedPieces", "requireSettingUp", "()V"⟩, prog_1_method_23_code, 1, none, 6, 100, 5),
  (⟨"DroppedPieces", "requireGame", "()V"⟩, prog_1_method_24_code, 1, none, 6, 100, 5),
  (⟨"DroppedPieces", "requireSquare", "(I)V"⟩, prog_1_method_25_code, 1, none, 6, 100, 5),
  (⟨"DroppedPieces", "put", "(II)I"⟩, prog_1_method_4_code, 4, (some FieldType.int), 7, 120, 5),
  (⟨"DroppedPieces", "give", "(III)V"⟩, prog_1_method_5_code, 4, none, 7, 120, 5),
  (⟨"DroppedPieces", "start", "(I)V"⟩, prog_1_method_6_code, 2, none, 7, 120, 5),
  (⟨"DroppedPieces", "at", "(I)I"⟩, prog_1_method_7_code, 2, (some FieldType.int), 7, 120, 5),
  (⟨"DroppedPieces", "moves", "()I"⟩, prog_1_method_12_code, 1, (some FieldType.int), 7, 149, 5),
  (⟨"DroppedPieces", "move", "(I)I"⟩, prog_1_method_13_code, 2, (some FieldType.int), 7, 149, 5),
  (⟨"DroppedPieces", "isLegal", "(I)Z"⟩, prog_1_method_14_code, 2, (some FieldType.boolean), 7, 149, 5),
  (⟨"DroppedPieces", "result", "()I"⟩, prog_1_method_15_code, 1, (some FieldType.int), 7, 149, 5),
  (⟨"DroppedPieces", "times", "()I"⟩, prog_1_method_16_code, 1, (some FieldType.int), 7, 120, 5),
  (⟨"DroppedPieces", "play", "(I)I"⟩, prog_1_method_17_code, 3, (some FieldType.int), 7, 149, 5)]
def mts_7 : List mD := [(⟨"DroppedPieces", "back", "()I"⟩, prog_1_method_18_code, 2, (some FieldType.int), 7, 120, 5),
  (⟨"DroppedPieces", "count", "(I)I"⟩, prog_1_method_20_code, 2, (some FieldType.int), 7, 173, 5),
  (⟨"DroppedPieces", "mate", "()I"⟩, prog_1_method_21_code, 2, (some FieldType.int), 7, 172, 5),
  (⟨"DroppedPiecesLaw", "put", "(LDroppedPieces;II[J)I"⟩, method_3_code, 5, (some FieldType.int), 8, 143, 10),
  (⟨"DroppedPiecesLaw", "give", "(LDroppedPieces;III)I"⟩, method_4_code, 5, (some FieldType.int), 8, 143, 10),
  (⟨"DroppedPiecesLaw", "start", "(LDroppedPieces;I)I"⟩, method_5_code, 3, (some FieldType.int), 8, 141, 10),
  (⟨"DroppedPiecesLaw", "at", "(LDroppedPieces;I[J)I"⟩, method_6_code, 4, (some FieldType.int), 8, 141, 10),
  (⟨"DroppedPiecesLaw", "moves", "(LDroppedPieces;[J)I"⟩, method_7_code, 3, (some FieldType.int), 8, 169, 10),
  (⟨"DroppedPiecesLaw", "move", "(LDroppedPieces;I[J)I"⟩, method_8_code, 4, (some FieldType.int), 8, 170, 10),
  (⟨"DroppedPiecesLaw", "isLegal", "(LDroppedPieces;I[J)I"⟩, method_9_code, 4, (some FieldType.int), 8, 170, 10),
  (⟨"DroppedPiecesLaw", "result", "(LDroppedPieces;[J)I"⟩, method_10_code, 3, (some FieldType.int), 8, 169, 10),
  (⟨"DroppedPiecesLaw", "times", "(LDroppedPieces;[J)I"⟩, method_11_code, 3, (some FieldType.int), 8, 140, 10),
  (⟨"DroppedPiecesLaw", "play", "(LDroppedPieces;I[J)I"⟩, method_12_code, 4, (some FieldType.int), 8, 171, 10),
  (⟨"DroppedPiecesLaw", "back", "(LDroppedPieces;[J)I"⟩, method_13_code, 3, (some FieldType.int), 8, 141, 10),
  (⟨"DroppedPiecesLaw", "count", "(LDroppedPieces;I[J)I"⟩, method_14_code, 4, (some FieldType.int), 8, 194, 10),
  (⟨"DroppedPiecesLaw", "mate", "(LDroppedPieces;[J)I"⟩, method_15_code, 3, (some FieldType.int), 8, 193, 10),
  (⟨"DroppedPiecesLaw", "law", "([I)Z"⟩, code, 7, (some FieldType.boolean), 13, 550, 10)]
def mts : List mD := mts_0 ++ mts_1 ++ mts_2 ++ mts_3 ++ mts_4 ++ mts_5 ++ mts_6 ++ mts_7
def mt (k : Nat) : mD := mts.getD k (⟨"", "", ""⟩, ⟨#[]⟩, 0, none, 0, 0, 0)
def mY (k : Nat) : MethodName := (mt k).1
def mC (k : Nat) : ByteArray := (mt k).2.1
def mL (k : Nat) : Nat := (mt k).2.2.1
def mR (k : Nat) : Option FieldType := (mt k).2.2.2.1
def mF (k : Nat) : Nat := (mt k).2.2.2.2.1
def mO (k : Nat) : Nat := (mt k).2.2.2.2.2.1
def mN (k : Nat) : Nat := (mt k).2.2.2.2.2.2
abbrev k_Arrays_fill : Nat := 0
abbrev k_Board_empty : Nat := 1
abbrev k_Board_setBoth : Nat := 2
abbrev k_Pieces_kindOf : Nat := 3
abbrev k_Board_findKings : Nat := 4
abbrev k_Board_setBeginning : Nat := 5
abbrev k_DP_setBeginning : Nat := 6
abbrev k_DP_begin : Nat := 7
abbrev k_DP_clear : Nat := 8
abbrev k_Pieces_isPlayer : Nat := 9
abbrev k_Pieces_isHandKind : Nat := 10
abbrev k_Board_handIndex : Nat := 11
abbrev k_DP_hand : Nat := 12
abbrev k_DP_player : Nat := 13
abbrev k_Pieces_isSquare : Nat := 14
abbrev k_Pieces_isOnBoard : Nat := 15
abbrev k_Pieces_isOf : Nat := 16
abbrev k_Pieces_strikes : Nat := 17
abbrev k_Board_isAttackedAlong : Nat := 18
abbrev k_Pieces_knightSquare : Nat := 19
abbrev k_Board_isKnightAt : Nat := 20
abbrev k_Board_isAttacked : Nat := 21
abbrev k_DP_reaches : Nat := 22
abbrev k_Board_isKingAttacked : Nat := 23
abbrev k_DP_inCheck : Nat := 24
abbrev k_Guard_noteAttack : Nat := 25
abbrev k_Guard_lookAlong : Nat := 26
abbrev k_Guard_lookForKnight : Nat := 27
abbrev k_Guard_look : Nat := 28
abbrev k_Pieces_neighbour : Nat := 29
abbrev k_MoveRow_add : Nat := 30
abbrev k_Rules_addKingMoves : Nat := 31
abbrev k_Pieces_canPromote : Nat := 32
abbrev k_Pieces_rowsAhead : Nat := 33
abbrev k_Pieces_isInZone : Nat := 34
abbrev k_Guard_allowsAlong : Nat := 35
abbrev k_Guard_allowsTo : Nat := 36
abbrev k_Rules_insertTarget : Nat := 37
abbrev k_Rules_addTargets : Nat := 38
abbrev k_Pieces_isStuck : Nat := 39
abbrev k_Rules_addPieceMoves : Nat := 40
abbrev k_Rules_addBoardMoves : Nat := 41
abbrev k_Pieces_valueOf : Nat := 42
abbrev k_Board_pawnColumns : Nat := 43
abbrev k_Rules_pawnCheckSquare : Nat := 44
abbrev k_Rules_addDropsOf : Nat := 45
abbrev k_Rules_addDrops : Nat := 46
abbrev k_Rules_list : Nat := 47
abbrev k_MoveRow_holds : Nat := 48
abbrev k_Board_copyFrom : Nat := 49
abbrev k_MoveRow_fromOf : Nat := 50
abbrev k_MoveRow_toOf : Nat := 51
abbrev k_Pieces_unpromoted : Nat := 52
abbrev k_MoveRow_isPromotion : Nat := 53
abbrev k_Board_takeBack : Nat := 54
abbrev k_Board_isSameAs : Nat := 55
abbrev k_History_countSame : Nat := 56
abbrev k_History_areAllChecks : Nat := 57
abbrev k_History_repetition : Nat := 58
abbrev k_DP_outcome : Nat := 59
abbrev k_DP_made : Nat := 60
abbrev k_Board_make : Nat := 61
abbrev k_DP_isMatedBehind : Nat := 62
abbrev k_DP_countReplies : Nat := 63
abbrev k_Model_thrown : Nat := 64
abbrev k_Model_sizeOf : Nat := 65
abbrev k_Model_isOf : Nat := 66
abbrev k_Model_valueOf : Nat := 67
abbrev k_Model_plain : Nat := 68
abbrev k_Model_isFree : Nat := 69
abbrev k_Model_isGold : Nat := 70
abbrev k_Model_mayGo : Nat := 71
abbrev k_Model_attacks : Nat := 72
abbrev k_Model_isAttacked : Nat := 73
abbrev k_Model_rowsAhead : Nat := 74
abbrev k_Model_isStuck : Nat := 75
abbrev k_Model_hasPawn : Nat := 76
abbrev k_Model_isMove : Nat := 77
abbrev k_Model_make : Nat := 78
abbrev k_Model_unmake : Nat := 79
abbrev k_Model_isSafe : Nat := 80
abbrev k_Model_hasSafe : Nat := 81
abbrev k_Model_isPawnMate : Nat := 82
abbrev k_Model_isAllowed : Nat := 83
abbrev k_Model_many : Nat := 84
abbrev k_Model_moveAt : Nat := 85
abbrev k_Model_isCode : Nat := 86
abbrev k_Model_isLegalNow : Nat := 87
abbrev k_Model_emptyAll : Nat := 88
abbrev k_Model_note : Nat := 89
abbrev k_Model_begin : Nat := 90
abbrev k_Model_clear : Nat := 91
abbrev k_Model_refused : Nat := 92
abbrev k_Model_isSquare : Nat := 93
abbrev k_Model_put : Nat := 94
abbrev k_Model_isPlayer : Nat := 95
abbrev k_Model_give : Nat := 96
abbrev k_Model_isSound : Nat := 97
abbrev k_Model_start : Nat := 98
abbrev k_Model_at : Nat := 99
abbrev k_Model_hand : Nat := 100
abbrev k_Model_player : Nat := 101
abbrev k_Model_reaches : Nat := 102
abbrev k_Model_inCheck : Nat := 103
abbrev k_Model_moves : Nat := 104
abbrev k_Model_move : Nat := 105
abbrev k_Model_isLegal : Nat := 106
abbrev k_Model_isSame : Nat := 107
abbrev k_Model_often : Nat := 108
abbrev k_Model_before : Nat := 109
abbrev k_Model_allChecks : Nat := 110
abbrev k_Model_resultNow : Nat := 111
abbrev k_Model_result : Nat := 112
abbrev k_Model_times : Nat := 113
abbrev k_Model_play : Nat := 114
abbrev k_Model_back : Nat := 115
abbrev k_Model_made : Nat := 116
abbrev k_Model_twoDeep : Nat := 117
abbrev k_Model_count : Nat := 118
abbrev k_Model_mate : Nat := 119
abbrev k_Board_countOf : Nat := 120
abbrev k_Board_hasStuckPiece : Nat := 121
abbrev k_Integer_bitCount : Nat := 122
abbrev k_Board_hasTwoPawnsInColumn : Nat := 123
abbrev k_Board_mayStart : Nat := 124
abbrev k_History_add : Nat := 125
abbrev k_Pieces_isValue : Nat := 126
abbrev k_DP_requireSettingUp : Nat := 127
abbrev k_DP_requireGame : Nat := 128
abbrev k_DP_requireSquare : Nat := 129
abbrev k_DP_put : Nat := 130
abbrev k_DP_give : Nat := 131
abbrev k_DP_start : Nat := 132
abbrev k_DP_at : Nat := 133
abbrev k_DP_moves : Nat := 134
abbrev k_DP_move : Nat := 135
abbrev k_DP_isLegal : Nat := 136
abbrev k_DP_result : Nat := 137
abbrev k_DP_times : Nat := 138
abbrev k_DP_play : Nat := 139
abbrev k_DP_back : Nat := 140
abbrev k_DP_count : Nat := 141
abbrev k_DP_mate : Nat := 142
abbrev k_Law_put : Nat := 143
abbrev k_Law_give : Nat := 144
abbrev k_Law_start : Nat := 145
abbrev k_Law_at : Nat := 146
abbrev k_Law_moves : Nat := 147
abbrev k_Law_move : Nat := 148
abbrev k_Law_isLegal : Nat := 149
abbrev k_Law_result : Nat := 150
abbrev k_Law_times : Nat := 151
abbrev k_Law_play : Nat := 152
abbrev k_Law_back : Nat := 153
abbrev k_Law_count : Nat := 154
abbrev k_Law_mate : Nat := 155
abbrev k_Law_law : Nat := 156
/-- links: class, place in its pool, what stands there -/
def FLT : List (Nat × Nat × Nat × Nat) := [(0, 9, 0, 0), (0, 15, 0, 1), (0, 18, 0, 2), (1, 9, 1, 1), (1, 15, 1, 2), (1, 18, 1, 0), (1, 22, 1, 3), (1, 36, 0, 2), (1, 58, 0, 0), (2, 11, 2, 0), (2, 15, 2, 1), (2, 18, 2, 2), (2, 25, 2, 3), (2, 29, 2, 5), (2, 45, 2, 4), (3, 7, 3, 0), (3, 13, 3, 1), (4, 9, 4, 4), (4, 13, 4, 0), (4, 22, 4, 1), (4, 26, 4, 2), (4, 34, 4, 3), (4, 38, 3, 1), (4, 53, 0, 0), (4, 102, 4, 5), (4, 137, 0, 2), (4, 140, 0, 1), (5, 10, 5, 0), (5, 21, 5, 1), (5, 28, 5, 2), (5, 37, 5, 3), (5, 41, 5, 4), (5, 50, 2, 5), (5, 54, 5, 5), (5, 76, 0, 0), (5, 88, 0, 1), (5, 117, 3, 1), (5, 125, 3, 0), (5, 158, 2, 0), (5, 161, 2, 1), (6, 7, 6, 1), (6, 13, 6, 2), (6, 16, 6, 3), (6, 19, 6, 7), (6, 22, 6, 8), (6, 25, 6, 9), (6, 29, 6, 10), (6, 33, 6, 11), (6, 39, 6, 0), (6, 108, 6, 5), (6, 115, 6, 6), (6, 121, 6, 4)]
def SLT : List (Nat × Nat × Nat) := [(0, 30, 104), (0, 94, 100), (0, 97, 101), (1, 48, 100), (1, 51, 101), (4, 82, 105), (4, 105, 102), (4, 111, 103), (4, 122, 100), (4, 125, 101), (7, 13, 100), (7, 17, 101), (7, 24, 102), (7, 27, 103)]
def MLS : List (Nat × Nat × Nat × Nat) := [(0, 21, 0, 2), (0, 61, 3, 1), (0, 64, 39, 3), (0, 68, 42, 2), (0, 75, 122, 1), (0, 87, 19, 3), (0, 100, 15, 2), (0, 103, 16, 2), (0, 106, 17, 4), (0, 110, 50, 1), (0, 115, 51, 1), (0, 118, 11, 2), (0, 121, 52, 1), (0, 124, 53, 1), (1, 26, 0, 2), (1, 41, 19, 3), (1, 54, 15, 2), (1, 61, 16, 2), (1, 64, 3, 1), (1, 68, 17, 4), (4, 60, 42, 2), (4, 68, 16, 2), (4, 72, 3, 1), (4, 85, 29, 2), (4, 95, 32, 1), (4, 99, 34, 2), (4, 118, 39, 3), (4, 128, 15, 2), (4, 143, 11, 2), (4, 146, 14, 1), (5, 60, 129, 1), (5, 63, 126, 1), (5, 80, 9, 1), (5, 83, 10, 1), (5, 91, 11, 2), (5, 100, 14, 1), (6, 43, 65, 1), (6, 51, 70, 2), (6, 54, 66, 2), (6, 64, 74, 2), (6, 68, 67, 2), (6, 71, 75, 3), (6, 78, 68, 1), (6, 112, 86, 1), (6, 128, 93, 1), (6, 135, 95, 1), (7, 9, 33, 2), (7, 20, 15, 2)]
def MLV : List (Nat × Nat × Nat × Nat) := [(0, 27, 1, 0), (0, 33, 2, 2), (0, 37, 4, 0), (0, 46, 120, 1), (0, 50, 121, 0), (0, 54, 123, 1), (0, 58, 23, 1), (0, 72, 43, 1), (0, 80, 21, 2), (0, 84, 18, 3), (0, 91, 20, 2), (1, 32, 26, 2), (1, 45, 27, 2), (1, 72, 25, 4), (1, 76, 20, 2), (2, 33, 49, 1), (2, 37, 54, 3), (2, 41, 55, 1), (2, 48, 56, 2), (2, 52, 57, 1), (4, 42, 28, 1), (4, 45, 41, 3), (4, 49, 44, 1), (4, 64, 46, 3), (4, 75, 31, 3), (4, 78, 40, 4), (4, 88, 21, 2), (4, 91, 30, 3), (4, 108, 35, 2), (4, 114, 38, 5), (4, 131, 36, 1), (4, 134, 37, 1), (4, 149, 43, 1), (4, 152, 45, 5), (5, 44, 6, 0), (5, 47, 1, 0), (5, 57, 127, 0), (5, 95, 124, 1), (5, 103, 21, 2), (5, 107, 23, 1), (5, 110, 128, 0), (5, 113, 47, 2), (5, 128, 48, 1), (5, 131, 59, 0), (5, 135, 56, 2), (5, 146, 61, 2), (5, 149, 125, 3), (5, 164, 54, 3), (5, 170, 63, 0), (5, 173, 62, 1), (5, 176, 5, 0), (5, 183, 58, 2), (6, 47, 69, 2), (6, 57, 71, 4), (6, 61, 72, 2), (6, 75, 76, 2), (6, 81, 77, 4), (6, 84, 78, 5), (6, 88, 73, 1), (6, 92, 79, 5), (6, 95, 80, 5), (6, 99, 81, 2), (6, 102, 82, 4), (6, 105, 83, 5), (6, 118, 88, 0), (6, 125, 89, 0), (6, 131, 92, 3), (6, 138, 97, 0), (6, 143, 84, 3), (6, 147, 85, 1), (6, 150, 87, 1), (6, 153, 107, 1), (6, 156, 108, 0), (6, 160, 109, 1), (6, 163, 110, 2), (6, 167, 111, 0), (6, 170, 117, 0), (10, 7, 130, 2), (10, 19, 131, 3), (10, 23, 132, 1), (10, 27, 133, 1), (10, 31, 134, 0), (10, 35, 135, 1), (10, 38, 136, 1), (10, 42, 137, 0), (10, 45, 138, 0), (10, 48, 139, 1), (10, 51, 140, 0), (10, 56, 141, 1), (10, 59, 142, 0), (10, 66, 7, 0), (10, 69, 90, 0), (10, 70, 8, 0), (10, 73, 91, 0), (10, 79, 94, 2), (10, 80, 64, 0), (10, 86, 96, 3), (10, 90, 98, 1), (10, 94, 99, 1), (10, 95, 12, 2), (10, 98, 100, 2), (10, 99, 13, 0), (10, 102, 101, 0), (10, 103, 22, 2), (10, 107, 102, 2), (10, 108, 24, 1), (10, 111, 103, 1), (10, 115, 104, 0), (10, 118, 105, 1), (10, 121, 106, 1), (10, 124, 112, 0), (10, 127, 113, 0), (10, 130, 114, 1), (10, 133, 115, 0), (10, 134, 60, 0), (10, 137, 116, 0), (10, 140, 118, 1), (10, 143, 119, 0)]
def KLT : List (Nat × Nat × Nat) := [(6, 111, 32768), (6, 142, 100000), (9, 265, 1431655765), (9, 266, 858993459), (9, 267, 252645135)]
