def RX0 : String := "PawnRace$Ban"
def TX0 : u_T := fun k => match k with
  | 0 => ("PawnRace$Ban", "pawn", "I", false)
  | 1 => ("PawnRace$Ban", "kind", "I", false)
  | 2 => ("PawnRace$Ban", "side", "I", false)
  | 3 => ("PawnRace$Ban", "every", "I", false)
  | 4 => ("PawnRace$Ban", "remainder", "I", false)
  | 5 => ("PawnRace$Ban", "west", "I", false)
  | 6 => ("PawnRace$Ban", "east", "I", false)
  | 7 => ("PawnRace$Ban", "south", "I", false)
  | _ => ("PawnRace$Ban", "north", "I", false)
def tyX0 : Nat → FieldType := fun k => match k with
  | 0 => .int
  | 1 => .int
  | 2 => .int
  | 3 => .int
  | 4 => .int
  | 5 => .int
  | 6 => .int
  | 7 => .int
  | _ => .int
abbrev wsX00 : List Cond := u_ws RX0 TX0 9
theorem nmX0 : ∀ a, a < 9 → ∀ b, b < 9 → a ≠ b → (TX0 a).2.1 ≠ (TX0 b).2.1 := by decide +kernel
theorem tyX0_ok : ∀ k, k < 9 → parseFieldDescriptor (TX0 k).2.2.1 = some (tyX0 k) := by decide +kernel
abbrev cX0_init : ByteArray := prog_2_method_1_code
def yX0_init : MethodName := ⟨RX0, "<init>", "()V"⟩
abbrev cX0_copyFrom : ByteArray := prog_2_method_2_code
def yX0_copyFrom : MethodName := ⟨RX0, "copyFrom", "(LPawnRace$Ban;)V"⟩
abbrev cX0_setEvery : ByteArray := prog_2_method_3_code
def yX0_setEvery : MethodName := ⟨RX0, "setEvery", "(III)V"⟩
abbrev cX0_setWithin : ByteArray := prog_2_method_4_code
def yX0_setWithin : MethodName := ⟨RX0, "setWithin", "(III)V"⟩
abbrev cX0_byLatest : ByteArray := prog_2_method_5_code
def yX0_byLatest : MethodName := ⟨RX0, "byLatest", "(I)I"⟩
abbrev cX0_byNumber : ByteArray := prog_2_method_6_code
def yX0_byNumber : MethodName := ⟨RX0, "byNumber", "(I)I"⟩
abbrev cX0_byCell : ByteArray := prog_2_method_7_code
def yX0_byCell : MethodName := ⟨RX0, "byCell", "(I)I"⟩
def RX1 : String := "PawnRace$BanWays"
def TX1 : u_T := fun k => match k with
  | 0 => ("PawnRace$BanWays", "now", "[I", false)
  | 1 => ("PawnRace$BanWays", "then", "[I", false)
  | 2 => ("PawnRace$BanWays", "bannedByCell", "[I", true)
  | _ => ("PawnRace$BanWays", "bannedByLatest", "[I", true)
def tyX1 : Nat → FieldType := fun k => match k with
  | 0 => .array .int
  | 1 => .array .int
  | 2 => .array .int
  | _ => .array .int
abbrev wsX10 : List Cond := u_ws RX1 TX1 4
theorem nmX1 : ∀ a, a < 4 → ∀ b, b < 4 → a ≠ b → (TX1 a).2.1 ≠ (TX1 b).2.1 := by decide +kernel
theorem tyX1_ok : ∀ k, k < 4 → parseFieldDescriptor (TX1 k).2.2.1 = some (tyX1 k) := by decide +kernel
abbrev cX1_init : ByteArray := prog_3_method_1_code
def yX1_init : MethodName := ⟨RX1, "<init>", "()V"⟩
abbrev cX1_leastSteps : ByteArray := prog_3_method_2_code
def yX1_leastSteps : MethodName := ⟨RX1, "leastSteps", "(LPawnRace$Race;I)I"⟩
abbrev cX1_begin : ByteArray := prog_3_method_4_code
def yX1_begin : MethodName := ⟨RX1, "begin", "(LPawnRace$Race;I)V"⟩
abbrev cX1_addBan : ByteArray := prog_3_method_5_code
def yX1_addBan : MethodName := ⟨RX1, "addBan", "(LPawnRace$Ban;)V"⟩
abbrev cX1_goOn : ByteArray := prog_3_method_6_code
def yX1_goOn : MethodName := ⟨RX1, "goOn", "(LPawnRace$Race;II)I"⟩
abbrev cX1_waysThat : ByteArray := prog_3_method_7_code
def yX1_waysThat : MethodName := ⟨RX1, "waysThat", "(II)I"⟩
abbrev cX1_sum : ByteArray := prog_3_method_8_code
def yX1_sum : MethodName := ⟨RX1, "sum", "(II)I"⟩
def RX2 : String := "PawnRace$Board"
def TX2 : u_T := fun k => match k with
  | 0 => ("PawnRace$Board", "width", "I", false)
  | 1 => ("PawnRace$Board", "height", "I", false)
  | 2 => ("PawnRace$Board", "walls", "I", false)
  | 3 => ("PawnRace$Board", "built", "[I", true)
  | _ => ("PawnRace$Board", "open", "[I", true)
def tyX2 : Nat → FieldType := fun k => match k with
  | 0 => .int
  | 1 => .int
  | 2 => .int
  | 3 => .array .int
  | _ => .array .int
abbrev wsX20 : List Cond := u_ws RX2 TX2 5
theorem nmX2 : ∀ a, a < 5 → ∀ b, b < 5 → a ≠ b → (TX2 a).2.1 ≠ (TX2 b).2.1 := by decide +kernel
theorem tyX2_ok : ∀ k, k < 5 → parseFieldDescriptor (TX2 k).2.2.1 = some (tyX2 k) := by decide +kernel
abbrev cX2_init : ByteArray := prog_4_method_1_code
def yX2_init : MethodName := ⟨RX2, "<init>", "()V"⟩
abbrev cX2_clear : ByteArray := prog_4_method_2_code
def yX2_clear : MethodName := ⟨RX2, "clear", "(II)V"⟩
abbrev cX2_openWithoutWalls : ByteArray := prog_4_method_3_code
def yX2_openWithoutWalls : MethodName := ⟨RX2, "openWithoutWalls", "(II)I"⟩
abbrev cX2_copyFrom : ByteArray := prog_4_method_4_code
def yX2_copyFrom : MethodName := ⟨RX2, "copyFrom", "(LPawnRace$Board;)V"⟩
abbrev cX2_hasCell : ByteArray := prog_4_method_5_code
def yX2_hasCell : MethodName := ⟨RX2, "hasCell", "(II)Z"⟩
abbrev cX2_hasPlace : ByteArray := prog_4_method_6_code
def yX2_hasPlace : MethodName := ⟨RX2, "hasPlace", "(II)Z"⟩
abbrev cX2_behind : ByteArray := prog_4_method_7_code
def yX2_behind : MethodName := ⟨RX2, "behind", "(II)I"⟩
abbrev cX2_liesAt : ByteArray := prog_4_method_8_code
def yX2_liesAt : MethodName := ⟨RX2, "liesAt", "(II)Z"⟩
abbrev cX2_sideLength : ByteArray := prog_4_method_9_code
def yX2_sideLength : MethodName := ⟨RX2, "sideLength", "(I)I"⟩
abbrev cX2_sideCell : ByteArray := prog_4_method_10_code
def yX2_sideCell : MethodName := ⟨RX2, "sideCell", "(II)I"⟩
abbrev cX2_wallOn : ByteArray := prog_4_method_11_code
def yX2_wallOn : MethodName := ⟨RX2, "wallOn", "(II)I"⟩
abbrev cX2_hasRoom : ByteArray := prog_4_method_12_code
def yX2_hasRoom : MethodName := ⟨RX2, "hasRoom", "(III)Z"⟩
abbrev cX2_raise : ByteArray := prog_4_method_13_code
def yX2_raise : MethodName := ⟨RX2, "raise", "(III)V"⟩
abbrev cX2_raze : ByteArray := prog_4_method_14_code
def yX2_raze : MethodName := ⟨RX2, "raze", "(II)V"⟩
abbrev cX2_toggleSteps : ByteArray := prog_4_method_15_code
def yX2_toggleSteps : MethodName := ⟨RX2, "toggleSteps", "(II)V"⟩
def RX3 : String := "PawnRace$History"
def TX3 : u_T := fun k => match k with
  | 0 => ("PawnRace$History", "kept", "[LPawnRace$Race;", true)
  | 1 => ("PawnRace$History", "next", "I", false)
  | _ => ("PawnRace$History", "count", "I", false)
def tyX3 : Nat → FieldType := fun k => match k with
  | 0 => .array (.object "PawnRace$Race")
  | 1 => .int
  | _ => .int
abbrev wsX30 : List Cond := u_ws RX3 TX3 3
theorem nmX3 : ∀ a, a < 3 → ∀ b, b < 3 → a ≠ b → (TX3 a).2.1 ≠ (TX3 b).2.1 := by decide +kernel
theorem tyX3_ok : ∀ k, k < 3 → parseFieldDescriptor (TX3 k).2.2.1 = some (tyX3 k) := by decide +kernel
abbrev cX3_init : ByteArray := prog_5_method_1_code
def yX3_init : MethodName := ⟨RX3, "<init>", "()V"⟩
abbrev cX3_keep : ByteArray := prog_5_method_2_code
def yX3_keep : MethodName := ⟨RX3, "keep", "(LPawnRace$Race;)V"⟩
abbrev cX3_takeBack : ByteArray := prog_5_method_3_code
def yX3_takeBack : MethodName := ⟨RX3, "takeBack", "(LPawnRace$Race;)Z"⟩
abbrev cX3_forget : ByteArray := prog_5_method_4_code
def yX3_forget : MethodName := ⟨RX3, "forget", "()V"⟩
def RX4 : String := "PawnRace$Pawn"
def TX4 : u_T := fun k => match k with
  | 0 => ("PawnRace$Pawn", "cell", "I", false)
  | 1 => ("PawnRace$Pawn", "side", "I", false)
  | 2 => ("PawnRace$Pawn", "walls", "I", false)
  | 3 => ("PawnRace$Pawn", "made", "I", false)
  | 4 => ("PawnRace$Pawn", "latest", "I", false)
  | _ => ("PawnRace$Pawn", "rank", "I", false)
def tyX4 : Nat → FieldType := fun k => match k with
  | 0 => .int
  | 1 => .int
  | 2 => .int
  | 3 => .int
  | 4 => .int
  | _ => .int
abbrev wsX40 : List Cond := u_ws RX4 TX4 6
theorem nmX4 : ∀ a, a < 6 → ∀ b, b < 6 → a ≠ b → (TX4 a).2.1 ≠ (TX4 b).2.1 := by decide +kernel
theorem tyX4_ok : ∀ k, k < 6 → parseFieldDescriptor (TX4 k).2.2.1 = some (tyX4 k) := by decide +kernel
abbrev cX4_init : ByteArray := prog_6_method_1_code
def yX4_init : MethodName := ⟨RX4, "<init>", "()V"⟩
abbrev cX4_copyFrom : ByteArray := prog_6_method_2_code
def yX4_copyFrom : MethodName := ⟨RX4, "copyFrom", "(LPawnRace$Pawn;)V"⟩
def RX5 : String := "PawnRace$Planner"
def TX5 : u_T := fun k => match k with
  | 0 => ("PawnRace$Planner", "ways", "LPawnRace$Ways;", true)
  | 1 => ("PawnRace$Planner", "trails", "[I", true)
  | 2 => ("PawnRace$Planner", "distances", "[I", true)
  | 3 => ("PawnRace$Planner", "bestX", "I", false)
  | 4 => ("PawnRace$Planner", "bestY", "I", false)
  | 5 => ("PawnRace$Planner", "bestWay", "I", false)
  | _ => ("PawnRace$Planner", "bestGain", "I", false)
def tyX5 : Nat → FieldType := fun k => match k with
  | 0 => .object "PawnRace$Ways"
  | 1 => .array .int
  | 2 => .array .int
  | 3 => .int
  | 4 => .int
  | 5 => .int
  | _ => .int
abbrev wsX50 : List Cond := u_ws RX5 TX5 7
theorem nmX5 : ∀ a, a < 7 → ∀ b, b < 7 → a ≠ b → (TX5 a).2.1 ≠ (TX5 b).2.1 := by decide +kernel
theorem tyX5_ok : ∀ k, k < 7 → parseFieldDescriptor (TX5 k).2.2.1 = some (tyX5 k) := by decide +kernel
abbrev cX5_init : ByteArray := prog_7_method_1_code
def yX5_init : MethodName := ⟨RX5, "<init>", "()V"⟩
abbrev cX5_hasWay : ByteArray := prog_7_method_2_code
def yX5_hasWay : MethodName := ⟨RX5, "hasWay", "(LPawnRace$Race;I)Z"⟩
abbrev cX5_admitsNow : ByteArray := prog_7_method_3_code
def yX5_admitsNow : MethodName := ⟨RX5, "admitsNow", "(LPawnRace$Race;III)Z"⟩
abbrev cX5_mayBuild : ByteArray := prog_7_method_4_code
def yX5_mayBuild : MethodName := ⟨RX5, "mayBuild", "(LPawnRace$Race;III)Z"⟩
abbrev cX5_markTrails : ByteArray := prog_7_method_6_code
def yX5_markTrails : MethodName := ⟨RX5, "markTrails", "(LPawnRace$Race;)V"⟩
abbrev cX5_markTrail : ByteArray := prog_7_method_7_code
def yX5_markTrail : MethodName := ⟨RX5, "markTrail", "(LPawnRace$Race;I)V"⟩
abbrev cX5_cutsTrail : ByteArray := prog_7_method_8_code
def yX5_cutsTrail : MethodName := ⟨RX5, "cutsTrail", "(IIII)Z"⟩
abbrev cX5_admits : ByteArray := prog_7_method_9_code
def yX5_admits : MethodName := ⟨RX5, "admits", "(LPawnRace$Race;III)Z"⟩
abbrev cX5_loss : ByteArray := prog_7_method_10_code
def yX5_loss : MethodName := ⟨RX5, "loss", "(LPawnRace$Race;IIII)I"⟩
abbrev cX5_findBest : ByteArray := prog_7_method_11_code
def yX5_findBest : MethodName := ⟨RX5, "findBest", "(LPawnRace$Race;I)Z"⟩
abbrev cX5_keepBetter : ByteArray := prog_7_method_12_code
def yX5_keepBetter : MethodName := ⟨RX5, "keepBetter", "(IIII)V"⟩
abbrev cX5_nearest : ByteArray := prog_7_method_13_code
def yX5_nearest : MethodName := ⟨RX5, "nearest", "(LPawnRace$Race;I)I"⟩
abbrev cX5_advise : ByteArray := prog_7_method_14_code
def yX5_advise : MethodName := ⟨RX5, "advise", "(LPawnRace$Race;I)I"⟩
abbrev cX5_playTurns : ByteArray := prog_7_method_15_code
def yX5_playTurns : MethodName := ⟨RX5, "playTurns", "(LPawnRace$Race;II)I"⟩
abbrev cX5_rivalAhead : ByteArray := prog_7_method_16_code
def yX5_rivalAhead : MethodName := ⟨RX5, "rivalAhead", "(LPawnRace$Race;)I"⟩
def RX6 : String := "PawnRace$Race"
def TX6 : u_T := fun k => match k with
  | 0 => ("PawnRace$Race", "board", "LPawnRace$Board;", true)
  | 1 => ("PawnRace$Race", "pawns", "[LPawnRace$Pawn;", true)
  | 2 => ("PawnRace$Race", "count", "I", false)
  | 3 => ("PawnRace$Race", "bans", "[LPawnRace$Ban;", true)
  | 4 => ("PawnRace$Race", "banCount", "I", false)
  | 5 => ("PawnRace$Race", "turns", "I", false)
  | 6 => ("PawnRace$Race", "turn", "I", false)
  | _ => ("PawnRace$Race", "finished", "I", false)
def tyX6 : Nat → FieldType := fun k => match k with
  | 0 => .object "PawnRace$Board"
  | 1 => .array (.object "PawnRace$Pawn")
  | 2 => .int
  | 3 => .array (.object "PawnRace$Ban")
  | 4 => .int
  | 5 => .int
  | 6 => .int
  | _ => .int
abbrev wsX60 : List Cond := u_ws RX6 TX6 8
theorem nmX6 : ∀ a, a < 8 → ∀ b, b < 8 → a ≠ b → (TX6 a).2.1 ≠ (TX6 b).2.1 := by decide +kernel
theorem tyX6_ok : ∀ k, k < 8 → parseFieldDescriptor (TX6 k).2.2.1 = some (tyX6 k) := by decide +kernel
abbrev cX6_init : ByteArray := prog_8_method_1_code
def yX6_init : MethodName := ⟨RX6, "<init>", "()V"⟩
abbrev cX6_clear : ByteArray := prog_8_method_2_code
def yX6_clear : MethodName := ⟨RX6, "clear", "()V"⟩
abbrev cX6_copyFrom : ByteArray := prog_8_method_3_code
def yX6_copyFrom : MethodName := ⟨RX6, "copyFrom", "(LPawnRace$Race;)V"⟩
abbrev cX6_addPawn : ByteArray := prog_8_method_4_code
def yX6_addPawn : MethodName := ⟨RX6, "addPawn", "(III)V"⟩
abbrev cX6_hasEnded : ByteArray := prog_8_method_5_code
def yX6_hasEnded : MethodName := ⟨RX6, "hasEnded", "()Z"⟩
abbrev cX6_mover : ByteArray := prog_8_method_6_code
def yX6_mover : MethodName := ⟨RX6, "mover", "()I"⟩
abbrev cX6_pawnOn : ByteArray := prog_8_method_7_code
def yX6_pawnOn : MethodName := ⟨RX6, "pawnOn", "(I)I"⟩
abbrev cX6_pawnOfRank : ByteArray := prog_8_method_8_code
def yX6_pawnOfRank : MethodName := ⟨RX6, "pawnOfRank", "(I)I"⟩
abbrev cX6_bansOf : ByteArray := prog_8_method_9_code
def yX6_bansOf : MethodName := ⟨RX6, "bansOf", "(I)I"⟩
abbrev cX6_bannedByNumber : ByteArray := prog_8_method_10_code
def yX6_bannedByNumber : MethodName := ⟨RX6, "bannedByNumber", "(II)I"⟩
abbrev cX6_bannedNow : ByteArray := prog_8_method_11_code
def yX6_bannedNow : MethodName := ⟨RX6, "bannedNow", "(I)I"⟩
abbrev cX6_landing : ByteArray := prog_8_method_12_code
def yX6_landing : MethodName := ⟨RX6, "landing", "(II)I"⟩
abbrev cX6_stepMask : ByteArray := prog_8_method_13_code
def yX6_stepMask : MethodName := ⟨RX6, "stepMask", "(I)I"⟩
abbrev cX6_mayMove : ByteArray := prog_8_method_14_code
def yX6_mayMove : MethodName := ⟨RX6, "mayMove", "(I)Z"⟩
abbrev cX6_mayPass : ByteArray := prog_8_method_15_code
def yX6_mayPass : MethodName := ⟨RX6, "mayPass", "()Z"⟩
abbrev cX6_move : ByteArray := prog_8_method_16_code
def yX6_move : MethodName := ⟨RX6, "move", "(I)V"⟩
abbrev cX6_buildWall : ByteArray := prog_8_method_17_code
def yX6_buildWall : MethodName := ⟨RX6, "buildWall", "(III)V"⟩
abbrev cX6_endTurn : ByteArray := prog_8_method_18_code
def yX6_endTurn : MethodName := ⟨RX6, "endTurn", "()V"⟩
def RX7 : String := "PawnRace$RaceReader"
def TX7 : u_T := fun k => match k with
  | 0 => ("PawnRace$RaceReader", "tokens", "LPawnRace$Tokens;", true)
  | 1 => ("PawnRace$RaceReader", "race", "LPawnRace$Race;", true)
  | 2 => ("PawnRace$RaceReader", "planner", "LPawnRace$Planner;", true)
  | 3 => ("PawnRace$RaceReader", "nameStarts", "[I", true)
  | 4 => ("PawnRace$RaceReader", "nameSizes", "[I", true)
  | 5 => ("PawnRace$RaceReader", "hasBoard", "Z", false)
  | 6 => ("PawnRace$RaceReader", "hasWalls", "Z", false)
  | 7 => ("PawnRace$RaceReader", "usualWalls", "I", false)
  | _ => ("PawnRace$RaceReader", "cell", "I", false)
def tyX7 : Nat → FieldType := fun k => match k with
  | 0 => .object "PawnRace$Tokens"
  | 1 => .object "PawnRace$Race"
  | 2 => .object "PawnRace$Planner"
  | 3 => .array .int
  | 4 => .array .int
  | 5 => .boolean
  | 6 => .boolean
  | 7 => .int
  | _ => .int
abbrev wsX70 : List Cond := u_ws RX7 TX7 9
theorem nmX7 : ∀ a, a < 9 → ∀ b, b < 9 → a ≠ b → (TX7 a).2.1 ≠ (TX7 b).2.1 := by decide +kernel
theorem tyX7_ok : ∀ k, k < 9 → parseFieldDescriptor (TX7 k).2.2.1 = some (tyX7 k) := by decide +kernel
abbrev cX7_init : ByteArray := prog_9_method_1_code
def yX7_init : MethodName := ⟨RX7, "<init>", "(LPawnRace$Tokens;LPawnRace$Race;LPawnRace$Planner;)V"⟩
abbrev cX7_readRace : ByteArray := prog_9_method_2_code
def yX7_readRace : MethodName := ⟨RX7, "readRace", "()Z"⟩
abbrev cX7_readStatement : ByteArray := prog_9_method_3_code
def yX7_readStatement : MethodName := ⟨RX7, "readStatement", "()Z"⟩
abbrev cX7_readBoard : ByteArray := prog_9_method_4_code
def yX7_readBoard : MethodName := ⟨RX7, "readBoard", "()Z"⟩
abbrev cX7_readWalls : ByteArray := prog_9_method_5_code
def yX7_readWalls : MethodName := ⟨RX7, "readWalls", "()Z"⟩
abbrev cX7_readPawn : ByteArray := prog_9_method_6_code
def yX7_readPawn : MethodName := ⟨RX7, "readPawn", "()Z"⟩
abbrev cX7_readWallsOfPawn : ByteArray := prog_9_method_7_code
def yX7_readWallsOfPawn : MethodName := ⟨RX7, "readWallsOfPawn", "(I)Z"⟩
abbrev cX7_readName : ByteArray := prog_9_method_8_code
def yX7_readName : MethodName := ⟨RX7, "readName", "(Z)Z"⟩
abbrev cX7_pawnNamed : ByteArray := prog_9_method_9_code
def yX7_pawnNamed : MethodName := ⟨RX7, "pawnNamed", "()I"⟩
abbrev cX7_readCell : ByteArray := prog_9_method_10_code
def yX7_readCell : MethodName := ⟨RX7, "readCell", "()Z"⟩
abbrev cX7_readBan : ByteArray := prog_9_method_11_code
def yX7_readBan : MethodName := ⟨RX7, "readBan", "()Z"⟩
abbrev cX7_readEvery : ByteArray := prog_9_method_12_code
def yX7_readEvery : MethodName := ⟨RX7, "readEvery", "(LPawnRace$Ban;I)Z"⟩
abbrev cX7_readWithin : ByteArray := prog_9_method_13_code
def yX7_readWithin : MethodName := ⟨RX7, "readWithin", "(LPawnRace$Ban;I)Z"⟩
abbrev cX7_readBlock : ByteArray := prog_9_method_14_code
def yX7_readBlock : MethodName := ⟨RX7, "readBlock", "()Z"⟩
def RX8 : String := "PawnRace$Script"
def TX8 : u_T := fun k => match k with
  | 0 => ("PawnRace$Script", "tokens", "LPawnRace$Tokens;", true)
  | 1 => ("PawnRace$Script", "kinds", "[I", true)
  | 2 => ("PawnRace$Script", "firsts", "[I", true)
  | 3 => ("PawnRace$Script", "seconds", "[I", true)
  | 4 => ("PawnRace$Script", "thirds", "[I", true)
  | 5 => ("PawnRace$Script", "roundsLeft", "[I", true)
  | 6 => ("PawnRace$Script", "rows", "I", false)
  | 7 => ("PawnRace$Script", "commands", "I", false)
  | 8 => ("PawnRace$Script", "opened", "[I", true)
  | _ => ("PawnRace$Script", "depth", "I", false)
def tyX8 : Nat → FieldType := fun k => match k with
  | 0 => .object "PawnRace$Tokens"
  | 1 => .array .int
  | 2 => .array .int
  | 3 => .array .int
  | 4 => .array .int
  | 5 => .array .int
  | 6 => .int
  | 7 => .int
  | 8 => .array .int
  | _ => .int
abbrev wsX80 : List Cond := u_ws RX8 TX8 10
theorem nmX8 : ∀ a, a < 10 → ∀ b, b < 10 → a ≠ b → (TX8 a).2.1 ≠ (TX8 b).2.1 := by decide +kernel
theorem tyX8_ok : ∀ k, k < 10 → parseFieldDescriptor (TX8 k).2.2.1 = some (tyX8 k) := by decide +kernel
abbrev cX8_init : ByteArray := prog_10_method_1_code
def yX8_init : MethodName := ⟨RX8, "<init>", "(LPawnRace$Tokens;)V"⟩
def RX9 : String := "PawnRace$Tokens"
def TX9 : u_T := fun k => match k with
  | 0 => ("PawnRace$Tokens", "text", "[B", true)
  | 1 => ("PawnRace$Tokens", "length", "I", false)
  | 2 => ("PawnRace$Tokens", "kinds", "[I", true)
  | 3 => ("PawnRace$Tokens", "starts", "[I", true)
  | 4 => ("PawnRace$Tokens", "sizes", "[I", true)
  | 5 => ("PawnRace$Tokens", "count", "I", false)
  | 6 => ("PawnRace$Tokens", "current", "I", false)
  | 7 => ("PawnRace$Tokens", "kind", "I", false)
  | 8 => ("PawnRace$Tokens", "start", "I", false)
  | 9 => ("PawnRace$Tokens", "size", "I", false)
  | 10 => ("PawnRace$Tokens", "value", "I", false)
  | 11 => ("PawnRace$Tokens", "errorCode", "I", false)
  | _ => ("PawnRace$Tokens", "errorPosition", "I", false)
def tyX9 : Nat → FieldType := fun k => match k with
  | 0 => .array .byte
  | 1 => .int
  | 2 => .array .int
  | 3 => .array .int
  | 4 => .array .int
  | 5 => .int
  | 6 => .int
  | 7 => .int
  | 8 => .int
  | 9 => .int
  | 10 => .int
  | 11 => .int
  | _ => .int
abbrev wsX90 : List Cond := u_ws RX9 TX9 13
theorem nmX9 : ∀ a, a < 13 → ∀ b, b < 13 → a ≠ b → (TX9 a).2.1 ≠ (TX9 b).2.1 := by decide +kernel
theorem tyX9_ok : ∀ k, k < 13 → parseFieldDescriptor (TX9 k).2.2.1 = some (tyX9 k) := by decide +kernel
abbrev cX9_init : ByteArray := prog_11_method_1_code
def yX9_init : MethodName := ⟨RX9, "<init>", "()V"⟩
abbrev cX9_append : ByteArray := prog_11_method_2_code
def yX9_append : MethodName := ⟨RX9, "append", "(I)V"⟩
abbrev cX9_begin : ByteArray := prog_11_method_3_code
def yX9_begin : MethodName := ⟨RX9, "begin", "()V"⟩
abbrev cX9_addToken : ByteArray := prog_11_method_4_code
def yX9_addToken : MethodName := ⟨RX9, "addToken", "(II)V"⟩
abbrev cX9_kindOf : ByteArray := prog_11_method_5_code
def yX9_kindOf : MethodName := ⟨RX9, "kindOf", "(I)I"⟩
abbrev cX9_byteAt : ByteArray := prog_11_method_6_code
def yX9_byteAt : MethodName := ⟨RX9, "byteAt", "(I)I"⟩
abbrev cX9_advance : ByteArray := prog_11_method_7_code
def yX9_advance : MethodName := ⟨RX9, "advance", "()V"⟩
abbrev cX9_fail : ByteArray := prog_11_method_8_code
def yX9_fail : MethodName := ⟨RX9, "fail", "(I)Z"⟩
abbrev cX9_isWord : ByteArray := prog_11_method_9_code
def yX9_isWord : MethodName := ⟨RX9, "isWord", "(Ljava/lang/String;)Z"⟩
abbrev cX9_isSign : ByteArray := prog_11_method_10_code
def yX9_isSign : MethodName := ⟨RX9, "isSign", "(I)Z"⟩
abbrev cX9_isSameWord : ByteArray := prog_11_method_11_code
def yX9_isSameWord : MethodName := ⟨RX9, "isSameWord", "(II)Z"⟩
abbrev cX9_side : ByteArray := prog_11_method_12_code
def yX9_side : MethodName := ⟨RX9, "side", "()I"⟩
abbrev cX9_needSide : ByteArray := prog_11_method_13_code
def yX9_needSide : MethodName := ⟨RX9, "needSide", "()I"⟩
abbrev cX9_needWay : ByteArray := prog_11_method_14_code
def yX9_needWay : MethodName := ⟨RX9, "needWay", "()I"⟩
abbrev cX9_needSign : ByteArray := prog_11_method_15_code
def yX9_needSign : MethodName := ⟨RX9, "needSign", "(I)Z"⟩
abbrev cX9_needNumber : ByteArray := prog_11_method_16_code
def yX9_needNumber : MethodName := ⟨RX9, "needNumber", "(II)Z"⟩
def RX10 : String := "PawnRace$Ways"
def TX10 : u_T := fun k => match k with
  | 0 => ("PawnRace$Ways", "distances", "[I", true)
  | 1 => ("PawnRace$Ways", "queue", "[I", true)
  | 2 => ("PawnRace$Ways", "queued", "I", false)
  | _ => ("PawnRace$Ways", "numbers", "[I", true)
def tyX10 : Nat → FieldType := fun k => match k with
  | 0 => .array .int
  | 1 => .array .int
  | 2 => .int
  | _ => .array .int
abbrev wsX100 : List Cond := u_ws RX10 TX10 4
theorem nmX10 : ∀ a, a < 4 → ∀ b, b < 4 → a ≠ b → (TX10 a).2.1 ≠ (TX10 b).2.1 := by decide +kernel
theorem tyX10_ok : ∀ k, k < 4 → parseFieldDescriptor (TX10 k).2.2.1 = some (tyX10 k) := by decide +kernel
abbrev cX10_init : ByteArray := prog_12_method_1_code
def yX10_init : MethodName := ⟨RX10, "<init>", "()V"⟩
abbrev cX10_spread : ByteArray := prog_12_method_2_code
def yX10_spread : MethodName := ⟨RX10, "spread", "(LPawnRace$Board;III)I"⟩
abbrev cX10_beginAt : ByteArray := prog_12_method_3_code
def yX10_beginAt : MethodName := ⟨RX10, "beginAt", "(I)V"⟩
abbrev cX10_flow : ByteArray := prog_12_method_4_code
def yX10_flow : MethodName := ⟨RX10, "flow", "(LPawnRace$Board;II)V"⟩
abbrev cX10_measure : ByteArray := prog_12_method_5_code
def yX10_measure : MethodName := ⟨RX10, "measure", "(LPawnRace$Board;LPawnRace$Pawn;)I"⟩
abbrev cX10_isNearer : ByteArray := prog_12_method_6_code
def yX10_isNearer : MethodName := ⟨RX10, "isNearer", "(LPawnRace$Board;II)Z"⟩
abbrev cX10_countWays : ByteArray := prog_12_method_7_code
def yX10_countWays : MethodName := ⟨RX10, "countWays", "(LPawnRace$Board;LPawnRace$Pawn;)I"⟩
abbrev cX10_sumOfNearer : ByteArray := prog_12_method_8_code
def yX10_sumOfNearer : MethodName := ⟨RX10, "sumOfNearer", "(LPawnRace$Board;I)I"⟩
abbrev cX10_countCellsOnWays : ByteArray := prog_12_method_9_code
def yX10_countCellsOnWays : MethodName := ⟨RX10, "countCellsOnWays", "(LPawnRace$Board;LPawnRace$Pawn;)I"⟩
abbrev cX10_markNearer : ByteArray := prog_12_method_10_code
def yX10_markNearer : MethodName := ⟨RX10, "markNearer", "(LPawnRace$Board;I)V"⟩
abbrev cX10_countGates : ByteArray := prog_12_method_11_code
def yX10_countGates : MethodName := ⟨RX10, "countGates", "(LPawnRace$Board;LPawnRace$Pawn;)I"⟩
abbrev cX10_closesAt : ByteArray := prog_12_method_12_code
def yX10_closesAt : MethodName := ⟨RX10, "closesAt", "(LPawnRace$Board;LPawnRace$Pawn;I)Z"⟩
def RX11 : String := "PawnRace"
def TX11 : u_T := fun k => match k with
  | 0 => ("PawnRace", "tokens", "LPawnRace$Tokens;", true)
  | 1 => ("PawnRace", "reader", "LPawnRace$RaceReader;", true)
  | 2 => ("PawnRace", "script", "LPawnRace$Script;", true)
  | 3 => ("PawnRace", "planner", "LPawnRace$Planner;", true)
  | 4 => ("PawnRace", "ways", "LPawnRace$Ways;", true)
  | 5 => ("PawnRace", "banWays", "LPawnRace$BanWays;", true)
  | 6 => ("PawnRace", "race", "LPawnRace$Race;", true)
  | 7 => ("PawnRace", "draft", "LPawnRace$Race;", true)
  | 8 => ("PawnRace", "preview", "LPawnRace$Race;", true)
  | 9 => ("PawnRace", "saved", "LPawnRace$Race;", true)
  | 10 => ("PawnRace", "isSaved", "Z", false)
  | 11 => ("PawnRace", "history", "LPawnRace$History;", true)
  | 12 => ("PawnRace", "reported", "[B", true)
  | _ => ("PawnRace", "reportedBytes", "I", false)
def tyX11 : Nat → FieldType := fun k => match k with
  | 0 => .object "PawnRace$Tokens"
  | 1 => .object "PawnRace$RaceReader"
  | 2 => .object "PawnRace$Script"
  | 3 => .object "PawnRace$Planner"
  | 4 => .object "PawnRace$Ways"
  | 5 => .object "PawnRace$BanWays"
  | 6 => .object "PawnRace$Race"
  | 7 => .object "PawnRace$Race"
  | 8 => .object "PawnRace$Race"
  | 9 => .object "PawnRace$Race"
  | 10 => .boolean
  | 11 => .object "PawnRace$History"
  | 12 => .array .byte
  | _ => .int
abbrev wsX110 : List Cond := u_ws RX11 TX11 14
theorem nmX11 : ∀ a, a < 14 → ∀ b, b < 14 → a ≠ b → (TX11 a).2.1 ≠ (TX11 b).2.1 := by decide +kernel
theorem tyX11_ok : ∀ k, k < 14 → parseFieldDescriptor (TX11 k).2.2.1 = some (tyX11 k) := by decide +kernel
abbrev cX11_init : ByteArray := prog_1_method_1_code
def yX11_init : MethodName := ⟨RX11, "<init>", "()V"⟩
abbrev cX11_feed : ByteArray := prog_1_method_2_code
def yX11_feed : MethodName := ⟨RX11, "feed", "(IIIII)I"⟩
abbrev cX11_truncate : ByteArray := prog_1_method_3_code
def yX11_truncate : MethodName := ⟨RX11, "truncate", "(I)I"⟩
abbrev cX11_readText : ByteArray := prog_1_method_4_code
def yX11_readText : MethodName := ⟨RX11, "readText", "()I"⟩
abbrev cX11_setting : ByteArray := prog_1_method_8_code
def yX11_setting : MethodName := ⟨RX11, "setting", "(I)I"⟩
abbrev cX11_pawn : ByteArray := prog_1_method_9_code
def yX11_pawn : MethodName := ⟨RX11, "pawn", "(II)I"⟩
abbrev cX11_turnOf : ByteArray := prog_1_method_10_code
def yX11_turnOf : MethodName := ⟨RX11, "turnOf", "()I"⟩
abbrev cX11_isOver : ByteArray := prog_1_method_11_code
def yX11_isOver : MethodName := ⟨RX11, "isOver", "()Z"⟩
abbrev cX11_ranked : ByteArray := prog_1_method_13_code
def yX11_ranked : MethodName := ⟨RX11, "ranked", "(I)I"⟩
abbrev cX11_wallAt : ByteArray := prog_1_method_14_code
def yX11_wallAt : MethodName := ⟨RX11, "wallAt", "(II)I"⟩
abbrev cX11_isBlocked : ByteArray := prog_1_method_15_code
def yX11_isBlocked : MethodName := ⟨RX11, "isBlocked", "(III)Z"⟩
abbrev cX11_isAdmissible : ByteArray := prog_1_method_16_code
def yX11_isAdmissible : MethodName := ⟨RX11, "isAdmissible", "(IIZ)Z"⟩
abbrev cX11_canStep : ByteArray := prog_1_method_19_code
def yX11_canStep : MethodName := ⟨RX11, "canStep", "(II)Z"⟩
abbrev cX11_distance : ByteArray := prog_1_method_22_code
def yX11_distance : MethodName := ⟨RX11, "distance", "(I)I"⟩
abbrev cX11_distanceFrom : ByteArray := prog_1_method_23_code
def yX11_distanceFrom : MethodName := ⟨RX11, "distanceFrom", "(III)I"⟩
abbrev cX11_ways : ByteArray := prog_1_method_24_code
def yX11_ways : MethodName := ⟨RX11, "ways", "(I)I"⟩
abbrev cX11_onWays : ByteArray := prog_1_method_25_code
def yX11_onWays : MethodName := ⟨RX11, "onWays", "(I)I"⟩
abbrev cX11_gates : ByteArray := prog_1_method_26_code
def yX11_gates : MethodName := ⟨RX11, "gates", "(I)I"⟩
abbrev cX11_isGate : ByteArray := prog_1_method_27_code
def yX11_isGate : MethodName := ⟨RX11, "isGate", "(III)Z"⟩
abbrev cX11_stepsWithBans : ByteArray := prog_1_method_28_code
def yX11_stepsWithBans : MethodName := ⟨RX11, "stepsWithBans", "(I)I"⟩
abbrev cX11_detour : ByteArray := prog_1_method_30_code
def yX11_detour : MethodName := ⟨RX11, "detour", "(I)I"⟩
abbrev cX11_gain : ByteArray := prog_1_method_34_code
def yX11_gain : MethodName := ⟨RX11, "gain", "(I)I"⟩
abbrev cX11_harm : ByteArray := prog_1_method_35_code
def yX11_harm : MethodName := ⟨RX11, "harm", "(IIIZ)I"⟩
abbrev cX11_foreseen : ByteArray := prog_1_method_36_code
def yX11_foreseen : MethodName := ⟨RX11, "foreseen", "(III)I"⟩
abbrev cX11_step : ByteArray := prog_1_method_37_code
def yX11_step : MethodName := ⟨RX11, "step", "(I)I"⟩
abbrev cX11_build : ByteArray := prog_1_method_38_code
def yX11_build : MethodName := ⟨RX11, "build", "(IIZ)I"⟩
abbrev cX11_pass : ByteArray := prog_1_method_39_code
def yX11_pass : MethodName := ⟨RX11, "pass", "()I"⟩
abbrev cX11_play : ByteArray := prog_1_method_40_code
def yX11_play : MethodName := ⟨RX11, "play", "(II)I"⟩
abbrev cX11_undo : ByteArray := prog_1_method_43_code
def yX11_undo : MethodName := ⟨RX11, "undo", "()I"⟩
abbrev cX11_checkPawn : ByteArray := prog_1_method_46_code
def yX11_checkPawn : MethodName := ⟨RX11, "checkPawn", "(I)V"⟩
abbrev cX11_checkCell : ByteArray := prog_1_method_47_code
def yX11_checkCell : MethodName := ⟨RX11, "checkCell", "(II)V"⟩
abbrev cX11_checkPlace : ByteArray := prog_1_method_48_code
def yX11_checkPlace : MethodName := ⟨RX11, "checkPlace", "(II)V"⟩
abbrev cX11_checkDirection : ByteArray := prog_1_method_49_code
def yX11_checkDirection : MethodName := ⟨RX11, "checkDirection", "(I)V"⟩
abbrev cX11_checkPlay : ByteArray := prog_1_method_50_code
def yX11_checkPlay : MethodName := ⟨RX11, "checkPlay", "(II)V"⟩
abbrev cX11_mayPlay : ByteArray := prog_1_method_53_code
def yX11_mayPlay : MethodName := ⟨RX11, "mayPlay", "(II)Z"⟩
def RX12 : String := "PawnRaceLaw$World"
def TX12 : u_T := fun k => match k with
  | 0 => ("PawnRaceLaw$World", "wide", "I", false)
  | 1 => ("PawnRaceLaw$World", "high", "I", false)
  | 2 => ("PawnRaceLaw$World", "turns", "I", false)
  | 3 => ("PawnRaceLaw$World", "finished", "I", false)
  | 4 => ("PawnRaceLaw$World", "turn", "I", false)
  | 5 => ("PawnRaceLaw$World", "pawns", "Ljava/util/List;", false)
  | 6 => ("PawnRaceLaw$World", "bans", "Ljava/util/List;", false)
  | 7 => ("PawnRaceLaw$World", "walls", "[[I", false)
  | 8 => ("PawnRaceLaw$World", "text", "Ljava/lang/String;", false)
  | 9 => ("PawnRaceLaw$World", "s", "[I", false)
  | _ => ("PawnRaceLaw$World", "at", "I", false)
def tyX12 : Nat → FieldType := fun k => match k with
  | 0 => .int
  | 1 => .int
  | 2 => .int
  | 3 => .int
  | 4 => .int
  | 5 => .object "java/util/List"
  | 6 => .object "java/util/List"
  | 7 => .array (.array .int)
  | 8 => .object "java/lang/String"
  | 9 => .array .int
  | _ => .int
abbrev wsX120 : List Cond := u_ws RX12 TX12 11
theorem nmX12 : ∀ a, a < 11 → ∀ b, b < 11 → a ≠ b → (TX12 a).2.1 ≠ (TX12 b).2.1 := by decide +kernel
theorem tyX12_ok : ∀ k, k < 11 → parseFieldDescriptor (TX12 k).2.2.1 = some (tyX12 k) := by decide +kernel
abbrev cX12_init : ByteArray := prog_14_method_1_code
def yX12_init : MethodName := ⟨RX12, "<init>", "()V"⟩
abbrev cX12_next : ByteArray := prog_14_method_2_code
def yX12_next : MethodName := ⟨RX12, "next", "(I)I"⟩
abbrev cX12_grown : ByteArray := prog_14_method_3_code
def yX12_grown : MethodName := ⟨RX12, "grown", "([I)LPawnRaceLaw$World;"⟩
abbrev cX12_pawn : ByteArray := prog_14_method_4_code
def yX12_pawn : MethodName := ⟨RX12, "pawn", "(Ljava/lang/StringBuilder;I)V"⟩
abbrev cX12_ban : ByteArray := prog_14_method_5_code
def yX12_ban : MethodName := ⟨RX12, "ban", "(Ljava/lang/StringBuilder;)V"⟩
abbrev cX12_block : ByteArray := prog_14_method_6_code
def yX12_block : MethodName := ⟨RX12, "block", "(Ljava/lang/StringBuilder;)V"⟩
abbrev cX12_isAtSide : ByteArray := prog_14_method_8_code
def yX12_isAtSide : MethodName := ⟨RX12, "isAtSide", "(III)Z"⟩
abbrev cX12_isCell : ByteArray := prog_14_method_9_code
def yX12_isCell : MethodName := ⟨RX12, "isCell", "(II)Z"⟩
abbrev cX12_wall : ByteArray := prog_14_method_10_code
def yX12_wall : MethodName := ⟨RX12, "wall", "(II)I"⟩
abbrev cX12_isOpen : ByteArray := prog_14_method_11_code
def yX12_isOpen : MethodName := ⟨RX12, "isOpen", "(III)Z"⟩
abbrev cX12_pawnAt : ByteArray := prog_14_method_12_code
def yX12_pawnAt : MethodName := ⟨RX12, "pawnAt", "(II)I"⟩
abbrev cX12_distances : ByteArray := prog_14_method_13_code
def yX12_distances : MethodName := ⟨RX12, "distances", "(I)[[I"⟩
abbrev cX12_distance : ByteArray := prog_14_method_14_code
def yX12_distance : MethodName := ⟨RX12, "distance", "(I)I"⟩
abbrev cX12_isAdmissible : ByteArray := prog_14_method_15_code
def yX12_isAdmissible : MethodName := ⟨RX12, "isAdmissible", "(III)Z"⟩
abbrev cX12_isBanned : ByteArray := prog_14_method_16_code
def yX12_isBanned : MethodName := ⟨RX12, "isBanned", "(IIIIII)Z"⟩
abbrev cX12_isOver : ByteArray := prog_14_method_17_code
def yX12_isOver : MethodName := ⟨RX12, "isOver", "()Z"⟩
abbrev cX12_landing : ByteArray := prog_14_method_18_code
def yX12_landing : MethodName := ⟨RX12, "landing", "(II)I"⟩
abbrev cX12_endTurn : ByteArray := prog_14_method_19_code
def yX12_endTurn : MethodName := ⟨RX12, "endTurn", "()V"⟩
abbrev cX12_step : ByteArray := prog_14_method_20_code
def yX12_step : MethodName := ⟨RX12, "step", "(I)I"⟩
abbrev cX12_build : ByteArray := prog_14_method_21_code
def yX12_build : MethodName := ⟨RX12, "build", "(III)I"⟩
abbrev cX12_advised : ByteArray := prog_14_method_22_code
def yX12_advised : MethodName := ⟨RX12, "advised", "(I)I"⟩
abbrev cX12_bestWall : ByteArray := prog_14_method_23_code
def yX12_bestWall : MethodName := ⟨RX12, "bestWall", "(I)[I"⟩
abbrev cX12_play : ByteArray := prog_14_method_24_code
def yX12_play : MethodName := ⟨RX12, "play", "(I)V"⟩
def RX13 : String := "PawnRaceModel"
def TX13 : u_T := fun k => match k with
  | _ => ("", "", "", false)
def tyX13 : Nat → FieldType := fun k => match k with
  | _ => .int
abbrev wsX130 : List Cond := u_ws RX13 TX13 0
theorem nmX13 : ∀ a, a < 0 → ∀ b, b < 0 → a ≠ b → (TX13 a).2.1 ≠ (TX13 b).2.1 := by decide +kernel
theorem tyX13_ok : ∀ k, k < 0 → parseFieldDescriptor (TX13 k).2.2.1 = some (tyX13 k) := by decide +kernel
def RJx145de : String := "java/io/Serializable"
def TJx145de : u_T := fun k => match k with
  | _ => ("", "", "", false)
def tyJx145de : Nat → FieldType := fun k => match k with
  | _ => .int
abbrev wsJx145de0 : List Cond := u_ws RJx145de TJx145de 0
theorem nmJx145de : ∀ a, a < 0 → ∀ b, b < 0 → a ≠ b → (TJx145de a).2.1 ≠ (TJx145de b).2.1 := by decide +kernel
theorem tyJx145de_ok : ∀ k, k < 0 → parseFieldDescriptor (TJx145de k).2.2.1 = some (tyJx145de k) := by decide +kernel
def RJ5 : String := "java/lang/AbstractStringBuilder"
def TJ5 : u_T := fun k => match k with
  | _ => ("", "", "", false)
def tyJ5 : Nat → FieldType := fun k => match k with
  | _ => .int
abbrev wsJ50 : List Cond := u_ws RJ5 TJ5 0
theorem nmJ5 : ∀ a, a < 0 → ∀ b, b < 0 → a ≠ b → (TJ5 a).2.1 ≠ (TJ5 b).2.1 := by decide +kernel
theorem tyJ5_ok : ∀ k, k < 0 → parseFieldDescriptor (TJ5 k).2.2.1 = some (tyJ5 k) := by decide +kernel
abbrev cJ5_init_d00df : ByteArray := prog_17_method_2_code
def yJ5_init_d00df : MethodName := ⟨RJ5, "<init>", "(I)V"⟩
abbrev cJ5_length_8abf5 : ByteArray := prog_17_method_6_code
def yJ5_length_8abf5 : MethodName := ⟨RJ5, "length", "()I"⟩
abbrev cJ5_ensureCapacityInternal_d00df : ByteArray := prog_17_method_9_code
def yJ5_ensureCapacityInternal_d00df : MethodName := ⟨RJ5, "ensureCapacityInternal", "(I)V"⟩
abbrev cJ5_newCapacity_0f7a4 : ByteArray := prog_17_method_10_code
def yJ5_newCapacity_0f7a4 : MethodName := ⟨RJ5, "newCapacity", "(I)I"⟩
abbrev cJ5_inflate_da8c8 : ByteArray := prog_17_method_11_code
def yJ5_inflate_da8c8 : MethodName := ⟨RJ5, "inflate", "()V"⟩
abbrev cJ5_append_cf1ce : ByteArray := prog_17_method_22_code
def yJ5_append_cf1ce : MethodName := ⟨RJ5, "append", "(Ljava/lang/String;)Ljava/lang/AbstractStringBuilder;"⟩
abbrev cJ5_appendNull_278bc : ByteArray := prog_17_method_26_code
def yJ5_appendNull_278bc : MethodName := ⟨RJ5, "appendNull", "()Ljava/lang/AbstractStringBuilder;"⟩
abbrev cJ5_append_3fe6f : ByteArray := prog_17_method_31_code
def yJ5_append_3fe6f : MethodName := ⟨RJ5, "append", "(C)Ljava/lang/AbstractStringBuilder;"⟩
abbrev cJ5_append_c97b9 : ByteArray := prog_17_method_32_code
def yJ5_append_c97b9 : MethodName := ⟨RJ5, "append", "(I)Ljava/lang/AbstractStringBuilder;"⟩
abbrev cJ5_getValue_6d5f1 : ByteArray := prog_17_method_64_code
def yJ5_getValue_6d5f1 : MethodName := ⟨RJ5, "getValue", "()[B"⟩
abbrev cJ5_isLatin1_aae02 : ByteArray := prog_17_method_68_code
def yJ5_isLatin1_aae02 : MethodName := ⟨RJ5, "isLatin1", "()Z"⟩
abbrev cJ5_inflateIfNeededFor_a7421 : ByteArray := prog_17_method_71_code
def yJ5_inflateIfNeededFor_a7421 : MethodName := ⟨RJ5, "inflateIfNeededFor", "(Ljava/lang/String;)V"⟩
abbrev cJ5_putStringAt_47b60 : ByteArray := prog_17_method_73_code
def yJ5_putStringAt_47b60 : MethodName := ⟨RJ5, "putStringAt", "(ILjava/lang/String;)V"⟩
def RJx2cfe8 : String := "java/lang/Appendable"
def TJx2cfe8 : u_T := fun k => match k with
  | _ => ("", "", "", false)
def tyJx2cfe8 : Nat → FieldType := fun k => match k with
  | _ => .int
abbrev wsJx2cfe80 : List Cond := u_ws RJx2cfe8 TJx2cfe8 0
theorem nmJx2cfe8 : ∀ a, a < 0 → ∀ b, b < 0 → a ≠ b → (TJx2cfe8 a).2.1 ≠ (TJx2cfe8 b).2.1 := by decide +kernel
theorem tyJx2cfe8_ok : ∀ k, k < 0 → parseFieldDescriptor (TJx2cfe8 k).2.2.1 = some (tyJx2cfe8 k) := by decide +kernel
def RJx9f9b0 : String := "java/lang/CharSequence"
def TJx9f9b0 : u_T := fun k => match k with
  | _ => ("", "", "", false)
def tyJx9f9b0 : Nat → FieldType := fun k => match k with
  | _ => .int
abbrev wsJx9f9b00 : List Cond := u_ws RJx9f9b0 TJx9f9b0 0
theorem nmJx9f9b0 : ∀ a, a < 0 → ∀ b, b < 0 → a ≠ b → (TJx9f9b0 a).2.1 ≠ (TJx9f9b0 b).2.1 := by decide +kernel
theorem tyJx9f9b0_ok : ∀ k, k < 0 → parseFieldDescriptor (TJx9f9b0 k).2.2.1 = some (tyJx9f9b0 k) := by decide +kernel
def RJx8e188 : String := "java/lang/Cloneable"
def TJx8e188 : u_T := fun k => match k with
  | _ => ("", "", "", false)
def tyJx8e188 : Nat → FieldType := fun k => match k with
  | _ => .int
abbrev wsJx8e1880 : List Cond := u_ws RJx8e188 TJx8e188 0
theorem nmJx8e188 : ∀ a, a < 0 → ∀ b, b < 0 → a ≠ b → (TJx8e188 a).2.1 ≠ (TJx8e188 b).2.1 := by decide +kernel
theorem tyJx8e188_ok : ∀ k, k < 0 → parseFieldDescriptor (TJx8e188 k).2.2.1 = some (tyJx8e188 k) := by decide +kernel
def RJxb160c : String := "java/lang/Comparable"
def TJxb160c : u_T := fun k => match k with
  | _ => ("", "", "", false)
def tyJxb160c : Nat → FieldType := fun k => match k with
  | _ => .int
abbrev wsJxb160c0 : List Cond := u_ws RJxb160c TJxb160c 0
theorem nmJxb160c : ∀ a, a < 0 → ∀ b, b < 0 → a ≠ b → (TJxb160c a).2.1 ≠ (TJxb160c b).2.1 := by decide +kernel
theorem tyJxb160c_ok : ∀ k, k < 0 → parseFieldDescriptor (TJxb160c k).2.2.1 = some (tyJxb160c k) := by decide +kernel
def RJ6 : String := "java/lang/Integer"
def TJ6 : u_T := fun k => match k with
  | _ => ("", "", "", false)
def tyJ6 : Nat → FieldType := fun k => match k with
  | _ => .int
abbrev wsJ60 : List Cond := u_ws RJ6 TJ6 0
theorem nmJ6 : ∀ a, a < 0 → ∀ b, b < 0 → a ≠ b → (TJ6 a).2.1 ≠ (TJ6 b).2.1 := by decide +kernel
theorem tyJ6_ok : ∀ k, k < 0 → parseFieldDescriptor (TJ6 k).2.2.1 = some (tyJ6 k) := by decide +kernel
abbrev cJ6_getChars_ba4f3 : ByteArray := prog_26_method_12_code
def yJ6_getChars_ba4f3 : MethodName := ⟨RJ6, "getChars", "(II[B)I"⟩
abbrev cJ6_stringSize_0f7a4 : ByteArray := prog_26_method_13_code
def yJ6_stringSize_0f7a4 : MethodName := ⟨RJ6, "stringSize", "(I)I"⟩
def RJxab1ab : String := "java/lang/Iterable"
def TJxab1ab : u_T := fun k => match k with
  | _ => ("", "", "", false)
def tyJxab1ab : Nat → FieldType := fun k => match k with
  | _ => .int
abbrev wsJxab1ab0 : List Cond := u_ws RJxab1ab TJxab1ab 0
theorem nmJxab1ab : ∀ a, a < 0 → ∀ b, b < 0 → a ≠ b → (TJxab1ab a).2.1 ≠ (TJxab1ab b).2.1 := by decide +kernel
theorem tyJxab1ab_ok : ∀ k, k < 0 → parseFieldDescriptor (TJxab1ab k).2.2.1 = some (tyJxab1ab k) := by decide +kernel
def RJ9 : String := "java/lang/Math"
def TJ9 : u_T := fun k => match k with
  | _ => ("", "", "", false)
def tyJ9 : Nat → FieldType := fun k => match k with
  | _ => .int
abbrev wsJ90 : List Cond := u_ws RJ9 TJ9 0
theorem nmJ9 : ∀ a, a < 0 → ∀ b, b < 0 → a ≠ b → (TJ9 a).2.1 ≠ (TJ9 b).2.1 := by decide +kernel
theorem tyJ9_ok : ∀ k, k < 0 → parseFieldDescriptor (TJ9 k).2.2.1 = some (tyJ9 k) := by decide +kernel
abbrev cJ9_abs_0f7a4 : ByteArray := prog_28_method_59_code
def yJ9_abs_0f7a4 : MethodName := ⟨RJ9, "abs", "(I)I"⟩
abbrev cJ9_max_7cf53 : ByteArray := prog_28_method_65_code
def yJ9_max_7cf53 : MethodName := ⟨RJ9, "max", "(II)I"⟩
abbrev cJ9_min_7cf53 : ByteArray := prog_28_method_69_code
def yJ9_min_7cf53 : MethodName := ⟨RJ9, "min", "(II)I"⟩
def RJxd2413 : String := "java/lang/Number"
def TJxd2413 : u_T := fun k => match k with
  | _ => ("", "", "", false)
def tyJxd2413 : Nat → FieldType := fun k => match k with
  | _ => .int
abbrev wsJxd24130 : List Cond := u_ws RJxd2413 TJxd2413 0
theorem nmJxd2413 : ∀ a, a < 0 → ∀ b, b < 0 → a ≠ b → (TJxd2413 a).2.1 ≠ (TJxd2413 b).2.1 := by decide +kernel
theorem tyJxd2413_ok : ∀ k, k < 0 → parseFieldDescriptor (TJxd2413 k).2.2.1 = some (tyJxd2413 k) := by decide +kernel
def RJ0 : String := "java/lang/String"
def TJ0 : u_T := fun k => match k with
  | 0 => ("java/lang/String", "value", "[B", true)
  | 1 => ("java/lang/String", "coder", "B", true)
  | 2 => ("java/lang/String", "hash", "I", false)
  | _ => ("java/lang/String", "hashIsZero", "Z", false)
def tyJ0 : Nat → FieldType := fun k => match k with
  | 0 => .array .byte
  | 1 => .byte
  | 2 => .int
  | _ => .boolean
abbrev wsJ00 : List Cond := u_ws RJ0 TJ0 4
theorem nmJ0 : ∀ a, a < 4 → ∀ b, b < 4 → a ≠ b → (TJ0 a).2.1 ≠ (TJ0 b).2.1 := by decide +kernel
theorem tyJ0_ok : ∀ k, k < 4 → parseFieldDescriptor (TJ0 k).2.2.1 = some (tyJ0 k) := by decide +kernel
abbrev cJ0_init_81219 : ByteArray := prog_31_method_53_code
def yJ0_init_81219 : MethodName := ⟨RJ0, "<init>", "(Ljava/lang/StringBuilder;)V"⟩
abbrev cJ0_length_8abf5 : ByteArray := prog_31_method_54_code
def yJ0_length_8abf5 : MethodName := ⟨RJ0, "length", "()I"⟩
abbrev cJ0_isEmpty_aae02 : ByteArray := prog_31_method_55_code
def yJ0_isEmpty_aae02 : MethodName := ⟨RJ0, "isEmpty", "()Z"⟩
abbrev cJ0_charAt_5068e : ByteArray := prog_31_method_56_code
def yJ0_charAt_5068e : MethodName := ⟨RJ0, "charAt", "(I)C"⟩
abbrev cJ0_getBytes_840e7 : ByteArray := prog_31_method_147_code
def yJ0_getBytes_840e7 : MethodName := ⟨RJ0, "getBytes", "([BIB)V"⟩
abbrev cJ0_init_db425 : ByteArray := prog_31_method_150_code
def yJ0_init_db425 : MethodName := ⟨RJ0, "<init>", "(Ljava/lang/AbstractStringBuilder;Ljava/lang/Void;)V"⟩
abbrev cJ0_coder_7d493 : ByteArray := prog_31_method_152_code
def yJ0_coder_7d493 : MethodName := ⟨RJ0, "coder", "()B"⟩
abbrev cJ0_isLatin1_aae02 : ByteArray := prog_31_method_154_code
def yJ0_isLatin1_aae02 : MethodName := ⟨RJ0, "isLatin1", "()Z"⟩
abbrev cJ0_checkIndex_df160 : ByteArray := prog_31_method_155_code
def yJ0_checkIndex_df160 : MethodName := ⟨RJ0, "checkIndex", "(II)V"⟩
abbrev cJ0_checkBoundsOffCount_cabcc : ByteArray := prog_31_method_157_code
def yJ0_checkBoundsOffCount_cabcc : MethodName := ⟨RJ0, "checkBoundsOffCount", "(III)I"⟩
abbrev cJ0_checkBoundsBeginEnd_23922 : ByteArray := prog_31_method_158_code
def yJ0_checkBoundsBeginEnd_23922 : MethodName := ⟨RJ0, "checkBoundsBeginEnd", "(III)V"⟩
def RJ4 : String := "java/lang/StringBuilder"
def TJ4 : u_T := fun k => match k with
  | 0 => ("java/lang/AbstractStringBuilder", "value", "[B", false)
  | 1 => ("java/lang/AbstractStringBuilder", "coder", "B", false)
  | 2 => ("java/lang/AbstractStringBuilder", "maybeLatin1", "Z", false)
  | _ => ("java/lang/AbstractStringBuilder", "count", "I", false)
def tyJ4 : Nat → FieldType := fun k => match k with
  | 0 => .array .byte
  | 1 => .byte
  | 2 => .boolean
  | _ => .int
abbrev wsJ40 : List Cond := u_ws RJ4 TJ4 4
theorem nmJ4 : ∀ a, a < 4 → ∀ b, b < 4 → a ≠ b → (TJ4 a).2.1 ≠ (TJ4 b).2.1 := by decide +kernel
theorem tyJ4_ok : ∀ k, k < 4 → parseFieldDescriptor (TJ4 k).2.2.1 = some (tyJ4 k) := by decide +kernel
abbrev cJ4_init_da8c8 : ByteArray := prog_32_method_1_code
def yJ4_init_da8c8 : MethodName := ⟨RJ4, "<init>", "()V"⟩
abbrev cJ4_append_15ec4 : ByteArray := prog_32_method_7_code
def yJ4_append_15ec4 : MethodName := ⟨RJ4, "append", "(Ljava/lang/String;)Ljava/lang/StringBuilder;"⟩
abbrev cJ4_append_cf468 : ByteArray := prog_32_method_14_code
def yJ4_append_cf468 : MethodName := ⟨RJ4, "append", "(C)Ljava/lang/StringBuilder;"⟩
abbrev cJ4_append_bf812 : ByteArray := prog_32_method_15_code
def yJ4_append_bf812 : MethodName := ⟨RJ4, "append", "(I)Ljava/lang/StringBuilder;"⟩
abbrev cJ4_toString_0e30d : ByteArray := prog_32_method_42_code
def yJ4_toString_0e30d : MethodName := ⟨RJ4, "toString", "()Ljava/lang/String;"⟩
abbrev cJ4_length_8abf5 : ByteArray := prog_32_method_93_code
def yJ4_length_8abf5 : MethodName := ⟨RJ4, "length", "()I"⟩
def RJ1 : String := "java/lang/StringLatin1"
def TJ1 : u_T := fun k => match k with
  | _ => ("", "", "", false)
def tyJ1 : Nat → FieldType := fun k => match k with
  | _ => .int
abbrev wsJ10 : List Cond := u_ws RJ1 TJ1 0
theorem nmJ1 : ∀ a, a < 0 → ∀ b, b < 0 → a ≠ b → (TJ1 a).2.1 ≠ (TJ1 b).2.1 := by decide +kernel
theorem tyJ1_ok : ∀ k, k < 0 → parseFieldDescriptor (TJ1 k).2.2.1 = some (tyJ1 k) := by decide +kernel
abbrev cJ1_charAt_3b067 : ByteArray := prog_33_method_2_code
def yJ1_charAt_3b067 : MethodName := ⟨RJ1, "charAt", "([BI)C"⟩
abbrev cJ1_canEncode_fc78d : ByteArray := prog_33_method_3_code
def yJ1_canEncode_fc78d : MethodName := ⟨RJ1, "canEncode", "(C)Z"⟩
abbrev cJ1_inflate_0e8fd : ByteArray := prog_33_method_50_code
def yJ1_inflate_0e8fd : MethodName := ⟨RJ1, "inflate", "([BI[BII)V"⟩
def RJ2 : String := "java/lang/StringUTF16"
def TJ2 : u_T := fun k => match k with
  | _ => ("", "", "", false)
def tyJ2 : Nat → FieldType := fun k => match k with
  | _ => .int
abbrev wsJ20 : List Cond := u_ws RJ2 TJ2 0
theorem nmJ2 : ∀ a, a < 0 → ∀ b, b < 0 → a ≠ b → (TJ2 a).2.1 ≠ (TJ2 b).2.1 := by decide +kernel
theorem tyJ2_ok : ∀ k, k < 0 → parseFieldDescriptor (TJ2 k).2.2.1 = some (tyJ2 k) := by decide +kernel
abbrev cJ2_newBytesFor_77867 : ByteArray := prog_34_method_2_code
def yJ2_newBytesFor_77867 : MethodName := ⟨RJ2, "newBytesFor", "(I)[B"⟩
abbrev cJ2_newBytesLength_0f7a4 : ByteArray := prog_34_method_3_code
def yJ2_newBytesLength_0f7a4 : MethodName := ⟨RJ2, "newBytesLength", "(I)I"⟩
abbrev cJ2_putChar_b72d1 : ByteArray := prog_34_method_4_code
def yJ2_putChar_b72d1 : MethodName := ⟨RJ2, "putChar", "([BII)V"⟩
abbrev cJ2_getChar_3b067 : ByteArray := prog_34_method_5_code
def yJ2_getChar_3b067 : MethodName := ⟨RJ2, "getChar", "([BI)C"⟩
abbrev cJ2_length_9d52b : ByteArray := prog_34_method_6_code
def yJ2_length_9d52b : MethodName := ⟨RJ2, "length", "([B)I"⟩
abbrev cJ2_coderFromArrayLen_85cad : ByteArray := prog_34_method_15_code
def yJ2_coderFromArrayLen_85cad : MethodName := ⟨RJ2, "coderFromArrayLen", "([BI)B"⟩
abbrev cJ2_compress_39247 : ByteArray := prog_34_method_17_code
def yJ2_compress_39247 : MethodName := ⟨RJ2, "compress", "([BII)[B"⟩
abbrev cJ2_compress_5af95 : ByteArray := prog_34_method_22_code
def yJ2_compress_5af95 : MethodName := ⟨RJ2, "compress", "([BI[BII)I"⟩
abbrev cJ2_putCharSB_b72d1 : ByteArray := prog_34_method_71_code
def yJ2_putCharSB_b72d1 : MethodName := ⟨RJ2, "putCharSB", "([BII)V"⟩
abbrev cJ2_getChars_46870 : ByteArray := prog_34_method_77_code
def yJ2_getChars_46870 : MethodName := ⟨RJ2, "getChars", "(III[B)I"⟩
abbrev cJ2_putCharsAt_cd4e5 : ByteArray := prog_34_method_81_code
def yJ2_putCharsAt_cd4e5 : MethodName := ⟨RJ2, "putCharsAt", "([BICCCC)I"⟩
abbrev cJ2_charAt_3b067 : ByteArray := prog_34_method_83_code
def yJ2_charAt_3b067 : MethodName := ⟨RJ2, "charAt", "([BI)C"⟩
abbrev cJ2_inflate_0e8fd : ByteArray := prog_34_method_86_code
def yJ2_inflate_0e8fd : MethodName := ⟨RJ2, "inflate", "([BI[BII)V"⟩
abbrev cJ2_getChars_ba4f3 : ByteArray := prog_34_method_89_code
def yJ2_getChars_ba4f3 : MethodName := ⟨RJ2, "getChars", "(II[B)I"⟩
abbrev cJ2_checkIndex_2214a : ByteArray := prog_34_method_91_code
def yJ2_checkIndex_2214a : MethodName := ⟨RJ2, "checkIndex", "(I[B)V"⟩
abbrev cJ2_checkBoundsBeginEnd_d044e : ByteArray := prog_34_method_93_code
def yJ2_checkBoundsBeginEnd_d044e : MethodName := ⟨RJ2, "checkBoundsBeginEnd", "(II[B)V"⟩
abbrev cJ2_checkBoundsOffCount_d044e : ByteArray := prog_34_method_94_code
def yJ2_checkBoundsOffCount_d044e : MethodName := ⟨RJ2, "checkBoundsOffCount", "(II[B)V"⟩
def RJ10 : String := "java/lang/System"
def TJ10 : u_T := fun k => match k with
  | _ => ("", "", "", false)
def tyJ10 : Nat → FieldType := fun k => match k with
  | _ => .int
abbrev wsJ100 : List Cond := u_ws RJ10 TJ10 0
theorem nmJ10 : ∀ a, a < 0 → ∀ b, b < 0 → a ≠ b → (TJ10 a).2.1 ≠ (TJ10 b).2.1 := by decide +kernel
theorem tyJ10_ok : ∀ k, k < 0 → parseFieldDescriptor (TJ10 k).2.2.1 = some (tyJ10 k) := by decide +kernel
def RJxfd54e : String := "java/lang/constant/Constable"
def TJxfd54e : u_T := fun k => match k with
  | _ => ("", "", "", false)
def tyJxfd54e : Nat → FieldType := fun k => match k with
  | _ => .int
abbrev wsJxfd54e0 : List Cond := u_ws RJxfd54e TJxfd54e 0
theorem nmJxfd54e : ∀ a, a < 0 → ∀ b, b < 0 → a ≠ b → (TJxfd54e a).2.1 ≠ (TJxfd54e b).2.1 := by decide +kernel
theorem tyJxfd54e_ok : ∀ k, k < 0 → parseFieldDescriptor (TJxfd54e k).2.2.1 = some (tyJxfd54e k) := by decide +kernel
def RJx3cf43 : String := "java/lang/constant/ConstantDesc"
def TJx3cf43 : u_T := fun k => match k with
  | _ => ("", "", "", false)
def tyJx3cf43 : Nat → FieldType := fun k => match k with
  | _ => .int
abbrev wsJx3cf430 : List Cond := u_ws RJx3cf43 TJx3cf43 0
theorem nmJx3cf43 : ∀ a, a < 0 → ∀ b, b < 0 → a ≠ b → (TJx3cf43 a).2.1 ≠ (TJx3cf43 b).2.1 := by decide +kernel
theorem tyJx3cf43_ok : ∀ k, k < 0 → parseFieldDescriptor (TJx3cf43 k).2.2.1 = some (tyJx3cf43 k) := by decide +kernel
def RJxa1e45 : String := "java/util/AbstractCollection"
def TJxa1e45 : u_T := fun k => match k with
  | _ => ("", "", "", false)
def tyJxa1e45 : Nat → FieldType := fun k => match k with
  | _ => .int
abbrev wsJxa1e450 : List Cond := u_ws RJxa1e45 TJxa1e45 0
theorem nmJxa1e45 : ∀ a, a < 0 → ∀ b, b < 0 → a ≠ b → (TJxa1e45 a).2.1 ≠ (TJxa1e45 b).2.1 := by decide +kernel
theorem tyJxa1e45_ok : ∀ k, k < 0 → parseFieldDescriptor (TJxa1e45 k).2.2.1 = some (tyJxa1e45 k) := by decide +kernel
abbrev cJxa1e45_init_da8c8 : ByteArray := prog_39_method_1_code
def yJxa1e45_init_da8c8 : MethodName := ⟨RJxa1e45, "<init>", "()V"⟩
def RJxc12de : String := "java/util/AbstractList"
def TJxc12de : u_T := fun k => match k with
  | _ => ("", "", "", false)
def tyJxc12de : Nat → FieldType := fun k => match k with
  | _ => .int
abbrev wsJxc12de0 : List Cond := u_ws RJxc12de TJxc12de 0
theorem nmJxc12de : ∀ a, a < 0 → ∀ b, b < 0 → a ≠ b → (TJxc12de a).2.1 ≠ (TJxc12de b).2.1 := by decide +kernel
theorem tyJxc12de_ok : ∀ k, k < 0 → parseFieldDescriptor (TJxc12de k).2.2.1 = some (tyJxc12de k) := by decide +kernel
abbrev cJxc12de_init_da8c8 : ByteArray := prog_40_method_1_code
def yJxc12de_init_da8c8 : MethodName := ⟨RJxc12de, "<init>", "()V"⟩
def RJx35411 : String := "java/util/ArrayList$Itr"
def TJx35411 : u_T := fun k => match k with
  | 0 => ("java/util/ArrayList$Itr", "cursor", "I", false)
  | 1 => ("java/util/ArrayList$Itr", "lastRet", "I", false)
  | 2 => ("java/util/ArrayList$Itr", "expectedModCount", "I", false)
  | _ => ("java/util/ArrayList$Itr", "this$0", "Ljava/util/ArrayList;", true)
def tyJx35411 : Nat → FieldType := fun k => match k with
  | 0 => .int
  | 1 => .int
  | 2 => .int
  | _ => .object "java/util/ArrayList"
abbrev wsJx354110 : List Cond := u_ws RJx35411 TJx35411 4
theorem nmJx35411 : ∀ a, a < 4 → ∀ b, b < 4 → a ≠ b → (TJx35411 a).2.1 ≠ (TJx35411 b).2.1 := by decide +kernel
theorem tyJx35411_ok : ∀ k, k < 4 → parseFieldDescriptor (TJx35411 k).2.2.1 = some (tyJx35411 k) := by decide +kernel
abbrev cJx35411_init_45d68 : ByteArray := prog_42_method_1_code
def yJx35411_init_45d68 : MethodName := ⟨RJx35411, "<init>", "(Ljava/util/ArrayList;)V"⟩
abbrev cJx35411_hasNext_aae02 : ByteArray := prog_42_method_2_code
def yJx35411_hasNext_aae02 : MethodName := ⟨RJx35411, "hasNext", "()Z"⟩
abbrev cJx35411_next_0502b : ByteArray := prog_42_method_3_code
def yJx35411_next_0502b : MethodName := ⟨RJx35411, "next", "()Ljava/lang/Object;"⟩
abbrev cJx35411_checkForComodification_da8c8 : ByteArray := prog_42_method_6_code
def yJx35411_checkForComodification_da8c8 : MethodName := ⟨RJx35411, "checkForComodification", "()V"⟩
def RJx4a65c : String := "java/util/ArrayList"
def TJx4a65c : u_T := fun k => match k with
  | 0 => ("java/util/AbstractList", "modCount", "I", false)
  | 1 => ("java/util/ArrayList", "elementData", "[Ljava/lang/Object;", false)
  | _ => ("java/util/ArrayList", "size", "I", false)
def tyJx4a65c : Nat → FieldType := fun k => match k with
  | 0 => .int
  | 1 => .array (.object "java/lang/Object")
  | _ => .int
abbrev wsJx4a65c0 : List Cond := u_ws RJx4a65c TJx4a65c 3
theorem nmJx4a65c : ∀ a, a < 3 → ∀ b, b < 3 → a ≠ b → (TJx4a65c a).2.1 ≠ (TJx4a65c b).2.1 := by decide +kernel
theorem tyJx4a65c_ok : ∀ k, k < 3 → parseFieldDescriptor (TJx4a65c k).2.2.1 = some (tyJx4a65c k) := by decide +kernel
abbrev cJx4a65c_init_da8c8 : ByteArray := prog_41_method_2_code
def yJx4a65c_init_da8c8 : MethodName := ⟨RJx4a65c, "<init>", "()V"⟩
abbrev cJx4a65c_grow_92f84 : ByteArray := prog_41_method_6_code
def yJx4a65c_grow_92f84 : MethodName := ⟨RJx4a65c, "grow", "(I)[Ljava/lang/Object;"⟩
abbrev cJx4a65c_grow_d5877 : ByteArray := prog_41_method_7_code
def yJx4a65c_grow_d5877 : MethodName := ⟨RJx4a65c, "grow", "()[Ljava/lang/Object;"⟩
abbrev cJx4a65c_size_8abf5 : ByteArray := prog_41_method_8_code
def yJx4a65c_size_8abf5 : MethodName := ⟨RJx4a65c, "size", "()I"⟩
abbrev cJx4a65c_isEmpty_aae02 : ByteArray := prog_41_method_9_code
def yJx4a65c_isEmpty_aae02 : MethodName := ⟨RJx4a65c, "isEmpty", "()Z"⟩
abbrev cJx4a65c_elementData_915e3 : ByteArray := prog_41_method_18_code
def yJx4a65c_elementData_915e3 : MethodName := ⟨RJx4a65c, "elementData", "(I)Ljava/lang/Object;"⟩
abbrev cJx4a65c_get_915e3 : ByteArray := prog_41_method_20_code
def yJx4a65c_get_915e3 : MethodName := ⟨RJx4a65c, "get", "(I)Ljava/lang/Object;"⟩
abbrev cJx4a65c_add_72be8 : ByteArray := prog_41_method_24_code
def yJx4a65c_add_72be8 : MethodName := ⟨RJx4a65c, "add", "(Ljava/lang/Object;[Ljava/lang/Object;I)V"⟩
abbrev cJx4a65c_add_9ea2d : ByteArray := prog_41_method_25_code
def yJx4a65c_add_9ea2d : MethodName := ⟨RJx4a65c, "add", "(Ljava/lang/Object;)Z"⟩
abbrev cJx4a65c_iterator_32c93 : ByteArray := prog_41_method_55_code
def yJx4a65c_iterator_32c93 : MethodName := ⟨RJx4a65c, "iterator", "()Ljava/util/Iterator;"⟩
def RJ7 : String := "java/util/Arrays"
def TJ7 : u_T := fun k => match k with
  | _ => ("", "", "", false)
def tyJ7 : Nat → FieldType := fun k => match k with
  | _ => .int
abbrev wsJ70 : List Cond := u_ws RJ7 TJ7 0
theorem nmJ7 : ∀ a, a < 0 → ∀ b, b < 0 → a ≠ b → (TJ7 a).2.1 ≠ (TJ7 b).2.1 := by decide +kernel
theorem tyJ7_ok : ∀ k, k < 0 → parseFieldDescriptor (TJ7 k).2.2.1 = some (tyJ7 k) := by decide +kernel
abbrev cJ7_fill_53178 : ByteArray := prog_43_method_103_code
def yJ7_fill_53178 : MethodName := ⟨RJ7, "fill", "([II)V"⟩
abbrev cJ7_copyOf_1904c : ByteArray := prog_43_method_119_code
def yJ7_copyOf_1904c : MethodName := ⟨RJ7, "copyOf", "([Ljava/lang/Object;I)[Ljava/lang/Object;"⟩
abbrev cJ7_copyOf_6403c : ByteArray := prog_43_method_120_code
def yJ7_copyOf_6403c : MethodName := ⟨RJ7, "copyOf", "([Ljava/lang/Object;ILjava/lang/Class;)[Ljava/lang/Object;"⟩
abbrev cJ7_copyOf_9075b : ByteArray := prog_43_method_121_code
def yJ7_copyOf_9075b : MethodName := ⟨RJ7, "copyOf", "([BI)[B"⟩
abbrev cJ7_checkLength_df160 : ByteArray := prog_43_method_131_code
def yJ7_checkLength_df160 : MethodName := ⟨RJ7, "checkLength", "(II)V"⟩
abbrev cJ7_copyOfRange_39247 : ByteArray := prog_43_method_132_code
def yJ7_copyOfRange_39247 : MethodName := ⟨RJ7, "copyOfRange", "([BII)[B"⟩
abbrev cJ7_copyOfRangeByte_39247 : ByteArray := prog_43_method_133_code
def yJ7_copyOfRangeByte_39247 : MethodName := ⟨RJ7, "copyOfRangeByte", "([BII)[B"⟩
def RJx5ef63 : String := "java/util/Collection"
def TJx5ef63 : u_T := fun k => match k with
  | _ => ("", "", "", false)
def tyJx5ef63 : Nat → FieldType := fun k => match k with
  | _ => .int
abbrev wsJx5ef630 : List Cond := u_ws RJx5ef63 TJx5ef63 0
theorem nmJx5ef63 : ∀ a, a < 0 → ∀ b, b < 0 → a ≠ b → (TJx5ef63 a).2.1 ≠ (TJx5ef63 b).2.1 := by decide +kernel
theorem tyJx5ef63_ok : ∀ k, k < 0 → parseFieldDescriptor (TJx5ef63 k).2.2.1 = some (tyJx5ef63 k) := by decide +kernel
def RJx4d0d8 : String := "java/util/Iterator"
def TJx4d0d8 : u_T := fun k => match k with
  | _ => ("", "", "", false)
def tyJx4d0d8 : Nat → FieldType := fun k => match k with
  | _ => .int
abbrev wsJx4d0d80 : List Cond := u_ws RJx4d0d8 TJx4d0d8 0
theorem nmJx4d0d8 : ∀ a, a < 0 → ∀ b, b < 0 → a ≠ b → (TJx4d0d8 a).2.1 ≠ (TJx4d0d8 b).2.1 := by decide +kernel
theorem tyJx4d0d8_ok : ∀ k, k < 0 → parseFieldDescriptor (TJx4d0d8 k).2.2.1 = some (tyJx4d0d8 k) := by decide +kernel
def RJxbd725 : String := "java/util/List"
def TJxbd725 : u_T := fun k => match k with
  | _ => ("", "", "", false)
def tyJxbd725 : Nat → FieldType := fun k => match k with
  | _ => .int
abbrev wsJxbd7250 : List Cond := u_ws RJxbd725 TJxbd725 0
theorem nmJxbd725 : ∀ a, a < 0 → ∀ b, b < 0 → a ≠ b → (TJxbd725 a).2.1 ≠ (TJxbd725 b).2.1 := by decide +kernel
theorem tyJxbd725_ok : ∀ k, k < 0 → parseFieldDescriptor (TJxbd725 k).2.2.1 = some (tyJxbd725 k) := by decide +kernel
def RJ15 : String := "java/util/Objects"
def TJ15 : u_T := fun k => match k with
  | _ => ("", "", "", false)
def tyJ15 : Nat → FieldType := fun k => match k with
  | _ => .int
abbrev wsJ150 : List Cond := u_ws RJ15 TJ15 0
theorem nmJ15 : ∀ a, a < 0 → ∀ b, b < 0 → a ≠ b → (TJ15 a).2.1 ≠ (TJ15 b).2.1 := by decide +kernel
theorem tyJ15_ok : ∀ k, k < 0 → parseFieldDescriptor (TJ15 k).2.2.1 = some (tyJ15 k) := by decide +kernel
abbrev cJ15_checkIndex_7cf53 : ByteArray := prog_47_method_17_code
def yJ15_checkIndex_7cf53 : MethodName := ⟨RJ15, "checkIndex", "(II)I"⟩
def RJxf0a74 : String := "java/util/RandomAccess"
def TJxf0a74 : u_T := fun k => match k with
  | _ => ("", "", "", false)
def tyJxf0a74 : Nat → FieldType := fun k => match k with
  | _ => .int
abbrev wsJxf0a740 : List Cond := u_ws RJxf0a74 TJxf0a74 0
theorem nmJxf0a74 : ∀ a, a < 0 → ∀ b, b < 0 → a ≠ b → (TJxf0a74 a).2.1 ≠ (TJxf0a74 b).2.1 := by decide +kernel
theorem tyJxf0a74_ok : ∀ k, k < 0 → parseFieldDescriptor (TJxf0a74 k).2.2.1 = some (tyJxf0a74 k) := by decide +kernel
def RJxa66e6 : String := "java/util/SequencedCollection"
def TJxa66e6 : u_T := fun k => match k with
  | _ => ("", "", "", false)
def tyJxa66e6 : Nat → FieldType := fun k => match k with
  | _ => .int
abbrev wsJxa66e60 : List Cond := u_ws RJxa66e6 TJxa66e6 0
theorem nmJxa66e6 : ∀ a, a < 0 → ∀ b, b < 0 → a ≠ b → (TJxa66e6 a).2.1 ≠ (TJxa66e6 b).2.1 := by decide +kernel
theorem tyJxa66e6_ok : ∀ k, k < 0 → parseFieldDescriptor (TJxa66e6 k).2.2.1 = some (tyJxa66e6 k) := by decide +kernel
def RJ8 : String := "jdk/internal/util/ArraysSupport"
def TJ8 : u_T := fun k => match k with
  | _ => ("", "", "", false)
def tyJ8 : Nat → FieldType := fun k => match k with
  | _ => .int
abbrev wsJ80 : List Cond := u_ws RJ8 TJ8 0
theorem nmJ8 : ∀ a, a < 0 → ∀ b, b < 0 → a ≠ b → (TJ8 a).2.1 ≠ (TJ8 b).2.1 := by decide +kernel
theorem tyJ8_ok : ∀ k, k < 0 → parseFieldDescriptor (TJ8 k).2.2.1 = some (tyJ8 k) := by decide +kernel
abbrev cJ8_newLength_cabcc : ByteArray := prog_50_method_27_code
def yJ8_newLength_cabcc : MethodName := ⟨RJ8, "newLength", "(III)I"⟩
abbrev cJ8_hugeLength_7cf53 : ByteArray := prog_50_method_28_code
def yJ8_hugeLength_7cf53 : MethodName := ⟨RJ8, "hugeLength", "(II)I"⟩
def RJ3 : String := "jdk/internal/util/Preconditions"
def TJ3 : u_T := fun k => match k with
  | _ => ("", "", "", false)
def tyJ3 : Nat → FieldType := fun k => match k with
  | _ => .int
abbrev wsJ30 : List Cond := u_ws RJ3 TJ3 0
theorem nmJ3 : ∀ a, a < 0 → ∀ b, b < 0 → a ≠ b → (TJ3 a).2.1 ≠ (TJ3 b).2.1 := by decide +kernel
theorem tyJ3_ok : ∀ k, k < 0 → parseFieldDescriptor (TJ3 k).2.2.1 = some (tyJ3 k) := by decide +kernel
abbrev cJ3_checkIndex_8e157 : ByteArray := prog_51_method_11_code
def yJ3_checkIndex_8e157 : MethodName := ⟨RJ3, "checkIndex", "(IILjava/util/function/BiFunction;)I"⟩
abbrev cJ3_checkFromToIndex_8c36e : ByteArray := prog_51_method_12_code
def yJ3_checkFromToIndex_8c36e : MethodName := ⟨RJ3, "checkFromToIndex", "(IIILjava/util/function/BiFunction;)I"⟩
abbrev cJ3_checkFromIndexSize_8c36e : ByteArray := prog_51_method_13_code
def yJ3_checkFromIndexSize_8c36e : MethodName := ⟨RJ3, "checkFromIndexSize", "(IIILjava/util/function/BiFunction;)I"⟩
def RL : String := "PawnRaceLaw"
abbrev cL_cell : ByteArray := method_2_code
def yL_cell : MethodName := ⟨RL, "cell", "([II)I"⟩
abbrev cL_pick : ByteArray := method_3_code
def yL_pick : MethodName := ⟨RL, "pick", "([III)I"⟩
abbrev cL_feeds : ByteArray := method_4_code
def yL_feeds : MethodName := ⟨RL, "feeds", "(LPawnRace;Ljava/lang/String;)Z"⟩
abbrev cL_alike : ByteArray := method_5_code
def yL_alike : MethodName := ⟨RL, "alike", "(LPawnRace;LPawnRaceLaw$World;)Z"⟩
abbrev cL_acts : ByteArray := method_6_code
def yL_acts : MethodName := ⟨RL, "acts", "(LPawnRace;LPawnRaceLaw$World;[II)Z"⟩
abbrev cL_law : ByteArray := code
def yL_law : MethodName := ⟨RL, "law", "([I)Z"⟩
abbrev cL_fields : ByteArray := method_8_code
def yL_fields : MethodName := ⟨RL, "fields", "(LPawnRace;LPawnRaceLaw$World;)Z"⟩
abbrev cL_gates : ByteArray := method_9_code
def yL_gates : MethodName := ⟨RL, "gates", "(LPawnRace;LPawnRaceLaw$World;)Z"⟩
abbrev cL_builds : ByteArray := method_10_code
def yL_builds : MethodName := ⟨RL, "builds", "(LPawnRace;LPawnRaceLaw$World;[II)Z"⟩
abbrev cL_plays : ByteArray := method_11_code
def yL_plays : MethodName := ⟨RL, "plays", "(LPawnRace;LPawnRaceLaw$World;)Z"⟩
abbrev vwCl : List vw_C := [(RX0, TX0, 9), (RX1, TX1, 4), (RX2, TX2, 5), (RX3, TX3, 3), (RX4, TX4, 6), (RX5, TX5, 7), (RX6, TX6, 8), (RX7, TX7, 9), (RX8, TX8, 10), (RX9, TX9, 13), (RX10, TX10, 4), (RX11, TX11, 14), (RX12, TX12, 11), (RJ0, TJ0, 4), (RJ4, TJ4, 4), (RJx35411, TJx35411, 4), (RJx4a65c, TJx4a65c, 3)]
