-- ===== PART A: goes FIRST, ahead of the names: the tables' words, and 'selects' of the private methods out of them =====
/-- a private method of a class that the tables say can be made, by its rows of tables_1 -/
def lw_okq (q : MethodName × Nat) : Prop := (q.1.cls ≠ "java/lang/invoke/MethodHandle" ∧ q.1.cls ≠ "java/lang/invoke/VarHandle") ∧ Cond.instantiable q.1.cls q.2 ∈ tables_1 ∧ Cond.privateMethod q.1 ∈ tables_1 ∧ Cond.instanceMethod q.1 ∈ tables_1
theorem lw_p0 : lw_okq (⟨"OneRowSeeds", "record", "()V"⟩, 7) := ⟨⟨by decide +kernel, by decide +kernel⟩, List.mem_of_getElem? (i := 10) (by decide +kernel), List.mem_of_getElem? (i := 165) (by decide +kernel), List.mem_of_getElem? (i := 166) (by decide +kernel)⟩
theorem lw_p1 : lw_okq (⟨"OneRowSeeds", "dropOldest", "()V"⟩, 7) := ⟨⟨by decide +kernel, by decide +kernel⟩, List.mem_of_getElem? (i := 10) (by decide +kernel), List.mem_of_getElem? (i := 169) (by decide +kernel), List.mem_of_getElem? (i := 170) (by decide +kernel)⟩
theorem lw_p2 : lw_okq (⟨"OneRowSeeds$Search", "slotOf", "(I)I"⟩, 3) := ⟨⟨by decide +kernel, by decide +kernel⟩, List.mem_of_getElem? (i := 108) (by decide +kernel), List.mem_of_getElem? (i := 270) (by decide +kernel), List.mem_of_getElem? (i := 271) (by decide +kernel)⟩
theorem lw_p3 : lw_okq (⟨"OneRowSeeds$Sowing", "endsAmongSeeds", "(I)Z"⟩, 5) := ⟨⟨by decide +kernel, by decide +kernel⟩, List.mem_of_getElem? (i := 80) (by decide +kernel), List.mem_of_getElem? (i := 282) (by decide +kernel), List.mem_of_getElem? (i := 283) (by decide +kernel)⟩
theorem lw_p4 : lw_okq (⟨"OneRowSeeds$Search", "mostIn", "(I)I"⟩, 3) := ⟨⟨by decide +kernel, by decide +kernel⟩, List.mem_of_getElem? (i := 108) (by decide +kernel), List.mem_of_getElem? (i := 296) (by decide +kernel), List.mem_of_getElem? (i := 297) (by decide +kernel)⟩
theorem lw_p5 : lw_okq (⟨"OneRowSeeds$Search", "fewestIn", "(I)I"⟩, 3) := ⟨⟨by decide +kernel, by decide +kernel⟩, List.mem_of_getElem? (i := 108) (by decide +kernel), List.mem_of_getElem? (i := 300) (by decide +kernel), List.mem_of_getElem? (i := 301) (by decide +kernel)⟩
theorem lw_p6 : lw_okq (⟨"OneRowSeeds", "isPit", "(I)Z"⟩, 7) := ⟨⟨by decide +kernel, by decide +kernel⟩, List.mem_of_getElem? (i := 10) (by decide +kernel), List.mem_of_getElem? (i := 343) (by decide +kernel), List.mem_of_getElem? (i := 344) (by decide +kernel)⟩
theorem lw_p7 : lw_okq (⟨"OneRowSeeds", "makeMove", "(I)V"⟩, 7) := ⟨⟨by decide +kernel, by decide +kernel⟩, List.mem_of_getElem? (i := 10) (by decide +kernel), List.mem_of_getElem? (i := 363) (by decide +kernel), List.mem_of_getElem? (i := 364) (by decide +kernel)⟩
def lw_privs_1 : List (MethodName × Nat) := [(⟨"OneRowSeeds", "record", "()V"⟩, 7), (⟨"OneRowSeeds", "dropOldest", "()V"⟩, 7), (⟨"OneRowSeeds$Search", "slotOf", "(I)I"⟩, 3), (⟨"OneRowSeeds$Sowing", "endsAmongSeeds", "(I)Z"⟩, 5), (⟨"OneRowSeeds$Search", "mostIn", "(I)I"⟩, 3), (⟨"OneRowSeeds$Search", "fewestIn", "(I)I"⟩, 3), (⟨"OneRowSeeds", "isPit", "(I)Z"⟩, 7), (⟨"OneRowSeeds", "makeMove", "(I)V"⟩, 7)]
theorem lw_r1 : ∀ q ∈ lw_privs_1, lw_okq q := List.forall_mem_cons.mpr ⟨lw_p0, List.forall_mem_cons.mpr ⟨lw_p1, List.forall_mem_cons.mpr ⟨lw_p2, List.forall_mem_cons.mpr ⟨lw_p3, List.forall_mem_cons.mpr ⟨lw_p4, List.forall_mem_cons.mpr ⟨lw_p5, List.forall_mem_cons.mpr ⟨lw_p6, List.forall_mem_cons.mpr ⟨lw_p7, fun _ h => absurd h List.not_mem_nil⟩⟩⟩⟩⟩⟩⟩⟩
def lw_privs : List (MethodName × Nat) := lw_privs_1
def lw_tbl : List Cond := k2_sels lw_privs ++ tables_1
theorem lw_privs_ok : ∀ q ∈ lw_privs, lw_okq q := lw_r1
def RL : String := "OneRowSeedsLaw"
def RX0 : String := "OneRowSeeds$Pad"
def TX0 : u_T := fun k => match k with
  | 0 => ("OneRowSeeds$Pad", "characters", "[I", true)
  | 1 => ("OneRowSeeds$Pad", "length", "I", false)
  | 2 => ("OneRowSeeds$Pad", "pitsRead", "I", false)
  | 3 => ("OneRowSeeds$Pad", "seedsRead", "I", false)
  | _ => ("OneRowSeeds$Pad", "positionRead", "I", false)
def tyX0 : Nat → FieldType := fun k => match k with
  | 0 => .array .int
  | 1 => .int
  | 2 => .int
  | 3 => .int
  | _ => .int
theorem nmX0 : ∀ a, a < 5 → ∀ b, b < 5 → a ≠ b → (TX0 a).2.1 ≠ (TX0 b).2.1 := by decide +kernel
theorem tyX0_ok : ∀ k, k < 5 → parseFieldDescriptor (TX0 k).2.2.1 = some (tyX0 k) := by decide +kernel
abbrev cX0_init : ByteArray := prog_2_method_1_code
def yX0_init : MethodName := ⟨RX0, "<init>", "()V"⟩
def RX1 : String := "OneRowSeeds$Row"
def TX1 : u_T := fun k => match k with
  | _ => ("", "", "", false)
def tyX1 : Nat → FieldType := fun k => match k with
  | _ => .int
theorem nmX1 : ∀ a, a < 0 → ∀ b, b < 0 → a ≠ b → (TX1 a).2.1 ≠ (TX1 b).2.1 := by decide +kernel
theorem tyX1_ok : ∀ k, k < 0 → parseFieldDescriptor (TX1 k).2.2.1 = some (tyX1 k) := by decide +kernel
abbrev cX1_seedsAt : ByteArray := prog_3_method_2_code
def yX1_seedsAt : MethodName := ⟨RX1, "seedsAt", "(II)I"⟩
abbrev cX1_seeds : ByteArray := prog_3_method_3_code
def yX1_seeds : MethodName := ⟨RX1, "seeds", "(II)I"⟩
abbrev cX1_next : ByteArray := prog_3_method_4_code
def yX1_next : MethodName := ⟨RX1, "next", "(II)I"⟩
abbrev cX1_lives : ByteArray := prog_3_method_5_code
def yX1_lives : MethodName := ⟨RX1, "lives", "(I)I"⟩
abbrev cX1_isLost : ByteArray := prog_3_method_6_code
def yX1_isLost : MethodName := ⟨RX1, "isLost", "(I)Z"⟩
abbrev cX1_afterWrongMove : ByteArray := prog_3_method_7_code
def yX1_afterWrongMove : MethodName := ⟨RX1, "afterWrongMove", "(I)I"⟩
abbrev cX1_inPits : ByteArray := prog_3_method_8_code
def yX1_inPits : MethodName := ⟨RX1, "inPits", "(II)I"⟩
abbrev cX1_pitsWithSeeds : ByteArray := prog_3_method_9_code
def yX1_pitsWithSeeds : MethodName := ⟨RX1, "pitsWithSeeds", "(II)I"⟩
abbrev cX1_evenly : ByteArray := prog_3_method_10_code
def yX1_evenly : MethodName := ⟨RX1, "evenly", "(II)I"⟩
abbrev cX1_lastOfFirstLap : ByteArray := prog_3_method_11_code
def yX1_lastOfFirstLap : MethodName := ⟨RX1, "lastOfFirstLap", "(III)I"⟩
abbrev cX1_exactFromStore : ByteArray := prog_3_method_12_code
def yX1_exactFromStore : MethodName := ⟨RX1, "exactFromStore", "(I)I"⟩
abbrev cX1_farthest : ByteArray := prog_3_method_13_code
def yX1_farthest : MethodName := ⟨RX1, "farthest", "(I)I"⟩
abbrev cX1_turnedRound : ByteArray := prog_3_method_14_code
def yX1_turnedRound : MethodName := ⟨RX1, "turnedRound", "(II)I"⟩
def RX2 : String := "OneRowSeeds$Search"
def TX2 : u_T := fun k => match k with
  | 0 => ("OneRowSeeds$Search", "table", "[J", true)
  | 1 => ("OneRowSeeds$Search", "sowing", "LOneRowSeeds$Sowing;", true)
  | _ => ("OneRowSeeds$Search", "found", "I", false)
def tyX2 : Nat → FieldType := fun k => match k with
  | 0 => .array .long
  | 1 => .object "OneRowSeeds$Sowing"
  | _ => .int
theorem nmX2 : ∀ a, a < 3 → ∀ b, b < 3 → a ≠ b → (TX2 a).2.1 ≠ (TX2 b).2.1 := by decide +kernel
theorem tyX2_ok : ∀ k, k < 3 → parseFieldDescriptor (TX2 k).2.2.1 = some (tyX2 k) := by decide +kernel
abbrev cX2_init : ByteArray := prog_4_method_1_code
def yX2_init : MethodName := ⟨RX2, "<init>", "()V"⟩
abbrev cX2_explore : ByteArray := prog_4_method_2_code
def yX2_explore : MethodName := ⟨RX2, "explore", "(LOneRowSeeds$State;)V"⟩
abbrev cX2_visit : ByteArray := prog_4_method_3_code
def yX2_visit : MethodName := ⟨RX2, "visit", "(LOneRowSeeds$Search;LOneRowSeeds$State;II)I"⟩
abbrev cX2_slotOf : ByteArray := prog_4_method_4_code
def yX2_slotOf : MethodName := ⟨RX2, "slotOf", "(I)I"⟩
abbrev cX2_mostIn : ByteArray := prog_4_method_5_code
def yX2_mostIn : MethodName := ⟨RX2, "mostIn", "(I)I"⟩
abbrev cX2_fewestIn : ByteArray := prog_4_method_6_code
def yX2_fewestIn : MethodName := ⟨RX2, "fewestIn", "(I)I"⟩
abbrev cX2_mostFrom : ByteArray := prog_4_method_7_code
def yX2_mostFrom : MethodName := ⟨RX2, "mostFrom", "(LOneRowSeeds$State;I)I"⟩
abbrev cX2_fewestFrom : ByteArray := prog_4_method_8_code
def yX2_fewestFrom : MethodName := ⟨RX2, "fewestFrom", "(I)I"⟩
abbrev cX2_firstMove : ByteArray := prog_4_method_9_code
def yX2_firstMove : MethodName := ⟨RX2, "firstMove", "(LOneRowSeeds$State;I)I"⟩
def RX3 : String := "OneRowSeeds$Sowing"
def TX3 : u_T := fun k => match k with
  | 0 => ("OneRowSeeds$Sowing", "position", "I", false)
  | 1 => ("OneRowSeeds$Sowing", "last", "I", false)
  | 2 => ("OneRowSeeds$Sowing", "laps", "I", false)
  | 3 => ("OneRowSeeds$Sowing", "gained", "I", false)
  | _ => ("OneRowSeeds$Sowing", "wrong", "Z", false)
def tyX3 : Nat → FieldType := fun k => match k with
  | 0 => .int
  | 1 => .int
  | 2 => .int
  | 3 => .int
  | _ => .boolean
theorem nmX3 : ∀ a, a < 5 → ∀ b, b < 5 → a ≠ b → (TX3 a).2.1 ≠ (TX3 b).2.1 := by decide +kernel
theorem tyX3_ok : ∀ k, k < 5 → parseFieldDescriptor (TX3 k).2.2.1 = some (tyX3 k) := by decide +kernel
abbrev cX3_init : ByteArray := prog_5_method_1_code
def yX3_init : MethodName := ⟨RX3, "<init>", "()V"⟩
abbrev cX3_make : ByteArray := prog_5_method_2_code
def yX3_make : MethodName := ⟨RX3, "make", "(LOneRowSeeds$State;II)V"⟩
abbrev cX3_endsAmongSeeds : ByteArray := prog_5_method_3_code
def yX3_endsAmongSeeds : MethodName := ⟨RX3, "endsAmongSeeds", "(I)Z"⟩
def RX4 : String := "OneRowSeeds$State"
def TX4 : u_T := fun k => match k with
  | 0 => ("OneRowSeeds$State", "settings", "[I", true)
  | 1 => ("OneRowSeeds$State", "pits", "I", false)
  | 2 => ("OneRowSeeds$State", "position", "I", false)
  | 3 => ("OneRowSeeds$State", "moves", "I", false)
  | 4 => ("OneRowSeeds$State", "kept", "I", false)
  | 5 => ("OneRowSeeds$State", "keptPits", "[I", true)
  | 6 => ("OneRowSeeds$State", "keptLaps", "[I", true)
  | _ => ("OneRowSeeds$State", "keptAhead", "[I", true)
def tyX4 : Nat → FieldType := fun k => match k with
  | 0 => .array .int
  | 1 => .int
  | 2 => .int
  | 3 => .int
  | 4 => .int
  | 5 => .array .int
  | 6 => .array .int
  | _ => .array .int
theorem nmX4 : ∀ a, a < 8 → ∀ b, b < 8 → a ≠ b → (TX4 a).2.1 ≠ (TX4 b).2.1 := by decide +kernel
theorem tyX4_ok : ∀ k, k < 8 → parseFieldDescriptor (TX4 k).2.2.1 = some (tyX4 k) := by decide +kernel
abbrev cX4_init : ByteArray := prog_6_method_1_code
def yX4_init : MethodName := ⟨RX4, "<init>", "()V"⟩
abbrev cX4_copyFrom : ByteArray := prog_6_method_2_code
def yX4_copyFrom : MethodName := ⟨RX4, "copyFrom", "(LOneRowSeeds$State;)V"⟩
abbrev cX4_startRound : ByteArray := prog_6_method_3_code
def yX4_startRound : MethodName := ⟨RX4, "startRound", "(II)V"⟩
abbrev cX4_store : ByteArray := prog_6_method_4_code
def yX4_store : MethodName := ⟨RX4, "store", "()I"⟩
abbrev cX4_canSow : ByteArray := prog_6_method_5_code
def yX4_canSow : MethodName := ⟨RX4, "canSow", "(II)Z"⟩
abbrev cX4_sowable : ByteArray := prog_6_method_6_code
def yX4_sowable : MethodName := ⟨RX4, "sowable", "(I)I"⟩
abbrev cX4_how : ByteArray := prog_6_method_7_code
def yX4_how : MethodName := ⟨RX4, "how", "(I)I"⟩
abbrev cX4_keep : ByteArray := prog_6_method_8_code
def yX4_keep : MethodName := ⟨RX4, "keep", "(II)V"⟩
abbrev cX4_forgetOldest : ByteArray := prog_6_method_9_code
def yX4_forgetOldest : MethodName := ⟨RX4, "forgetOldest", "()V"⟩
abbrev cX4_takeBack : ByteArray := prog_6_method_10_code
def yX4_takeBack : MethodName := ⟨RX4, "takeBack", "()I"⟩
abbrev cX4_keptPit : ByteArray := prog_6_method_11_code
def yX4_keptPit : MethodName := ⟨RX4, "keptPit", "(I)I"⟩
abbrev cX4_latestLaps : ByteArray := prog_6_method_12_code
def yX4_latestLaps : MethodName := ⟨RX4, "latestLaps", "()I"⟩
def RX5 : String := "OneRowSeeds"
def TX5 : u_T := fun k => match k with
  | 0 => ("OneRowSeeds", "now", "LOneRowSeeds$State;", true)
  | 1 => ("OneRowSeeds", "history", "[LOneRowSeeds$State;", true)
  | 2 => ("OneRowSeeds", "undoable", "I", false)
  | 3 => ("OneRowSeeds", "slots", "[LOneRowSeeds$State;", true)
  | 4 => ("OneRowSeeds", "pad", "LOneRowSeeds$Pad;", true)
  | 5 => ("OneRowSeeds", "sowing", "LOneRowSeeds$Sowing;", true)
  | _ => ("OneRowSeeds", "search", "LOneRowSeeds$Search;", true)
def tyX5 : Nat → FieldType := fun k => match k with
  | 0 => .object "OneRowSeeds$State"
  | 1 => .array (.object "OneRowSeeds$State")
  | 2 => .int
  | 3 => .array (.object "OneRowSeeds$State")
  | 4 => .object "OneRowSeeds$Pad"
  | 5 => .object "OneRowSeeds$Sowing"
  | _ => .object "OneRowSeeds$Search"
theorem nmX5 : ∀ a, a < 7 → ∀ b, b < 7 → a ≠ b → (TX5 a).2.1 ≠ (TX5 b).2.1 := by decide +kernel
theorem tyX5_ok : ∀ k, k < 7 → parseFieldDescriptor (TX5 k).2.2.1 = some (tyX5 k) := by decide +kernel
abbrev cX5_init : ByteArray := prog_1_method_1_code
def yX5_init : MethodName := ⟨RX5, "<init>", "()V"⟩
abbrev cX5_set : ByteArray := prog_1_method_2_code
def yX5_set : MethodName := ⟨RX5, "set", "(II)I"⟩
abbrev cX5_begin : ByteArray := prog_1_method_3_code
def yX5_begin : MethodName := ⟨RX5, "begin", "(II)I"⟩
abbrev cX5_loadExact : ByteArray := prog_1_method_5_code
def yX5_loadExact : MethodName := ⟨RX5, "loadExact", "(II)I"⟩
abbrev cX5_sow : ByteArray := prog_1_method_6_code
def yX5_sow : MethodName := ⟨RX5, "sow", "(I)I"⟩
abbrev cX5_back : ByteArray := prog_1_method_7_code
def yX5_back : MethodName := ⟨RX5, "back", "()I"⟩
abbrev cX5_pit : ByteArray := prog_1_method_9_code
def yX5_pit : MethodName := ⟨RX5, "pit", "(I)I"⟩
abbrev cX5_count : ByteArray := prog_1_method_10_code
def yX5_count : MethodName := ⟨RX5, "count", "(I)I"⟩
abbrev cX5_move : ByteArray := prog_1_method_11_code
def yX5_move : MethodName := ⟨RX5, "move", "(I)I"⟩
abbrev cX5_ifSown : ByteArray := prog_1_method_12_code
def yX5_ifSown : MethodName := ⟨RX5, "ifSown", "(II)I"⟩
abbrev cX5_ifSownHas : ByteArray := prog_1_method_13_code
def yX5_ifSownHas : MethodName := ⟨RX5, "ifSownHas", "(II)I"⟩
abbrev cX5_best : ByteArray := prog_1_method_14_code
def yX5_best : MethodName := ⟨RX5, "best", "(I)I"⟩
abbrev cX5_exact : ByteArray := prog_1_method_15_code
def yX5_exact : MethodName := ⟨RX5, "exact", "(II)I"⟩
abbrev cX5_isRowLength : ByteArray := prog_1_method_22_code
def yX5_isRowLength : MethodName := ⟨RX5, "isRowLength", "(I)Z"⟩
abbrev cX5_isPit : ByteArray := prog_1_method_23_code
def yX5_isPit : MethodName := ⟨RX5, "isPit", "(I)Z"⟩
abbrev cX5_makeMove : ByteArray := prog_1_method_24_code
def yX5_makeMove : MethodName := ⟨RX5, "makeMove", "(I)V"⟩
abbrev cX5_record : ByteArray := prog_1_method_25_code
def yX5_record : MethodName := ⟨RX5, "record", "()V"⟩
abbrev cX5_dropOldest : ByteArray := prog_1_method_26_code
def yX5_dropOldest : MethodName := ⟨RX5, "dropOldest", "()V"⟩
def RX6 : String := "OneRowSeedsModel"
def TX6 : u_T := fun k => match k with
  | _ => ("", "", "", false)
def tyX6 : Nat → FieldType := fun k => match k with
  | _ => .int
theorem nmX6 : ∀ a, a < 0 → ∀ b, b < 0 → a ≠ b → (TX6 a).2.1 ≠ (TX6 b).2.1 := by decide +kernel
theorem tyX6_ok : ∀ k, k < 0 → parseFieldDescriptor (TX6 k).2.2.1 = some (tyX6 k) := by decide +kernel
abbrev cL_cell : ByteArray := method_2_code
def yL_cell : MethodName := ⟨RL, "cell", "([II)I"⟩
abbrev cL_low : ByteArray := method_3_code
def yL_low : MethodName := ⟨RL, "low", "(II)I"⟩
abbrev cL_canSow : ByteArray := method_4_code
def yL_canSow : MethodName := ⟨RL, "canSow", "(LOneRowSeeds;I)Z"⟩
abbrev cL_state : ByteArray := method_5_code
def yL_state : MethodName := ⟨RL, "state", "(LOneRowSeeds;)Z"⟩
abbrev cL_sown : ByteArray := method_6_code
def yL_sown : MethodName := ⟨RL, "sown", "(LOneRowSeeds;I)Z"⟩
abbrev cL_same : ByteArray := method_7_code
def yL_same : MethodName := ⟨RL, "same", "(LOneRowSeeds;[I)Z"⟩
abbrev cL_exact : ByteArray := method_8_code
def yL_exact : MethodName := ⟨RL, "exact", "(LOneRowSeeds;I)Z"⟩
abbrev cL_law : ByteArray := code
def yL_law : MethodName := ⟨RL, "law", "([I)Z"⟩
abbrev vwCl : List vw_C := [(RX0, TX0, 5), (RX2, TX2, 3), (RX3, TX3, 5), (RX4, TX4, 8), (RX5, TX5, 7)]
abbrev wsX00 : List Cond := u_ws RX0 TX0 5
abbrev wsX20 : List Cond := u_ws RX2 TX2 3
abbrev wsX30 : List Cond := u_ws RX3 TX3 5
abbrev wsX40 : List Cond := u_ws RX4 TX4 8
abbrev wsX50 : List Cond := u_ws RX5 TX5 7
def oz_gt : List Cond := lw_tbl.filter goodWord
theorem oz_gtw {w : Cond} {i : Nat} (h : tables_1[i]? = some w) (hg : goodWord w = true) : w ∈ oz_gt := List.mem_filter.mpr ⟨List.mem_append_right _ (List.mem_of_getElem? h), hg⟩
theorem oz_gts {w : Cond} {i : Nat} (h : (k2_sels lw_privs)[i]? = some w) (hg : goodWord w = true) : w ∈ oz_gt := List.mem_filter.mpr ⟨List.mem_append_left _ (List.mem_of_getElem? h), hg⟩
abbrev oz_P : Type := List (Nat × Instr)
def fl_X0 : List (Nat × Nat × Nat) := [(11, 0, 0), (15, 0, 1)]
def oz_fok (own : String) (q : Nat × Nat × Nat) : Prop := ∃ r : vw_C, vwCl[q.2.1]? = some r ∧ q.2.2 < r.2.2 ∧ Cond.fieldLink own q.1 (r.2.1 q.2.2).1 (r.2.1 q.2.2).2.1 (r.2.1 q.2.2).2.2.1 ∈ oz_gt
theorem fl_X0_ok : ∀ q ∈ fl_X0, oz_fok RX0 q := List.forall_mem_cons.mpr ⟨⟨_, rfl, by decide, oz_gtw (i := 65) (by decide +kernel) rfl⟩, List.forall_mem_cons.mpr ⟨⟨_, rfl, by decide, oz_gtw (i := 66) (by decide +kernel) rfl⟩, (fun _ h => absurd h List.not_mem_nil)⟩⟩
def kt_X0 : List (Nat × Int32) := []
theorem kt_X0_ok : ∀ q ∈ kt_X0, Cond.constant RX0 q.1 q.2 ∈ oz_gt := (fun _ h => absurd h List.not_mem_nil)
def lt_X0 : List (Nat × Int64) := []
theorem lt_X0_ok : ∀ q ∈ lt_X0, Cond.constantLong RX0 q.1 q.2 ∈ oz_gt := (fun _ h => absurd h List.not_mem_nil)
def cn_X0 : List (Nat × Nat) := []
def oz_cok (own : String) (q : Nat × Nat) : Prop := ∃ r : vw_C, vwCl[q.2]? = some r ∧ Cond.classLink own q.1 r.1 ∈ oz_gt ∧ Cond.instantiable r.1 r.2.2 ∈ oz_gt ∧ Cond.initialized r.1 ∈ oz_gt
theorem cn_X0_ok : ∀ q ∈ cn_X0, oz_cok RX0 q := (fun _ h => absurd h List.not_mem_nil)
def fl_X1 : List (Nat × Nat × Nat) := []
theorem fl_X1_ok : ∀ q ∈ fl_X1, oz_fok RX1 q := (fun _ h => absurd h List.not_mem_nil)
def kt_X1 : List (Nat × Int32) := [(11, nI 268435456), (12, nI 536870912)]
theorem kt_X1_ok : ∀ q ∈ kt_X1, Cond.constant RX1 q.1 q.2 ∈ oz_gt := List.forall_mem_cons.mpr ⟨oz_gtw (i := 251) (by decide +kernel) rfl, List.forall_mem_cons.mpr ⟨oz_gtw (i := 232) (by decide +kernel) rfl, (fun _ h => absurd h List.not_mem_nil)⟩⟩
def lt_X1 : List (Nat × Int64) := []
theorem lt_X1_ok : ∀ q ∈ lt_X1, Cond.constantLong RX1 q.1 q.2 ∈ oz_gt := (fun _ h => absurd h List.not_mem_nil)
def cn_X1 : List (Nat × Nat) := []
theorem cn_X1_ok : ∀ q ∈ cn_X1, oz_cok RX1 q := (fun _ h => absurd h List.not_mem_nil)
def fl_X2 : List (Nat × Nat × Nat) := [(11, 1, 0), (18, 1, 1), (22, 1, 2), (26, 3, 2), (45, 3, 1), (63, 2, 0)]
theorem fl_X2_ok : ∀ q ∈ fl_X2, oz_fok RX2 q := List.forall_mem_cons.mpr ⟨⟨_, rfl, by decide, oz_gtw (i := 115) (by decide +kernel) rfl⟩, List.forall_mem_cons.mpr ⟨⟨_, rfl, by decide, oz_gtw (i := 116) (by decide +kernel) rfl⟩, List.forall_mem_cons.mpr ⟨⟨_, rfl, by decide, oz_gtw (i := 117) (by decide +kernel) rfl⟩, List.forall_mem_cons.mpr ⟨⟨_, rfl, by decide, oz_gtw (i := 31) (by decide +kernel) rfl⟩, List.forall_mem_cons.mpr ⟨⟨_, rfl, by decide, oz_gtw (i := 28) (by decide +kernel) rfl⟩, List.forall_mem_cons.mpr ⟨⟨_, rfl, by decide, oz_gtw (i := 86) (by decide +kernel) rfl⟩, (fun _ h => absurd h List.not_mem_nil)⟩⟩⟩⟩⟩⟩
def kt_X2 : List (Nat × Int32) := [(78, (-1640531535))]
theorem kt_X2_ok : ∀ q ∈ kt_X2, Cond.constant RX2 q.1 q.2 ∈ oz_gt := List.forall_mem_cons.mpr ⟨oz_gtw (i := 273) (by decide +kernel) rfl, (fun _ h => absurd h List.not_mem_nil)⟩
def lt_X2 : List (Nat × Int64) := []
theorem lt_X2_ok : ∀ q ∈ lt_X2, Cond.constantLong RX2 q.1 q.2 ∈ oz_gt := (fun _ h => absurd h List.not_mem_nil)
def cn_X2 : List (Nat × Nat) := [(15, 2)]
theorem cn_X2_ok : ∀ q ∈ cn_X2, oz_cok RX2 q := List.forall_mem_cons.mpr ⟨⟨_, rfl, oz_gtw (i := 113) (by decide +kernel) rfl, oz_gtw (i := 80) (by decide +kernel) rfl, oz_gtw (i := 4) (by decide +kernel) rfl⟩, (fun _ h => absurd h List.not_mem_nil)⟩
def fl_X3 : List (Nat × Nat × Nat) := [(9, 2, 0), (15, 2, 1), (18, 2, 2), (21, 3, 1), (30, 3, 0), (40, 2, 3), (43, 2, 4)]
theorem fl_X3_ok : ∀ q ∈ fl_X3, oz_fok RX3 q := List.forall_mem_cons.mpr ⟨⟨_, rfl, by decide, oz_gtw (i := 85) (by decide +kernel) rfl⟩, List.forall_mem_cons.mpr ⟨⟨_, rfl, by decide, oz_gtw (i := 88) (by decide +kernel) rfl⟩, List.forall_mem_cons.mpr ⟨⟨_, rfl, by decide, oz_gtw (i := 90) (by decide +kernel) rfl⟩, List.forall_mem_cons.mpr ⟨⟨_, rfl, by decide, oz_gtw (i := 27) (by decide +kernel) rfl⟩, List.forall_mem_cons.mpr ⟨⟨_, rfl, by decide, oz_gtw (i := 25) (by decide +kernel) rfl⟩, List.forall_mem_cons.mpr ⟨⟨_, rfl, by decide, oz_gtw (i := 92) (by decide +kernel) rfl⟩, List.forall_mem_cons.mpr ⟨⟨_, rfl, by decide, oz_gtw (i := 94) (by decide +kernel) rfl⟩, (fun _ h => absurd h List.not_mem_nil)⟩⟩⟩⟩⟩⟩⟩
def kt_X3 : List (Nat × Int32) := []
theorem kt_X3_ok : ∀ q ∈ kt_X3, Cond.constant RX3 q.1 q.2 ∈ oz_gt := (fun _ h => absurd h List.not_mem_nil)
def lt_X3 : List (Nat × Int64) := []
theorem lt_X3_ok : ∀ q ∈ lt_X3, Cond.constantLong RX3 q.1 q.2 ∈ oz_gt := (fun _ h => absurd h List.not_mem_nil)
def cn_X3 : List (Nat × Nat) := []
theorem cn_X3_ok : ∀ q ∈ cn_X3, oz_cok RX3 q := (fun _ h => absurd h List.not_mem_nil)
def fl_X4 : List (Nat × Nat × Nat) := [(9, 3, 0), (15, 3, 5), (18, 3, 6), (21, 3, 7), (30, 3, 1), (34, 3, 2), (37, 3, 3), (40, 3, 4)]
theorem fl_X4_ok : ∀ q ∈ fl_X4, oz_fok RX4 q := List.forall_mem_cons.mpr ⟨⟨_, rfl, by decide, oz_gtw (i := 23) (by decide +kernel) rfl⟩, List.forall_mem_cons.mpr ⟨⟨_, rfl, by decide, oz_gtw (i := 37) (by decide +kernel) rfl⟩, List.forall_mem_cons.mpr ⟨⟨_, rfl, by decide, oz_gtw (i := 38) (by decide +kernel) rfl⟩, List.forall_mem_cons.mpr ⟨⟨_, rfl, by decide, oz_gtw (i := 39) (by decide +kernel) rfl⟩, List.forall_mem_cons.mpr ⟨⟨_, rfl, by decide, oz_gtw (i := 26) (by decide +kernel) rfl⟩, List.forall_mem_cons.mpr ⟨⟨_, rfl, by decide, oz_gtw (i := 30) (by decide +kernel) rfl⟩, List.forall_mem_cons.mpr ⟨⟨_, rfl, by decide, oz_gtw (i := 33) (by decide +kernel) rfl⟩, List.forall_mem_cons.mpr ⟨⟨_, rfl, by decide, oz_gtw (i := 35) (by decide +kernel) rfl⟩, (fun _ h => absurd h List.not_mem_nil)⟩⟩⟩⟩⟩⟩⟩⟩
def kt_X4 : List (Nat × Int32) := [(45, nI 268435456)]
theorem kt_X4_ok : ∀ q ∈ kt_X4, Cond.constant RX4 q.1 q.2 ∈ oz_gt := List.forall_mem_cons.mpr ⟨oz_gtw (i := 137) (by decide +kernel) rfl, (fun _ h => absurd h List.not_mem_nil)⟩
def lt_X4 : List (Nat × Int64) := []
theorem lt_X4_ok : ∀ q ∈ lt_X4, Cond.constantLong RX4 q.1 q.2 ∈ oz_gt := (fun _ h => absurd h List.not_mem_nil)
def cn_X4 : List (Nat × Nat) := []
theorem cn_X4_ok : ∀ q ∈ cn_X4, oz_cok RX4 q := (fun _ h => absurd h List.not_mem_nil)
def fl_X5 : List (Nat × Nat × Nat) := [(10, 4, 0), (16, 4, 1), (20, 4, 2), (24, 4, 3), (30, 4, 4), (37, 4, 5), (44, 4, 6), (61, 3, 0), (82, 0, 1), (101, 3, 2), (112, 2, 3), (115, 3, 4), (138, 3, 1), (150, 3, 3), (166, 2, 1), (169, 2, 2), (172, 2, 4), (176, 2, 0), (177, 1, 2)]
theorem fl_X5_ok : ∀ q ∈ fl_X5, oz_fok RX5 q := List.forall_mem_cons.mpr ⟨⟨_, rfl, by decide, oz_gtw (i := 138) (by decide +kernel) rfl⟩, List.forall_mem_cons.mpr ⟨⟨_, rfl, by decide, oz_gtw (i := 139) (by decide +kernel) rfl⟩, List.forall_mem_cons.mpr ⟨⟨_, rfl, by decide, oz_gtw (i := 140) (by decide +kernel) rfl⟩, List.forall_mem_cons.mpr ⟨⟨_, rfl, by decide, oz_gtw (i := 141) (by decide +kernel) rfl⟩, List.forall_mem_cons.mpr ⟨⟨_, rfl, by decide, oz_gtw (i := 142) (by decide +kernel) rfl⟩, List.forall_mem_cons.mpr ⟨⟨_, rfl, by decide, oz_gtw (i := 143) (by decide +kernel) rfl⟩, List.forall_mem_cons.mpr ⟨⟨_, rfl, by decide, oz_gtw (i := 144) (by decide +kernel) rfl⟩, List.forall_mem_cons.mpr ⟨⟨_, rfl, by decide, oz_gtw (i := 24) (by decide +kernel) rfl⟩, List.forall_mem_cons.mpr ⟨⟨_, rfl, by decide, oz_gtw (i := 67) (by decide +kernel) rfl⟩, List.forall_mem_cons.mpr ⟨⟨_, rfl, by decide, oz_gtw (i := 32) (by decide +kernel) rfl⟩, List.forall_mem_cons.mpr ⟨⟨_, rfl, by decide, oz_gtw (i := 93) (by decide +kernel) rfl⟩, List.forall_mem_cons.mpr ⟨⟨_, rfl, by decide, oz_gtw (i := 36) (by decide +kernel) rfl⟩, List.forall_mem_cons.mpr ⟨⟨_, rfl, by decide, oz_gtw (i := 29) (by decide +kernel) rfl⟩, List.forall_mem_cons.mpr ⟨⟨_, rfl, by decide, oz_gtw (i := 34) (by decide +kernel) rfl⟩, List.forall_mem_cons.mpr ⟨⟨_, rfl, by decide, oz_gtw (i := 89) (by decide +kernel) rfl⟩, List.forall_mem_cons.mpr ⟨⟨_, rfl, by decide, oz_gtw (i := 91) (by decide +kernel) rfl⟩, List.forall_mem_cons.mpr ⟨⟨_, rfl, by decide, oz_gtw (i := 95) (by decide +kernel) rfl⟩, List.forall_mem_cons.mpr ⟨⟨_, rfl, by decide, oz_gtw (i := 87) (by decide +kernel) rfl⟩, List.forall_mem_cons.mpr ⟨⟨_, rfl, by decide, oz_gtw (i := 118) (by decide +kernel) rfl⟩, (fun _ h => absurd h List.not_mem_nil)⟩⟩⟩⟩⟩⟩⟩⟩⟩⟩⟩⟩⟩⟩⟩⟩⟩⟩⟩
def kt_X5 : List (Nat × Int32) := []
theorem kt_X5_ok : ∀ q ∈ kt_X5, Cond.constant RX5 q.1 q.2 ∈ oz_gt := (fun _ h => absurd h List.not_mem_nil)
def lt_X5 : List (Nat × Int64) := []
theorem lt_X5_ok : ∀ q ∈ lt_X5, Cond.constantLong RX5 q.1 q.2 ∈ oz_gt := (fun _ h => absurd h List.not_mem_nil)
def cn_X5 : List (Nat × Nat) := [(7, 3), (27, 0), (34, 2), (41, 1)]
theorem cn_X5_ok : ∀ q ∈ cn_X5, oz_cok RX5 q := List.forall_mem_cons.mpr ⟨⟨_, rfl, oz_gtw (i := 17) (by decide +kernel) rfl, oz_gtw (i := 18) (by decide +kernel) rfl, oz_gtw (i := 2) (by decide +kernel) rfl⟩, List.forall_mem_cons.mpr ⟨⟨_, rfl, oz_gtw (i := 59) (by decide +kernel) rfl, oz_gtw (i := 60) (by decide +kernel) rfl, oz_gtw (i := 3) (by decide +kernel) rfl⟩, List.forall_mem_cons.mpr ⟨⟨_, rfl, oz_gtw (i := 79) (by decide +kernel) rfl, oz_gtw (i := 80) (by decide +kernel) rfl, oz_gtw (i := 4) (by decide +kernel) rfl⟩, List.forall_mem_cons.mpr ⟨⟨_, rfl, oz_gtw (i := 107) (by decide +kernel) rfl, oz_gtw (i := 108) (by decide +kernel) rfl, oz_gtw (i := 5) (by decide +kernel) rfl⟩, (fun _ h => absurd h List.not_mem_nil)⟩⟩⟩⟩
def fl_X6 : List (Nat × Nat × Nat) := []
theorem fl_X6_ok : ∀ q ∈ fl_X6, oz_fok RX6 q := (fun _ h => absurd h List.not_mem_nil)
def kt_X6 : List (Nat × Int32) := []
theorem kt_X6_ok : ∀ q ∈ kt_X6, Cond.constant RX6 q.1 q.2 ∈ oz_gt := (fun _ h => absurd h List.not_mem_nil)
def lt_X6 : List (Nat × Int64) := []
theorem lt_X6_ok : ∀ q ∈ lt_X6, Cond.constantLong RX6 q.1 q.2 ∈ oz_gt := (fun _ h => absurd h List.not_mem_nil)
def cn_X6 : List (Nat × Nat) := []
theorem cn_X6_ok : ∀ q ∈ cn_X6, oz_cok RX6 q := (fun _ h => absurd h List.not_mem_nil)
def fl_L : List (Nat × Nat × Nat) := []
theorem fl_L_ok : ∀ q ∈ fl_L, oz_fok RL q := (fun _ h => absurd h List.not_mem_nil)
def kt_L : List (Nat × Int32) := [(7, nI 17810033), (8, nI 2147483647)]
theorem kt_L_ok : ∀ q ∈ kt_L, Cond.constant RL q.1 q.2 ∈ oz_gt := List.forall_mem_cons.mpr ⟨oz_gtw (i := 327) (by decide +kernel) rfl, List.forall_mem_cons.mpr ⟨oz_gtw (i := 331) (by decide +kernel) rfl, (fun _ h => absurd h List.not_mem_nil)⟩⟩
def lt_L : List (Nat × Int64) := []
theorem lt_L_ok : ∀ q ∈ lt_L, Cond.constantLong RL q.1 q.2 ∈ oz_gt := (fun _ h => absurd h List.not_mem_nil)
def cn_L : List (Nat × Nat) := [(10, 4)]
theorem cn_L_ok : ∀ q ∈ cn_L, oz_cok RL q := List.forall_mem_cons.mpr ⟨⟨_, rfl, oz_gtw (i := 9) (by decide +kernel) rfl, oz_gtw (i := 10) (by decide +kernel) rfl, oz_gtw (i := 1) (by decide +kernel) rfl⟩, (fun _ h => absurd h List.not_mem_nil)⟩
theorem lay_X0 : ∀ w ∈ wsX00, w ∈ oz_gt := List.forall_mem_cons.mpr ⟨oz_gtw (i := 68) (by decide +kernel) rfl, List.forall_mem_cons.mpr ⟨oz_gtw (i := 70) (by decide +kernel) rfl, List.forall_mem_cons.mpr ⟨oz_gtw (i := 72) (by decide +kernel) rfl, List.forall_mem_cons.mpr ⟨oz_gtw (i := 74) (by decide +kernel) rfl, List.forall_mem_cons.mpr ⟨oz_gtw (i := 76) (by decide +kernel) rfl, (fun _ h => absurd h List.not_mem_nil)⟩⟩⟩⟩⟩
theorem lay_X2 : ∀ w ∈ wsX20, w ∈ oz_gt := List.forall_mem_cons.mpr ⟨oz_gtw (i := 119) (by decide +kernel) rfl, List.forall_mem_cons.mpr ⟨oz_gtw (i := 121) (by decide +kernel) rfl, List.forall_mem_cons.mpr ⟨oz_gtw (i := 123) (by decide +kernel) rfl, (fun _ h => absurd h List.not_mem_nil)⟩⟩⟩
theorem lay_X3 : ∀ w ∈ wsX30, w ∈ oz_gt := List.forall_mem_cons.mpr ⟨oz_gtw (i := 96) (by decide +kernel) rfl, List.forall_mem_cons.mpr ⟨oz_gtw (i := 98) (by decide +kernel) rfl, List.forall_mem_cons.mpr ⟨oz_gtw (i := 100) (by decide +kernel) rfl, List.forall_mem_cons.mpr ⟨oz_gtw (i := 102) (by decide +kernel) rfl, List.forall_mem_cons.mpr ⟨oz_gtw (i := 104) (by decide +kernel) rfl, (fun _ h => absurd h List.not_mem_nil)⟩⟩⟩⟩⟩
theorem lay_X4 : ∀ w ∈ wsX40, w ∈ oz_gt := List.forall_mem_cons.mpr ⟨oz_gtw (i := 40) (by decide +kernel) rfl, List.forall_mem_cons.mpr ⟨oz_gtw (i := 42) (by decide +kernel) rfl, List.forall_mem_cons.mpr ⟨oz_gtw (i := 44) (by decide +kernel) rfl, List.forall_mem_cons.mpr ⟨oz_gtw (i := 46) (by decide +kernel) rfl, List.forall_mem_cons.mpr ⟨oz_gtw (i := 48) (by decide +kernel) rfl, List.forall_mem_cons.mpr ⟨oz_gtw (i := 50) (by decide +kernel) rfl, List.forall_mem_cons.mpr ⟨oz_gtw (i := 52) (by decide +kernel) rfl, List.forall_mem_cons.mpr ⟨oz_gtw (i := 54) (by decide +kernel) rfl, (fun _ h => absurd h List.not_mem_nil)⟩⟩⟩⟩⟩⟩⟩⟩
theorem lay_X5 : ∀ w ∈ wsX50, w ∈ oz_gt := List.forall_mem_cons.mpr ⟨oz_gtw (i := 145) (by decide +kernel) rfl, List.forall_mem_cons.mpr ⟨oz_gtw (i := 147) (by decide +kernel) rfl, List.forall_mem_cons.mpr ⟨oz_gtw (i := 149) (by decide +kernel) rfl, List.forall_mem_cons.mpr ⟨oz_gtw (i := 151) (by decide +kernel) rfl, List.forall_mem_cons.mpr ⟨oz_gtw (i := 153) (by decide +kernel) rfl, List.forall_mem_cons.mpr ⟨oz_gtw (i := 155) (by decide +kernel) rfl, List.forall_mem_cons.mpr ⟨oz_gtw (i := 157) (by decide +kernel) rfl, (fun _ h => absurd h List.not_mem_nil)⟩⟩⟩⟩⟩⟩⟩
theorem oz_lay : ∀ (ci : Nat) (r : vw_C), vwCl[ci]? = some r → ∀ w ∈ u_ws r.1 r.2.1 r.2.2, w ∈ oz_gt := by
  intro ci r h
  match ci, h with
  | 0, h => cases h; exact lay_X0
  | 1, h => cases h; exact lay_X2
  | 2, h => cases h; exact lay_X3
  | 3, h => cases h; exact lay_X4
  | 4, h => cases h; exact lay_X5
  | n + 5, h => simp [vwCl] at h
def P_X0_init : oz_P := [(0, .aload_n 0), (1, .invokespecial 3), (4, .aload_n 0), (5, .bipush 40), (7, .newarray .int), (9, .putfield 11), (12, .aload_n 0), (13, .iconst 0), (14, .putfield 15), (17, .return_)]
def P_X1_seedsAt : oz_P := [(0, .iload_n 0), (1, .iconst 4), (2, .iload_n 1), (3, .imul), (4, .iushr), (5, .bipush 15), (7, .iand), (8, .ireturn)]
def P_X1_seeds : oz_P := [(0, .iload_n 0), (1, .iconst 4), (2, .iload_n 1), (3, .imul), (4, .ishl), (5, .ireturn)]
def P_X1_next : oz_P := [(0, .iload_n 0), (1, .iload_n 1), (2, .if_icmp .lt 9), (5, .iconst 0), (6, .goto 12), (9, .iload_n 0), (10, .iconst 1), (11, .iadd), (12, .ireturn)]
def P_X1_lives : oz_P := [(0, .iload_n 0), (1, .ldc 11), (3, .iand), (4, .ifCond .ne 11), (7, .iconst 0), (8, .goto 12), (11, .iconst 1), (12, .ireturn)]
def P_X1_isLost : oz_P := [(0, .iload_n 0), (1, .ldc 12), (3, .iand), (4, .ifCond .eq 11), (7, .iconst 1), (8, .goto 12), (11, .iconst 0), (12, .ireturn)]
def P_X1_afterWrongMove : oz_P := [(0, .iload_n 0), (1, .invokestatic 13), (4, .ifCond .le 14), (7, .iload_n 0), (8, .ldc 11), (10, .isub), (11, .goto 18), (14, .iload_n 0), (15, .ldc 12), (17, .ior), (18, .ireturn)]
def P_X1_inPits : oz_P := [(0, .iconst 0), (1, .istore_n 2), (2, .iconst 0), (3, .istore_n 3), (4, .iload_n 3), (5, .iload_n 1), (6, .if_icmp .ge 23), (9, .iload_n 2), (10, .iload_n 0), (11, .iload_n 3), (12, .invokestatic 17), (15, .iadd), (16, .istore_n 2), (17, .iinc 3 1), (20, .goto 4), (23, .iload_n 2), (24, .ireturn)]
def P_X1_pitsWithSeeds : oz_P := [(0, .iconst 0), (1, .istore_n 2), (2, .iconst 0), (3, .istore_n 3), (4, .iload_n 3), (5, .iload_n 1), (6, .if_icmp .ge 26), (9, .iload_n 0), (10, .iload_n 3), (11, .invokestatic 17), (14, .ifCond .le 20), (17, .iinc 2 1), (20, .iinc 3 1), (23, .goto 4), (26, .iload_n 2), (27, .ireturn)]
def P_X1_evenly : oz_P := [(0, .iconst 0), (1, .istore_n 2), (2, .iconst 0), (3, .istore_n 3), (4, .iload_n 3), (5, .iload_n 0), (6, .if_icmp .ge 23), (9, .iload_n 2), (10, .iload_n 1), (11, .iload_n 3), (12, .invokestatic 21), (15, .iadd), (16, .istore_n 2), (17, .iinc 3 1), (20, .goto 4), (23, .iload_n 2), (24, .ireturn)]
def P_X1_lastOfFirstLap : oz_P := [(0, .iload_n 2), (1, .istore_n 3), (2, .iload_n 0), (3, .iload_n 2), (4, .invokestatic 17), (7, .istore 4), (9, .iload 4), (11, .ifCond .le 26), (14, .iload_n 3), (15, .iload_n 1), (16, .invokestatic 24), (19, .istore_n 3), (20, .iinc 4 (-1)), (23, .goto 9), (26, .iload_n 3), (27, .ireturn)]
def P_X1_exactFromStore : oz_P := [(0, .iconst 0), (1, .istore_n 1), (2, .iconst 0), (3, .istore_n 2), (4, .iload_n 2), (5, .iload_n 0), (6, .if_icmp .ge 55), (9, .iconst 0), (10, .istore_n 3), (11, .iload_n 3), (12, .bipush 6), (14, .if_icmp .ge 39), (17, .iload_n 1), (18, .iload_n 3), (19, .invokestatic 17), (22, .ifCond .le 39), (25, .iload_n 1), (26, .iconst 1), (27, .iload_n 3), (28, .invokestatic 21), (31, .isub), (32, .istore_n 1), (33, .iinc 3 1), (36, .goto 11), (39, .iload_n 1), (40, .iload_n 3), (41, .iconst 1), (42, .iadd), (43, .iload_n 3), (44, .invokestatic 21), (47, .iadd), (48, .istore_n 1), (49, .iinc 2 1), (52, .goto 4), (55, .iload_n 1), (56, .ireturn)]
def P_X1_farthest : oz_P := [(0, .iconst 0), (1, .istore_n 1), (2, .iconst 1), (3, .istore_n 2), (4, .iload_n 2), (5, .bipush 6), (7, .if_icmp .gt 28), (10, .iload_n 0), (11, .iload_n 2), (12, .iconst 1), (13, .isub), (14, .invokestatic 17), (17, .ifCond .le 22), (20, .iload_n 2), (21, .istore_n 1), (22, .iinc 2 1), (25, .goto 4), (28, .iload_n 1), (29, .ireturn)]
def P_X1_turnedRound : oz_P := [(0, .iconst 0), (1, .istore_n 2), (2, .iconst 0), (3, .istore_n 3), (4, .iload_n 3), (5, .iload_n 1), (6, .if_icmp .ge 31), (9, .iload_n 2), (10, .iload_n 0), (11, .iload_n 1), (12, .iconst 1), (13, .isub), (14, .iload_n 3), (15, .isub), (16, .invokestatic 17), (19, .iload_n 3), (20, .invokestatic 21), (23, .iadd), (24, .istore_n 2), (25, .iinc 3 1), (28, .goto 4), (31, .iload_n 2), (32, .ireturn)]
def P_X2_init : oz_P := [(0, .aload_n 0), (1, .invokespecial 5), (4, .aload_n 0), (5, .sipush 4096), (8, .newarray .long), (10, .putfield 11), (13, .aload_n 0), (14, .new 15), (17, .dup), (18, .invokespecial 17), (21, .putfield 18), (24, .return_)]
def P_X2_explore : oz_P := [(0, .iconst 0), (1, .istore_n 2), (2, .iload_n 2), (3, .sipush 4096), (6, .if_icmp .ge 22), (9, .aload_n 0), (10, .getfield 11), (13, .iload_n 2), (14, .lconst 0), (15, .lastore), (16, .iinc 2 1), (19, .goto 2), (22, .aload_n 0), (23, .iconst 0), (24, .putfield 22), (27, .aload_n 1), (28, .getfield 26), (31, .invokestatic 31), (34, .ifCond .ne 48), (37, .aload_n 0), (38, .aload_n 1), (39, .aload_n 1), (40, .getfield 26), (43, .iconst 0), (44, .invokestatic 37), (47, .pop), (48, .return_)]
def P_X2_visit : oz_P := [(0, .aload_n 0), (1, .iload_n 2), (2, .invokevirtual 41), (5, .istore 4), (7, .aload_n 0), (8, .getfield 11), (11, .iload 4), (13, .laload), (14, .lconst 0), (15, .lcmp), (16, .ifCond .ne 25), (19, .iload_n 3), (20, .bipush 40), (22, .if_icmp .le 28), (25, .iload 4), (27, .ireturn), (28, .aload_n 0), (29, .getfield 11), (32, .iload 4), (34, .iload_n 2), (35, .i2l), (36, .lastore), (37, .aload_n 0), (38, .dup), (39, .getfield 22), (42, .iconst 1), (43, .iadd), (44, .putfield 22), (47, .iload_n 2), (48, .aload_n 1), (49, .getfield 45), (52, .invokestatic 48), (55, .istore 5), (57, .iload_n 2), (58, .aload_n 1), (59, .getfield 45), (62, .invokestatic 52), (65, .ifCond .ne 72), (68, .iconst 0), (69, .goto 74), (72, .bipush 63), (74, .istore 6), (76, .iconst 0), (77, .istore 7), (79, .iload 7), (81, .aload_n 1), (82, .getfield 45), (85, .if_icmp .ge 194), (88, .aload_n 1), (89, .iload_n 2), (90, .iload 7), (92, .invokevirtual 55), (95, .ifCond .ne 101), (98, .goto 188), (101, .aload_n 0), (102, .getfield 18), (105, .aload_n 1), (106, .iload_n 2), (107, .iload 7), (109, .invokevirtual 59), (112, .aload_n 0), (113, .getfield 18), (116, .getfield 63), (119, .istore 8), (121, .iload 8), (123, .invokestatic 31), (126, .ifCond .eq 148), (129, .iload 5), (131, .iload 8), (133, .aload_n 1), (134, .getfield 45), (137, .invokestatic 48), (140, .invokestatic 64), (143, .istore 5), (145, .goto 188), (148, .aload_n 0), (149, .aload_n 1), (150, .iload 8), (152, .iload_n 3), (153, .iconst 1), (154, .iadd), (155, .invokestatic 37), (158, .istore 9), (160, .iload 5), (162, .aload_n 0), (163, .iload 9), (165, .invokevirtual 69), (168, .invokestatic 64), (171, .istore 5), (173, .iload 6), (175, .aload_n 0), (176, .iload 9), (178, .invokevirtual 72), (181, .iconst 1), (182, .iadd), (183, .invokestatic 75), (186, .istore 6), (188, .iinc 7 1), (191, .goto 79), (194, .aload_n 0), (195, .getfield 11), (198, .iload 4), (200, .iload 6), (202, .i2l), (203, .bipush 40), (205, .lshl), (206, .iload 5), (208, .i2l), (209, .bipush 32), (211, .lshl), (212, .lor), (213, .iload_n 2), (214, .i2l), (215, .lor), (216, .lastore), (217, .iload 4), (219, .ireturn)]
def P_X2_slotOf : oz_P := [(0, .iload_n 1), (1, .ldc 78), (3, .imul), (4, .bipush 20), (6, .iushr), (7, .istore_n 2), (8, .iconst 0), (9, .istore_n 3), (10, .iload_n 3), (11, .sipush 4096), (14, .if_icmp .ge 53), (17, .aload_n 0), (18, .getfield 11), (21, .iload_n 2), (22, .laload), (23, .l2i), (24, .istore 4), (26, .iload 4), (28, .ifCond .eq 37), (31, .iload 4), (33, .iload_n 1), (34, .if_icmp .ne 39), (37, .iload_n 2), (38, .ireturn), (39, .iload_n 2), (40, .iconst 1), (41, .iadd), (42, .sipush 4095), (45, .iand), (46, .istore_n 2), (47, .iinc 3 1), (50, .goto 10), (53, .iload_n 2), (54, .ireturn)]
def P_X2_mostIn : oz_P := [(0, .aload_n 0), (1, .getfield 11), (4, .iload_n 1), (5, .laload), (6, .bipush 32), (8, .lushr), (9, .l2i), (10, .sipush 255), (13, .iand), (14, .ireturn)]
def P_X2_fewestIn : oz_P := [(0, .aload_n 0), (1, .getfield 11), (4, .iload_n 1), (5, .laload), (6, .bipush 40), (8, .lushr), (9, .l2i), (10, .sipush 255), (13, .iand), (14, .ireturn)]
def P_X2_mostFrom : oz_P := [(0, .iload_n 2), (1, .invokestatic 31), (4, .ifCond .eq 16), (7, .iload_n 2), (8, .aload_n 1), (9, .getfield 45), (12, .invokestatic 48), (15, .ireturn), (16, .aload_n 0), (17, .aload_n 0), (18, .iload_n 2), (19, .invokevirtual 41), (22, .invokevirtual 69), (25, .ireturn)]
def P_X2_fewestFrom : oz_P := [(0, .iload_n 1), (1, .invokestatic 31), (4, .ifCond .eq 10), (7, .bipush (-6)), (9, .ireturn), (10, .aload_n 0), (11, .aload_n 0), (12, .iload_n 1), (13, .invokevirtual 41), (16, .invokevirtual 72), (19, .istore_n 2), (20, .iload_n 2), (21, .bipush 63), (23, .if_icmp .ne 31), (26, .bipush (-6)), (28, .goto 32), (31, .iload_n 2), (32, .ireturn)]
def P_X2_firstMove : oz_P := [(0, .aload_n 0), (1, .aload_n 1), (2, .iload_n 2), (3, .invokevirtual 79), (6, .istore_n 3), (7, .iload_n 2), (8, .aload_n 1), (9, .getfield 45), (12, .invokestatic 48), (15, .iload_n 3), (16, .if_icmp .ne 22), (19, .bipush (-6)), (21, .ireturn), (22, .iconst 0), (23, .istore 4), (25, .iload 4), (27, .aload_n 1), (28, .getfield 45), (31, .if_icmp .ge 80), (34, .aload_n 1), (35, .iload_n 2), (36, .iload 4), (38, .invokevirtual 55), (41, .ifCond .eq 74), (44, .aload_n 0), (45, .getfield 18), (48, .aload_n 1), (49, .iload_n 2), (50, .iload 4), (52, .invokevirtual 59), (55, .aload_n 0), (56, .aload_n 1), (57, .aload_n 0), (58, .getfield 18), (61, .getfield 63), (64, .invokevirtual 79), (67, .iload_n 3), (68, .if_icmp .ne 74), (71, .iload 4), (73, .ireturn), (74, .iinc 4 1), (77, .goto 25), (80, .bipush (-6)), (82, .ireturn)]
def P_X3_init : oz_P := [(0, .aload_n 0), (1, .invokespecial 3), (4, .return_)]
def P_X3_make : oz_P := [(0, .aload_n 0), (1, .iload_n 2), (2, .putfield 9), (5, .aload_n 0), (6, .iload_n 3), (7, .putfield 15), (10, .aload_n 0), (11, .iconst 0), (12, .putfield 18), (15, .iconst 1), (16, .istore 4), (18, .iconst 0), (19, .istore 5), (21, .iload 4), (23, .ifCond .eq 68), (26, .iload 5), (28, .sipush 1000), (31, .if_icmp .ge 68), (34, .aload_n 0), (35, .aload_n 1), (36, .getfield 21), (39, .invokevirtual 26), (42, .ifCond .eq 59), (45, .aload_n 1), (46, .getfield 30), (49, .iconst 0), (50, .iaload), (51, .iconst 1), (52, .if_icmp .ne 59), (55, .iconst 1), (56, .goto 60), (59, .iconst 0), (60, .istore 4), (62, .iinc 5 1), (65, .goto 21), (68, .aload_n 0), (69, .aload_n 0), (70, .getfield 9), (73, .aload_n 1), (74, .getfield 21), (77, .invokestatic 34), (80, .iload_n 2), (81, .aload_n 1), (82, .getfield 21), (85, .invokestatic 34), (88, .isub), (89, .putfield 40), (92, .aload_n 0), (93, .aload_n 0), (94, .getfield 15), (97, .aload_n 1), (98, .getfield 21), (101, .if_icmp .eq 108), (104, .iconst 1), (105, .goto 109), (108, .iconst 0), (109, .putfield 43), (112, .aload_n 0), (113, .getfield 43), (116, .ifCond .eq 130), (119, .aload_n 0), (120, .aload_n 0), (121, .getfield 9), (124, .invokestatic 47), (127, .putfield 9), (130, .return_)]
def P_X3_endsAmongSeeds : oz_P := [(0, .aload_n 0), (1, .getfield 9), (4, .aload_n 0), (5, .getfield 15), (8, .invokestatic 34), (11, .istore_n 2), (12, .aload_n 0), (13, .dup), (14, .getfield 9), (17, .iload_n 2), (18, .aload_n 0), (19, .getfield 15), (22, .invokestatic 51), (25, .isub), (26, .putfield 9), (29, .iconst 0), (30, .istore_n 3), (31, .iload_n 2), (32, .istore 4), (34, .iload 4), (36, .ifCond .le 86), (39, .aload_n 0), (40, .aload_n 0), (41, .getfield 15), (44, .iload_n 1), (45, .invokestatic 54), (48, .putfield 15), (51, .aload_n 0), (52, .getfield 9), (55, .aload_n 0), (56, .getfield 15), (59, .invokestatic 34), (62, .istore_n 3), (63, .aload_n 0), (64, .dup), (65, .getfield 9), (68, .iconst 1), (69, .aload_n 0), (70, .getfield 15), (73, .invokestatic 51), (76, .iadd), (77, .putfield 9), (80, .iinc 4 (-1)), (83, .goto 34), (86, .aload_n 0), (87, .dup), (88, .getfield 18), (91, .iconst 1), (92, .iadd), (93, .putfield 18), (96, .aload_n 0), (97, .getfield 15), (100, .iload_n 1), (101, .if_icmp .eq 112), (104, .iload_n 3), (105, .ifCond .le 112), (108, .iconst 1), (109, .goto 113), (112, .iconst 0), (113, .ireturn)]
def P_X4_init : oz_P := [(0, .aload_n 0), (1, .invokespecial 3), (4, .aload_n 0), (5, .iconst 3), (6, .newarray .int), (8, .putfield 9), (11, .aload_n 0), (12, .bipush 20), (14, .newarray .int), (16, .putfield 15), (19, .aload_n 0), (20, .bipush 20), (22, .newarray .int), (24, .putfield 18), (27, .aload_n 0), (28, .bipush 20), (30, .newarray .int), (32, .putfield 21), (35, .aload_n 0), (36, .getfield 9), (39, .iconst 0), (40, .iconst 1), (41, .iastore), (42, .return_)]
def P_X4_copyFrom : oz_P := [(0, .aload_n 1), (1, .getfield 9), (4, .iconst 0), (5, .aload_n 0), (6, .getfield 9), (9, .iconst 0), (10, .iconst 3), (11, .invokestatic 24), (14, .aload_n 0), (15, .aload_n 1), (16, .getfield 30), (19, .putfield 30), (22, .aload_n 0), (23, .aload_n 1), (24, .getfield 34), (27, .putfield 34), (30, .aload_n 0), (31, .aload_n 1), (32, .getfield 37), (35, .putfield 37), (38, .aload_n 0), (39, .aload_n 1), (40, .getfield 40), (43, .putfield 40), (46, .aload_n 1), (47, .getfield 15), (50, .iconst 0), (51, .aload_n 0), (52, .getfield 15), (55, .iconst 0), (56, .bipush 20), (58, .invokestatic 24), (61, .aload_n 1), (62, .getfield 18), (65, .iconst 0), (66, .aload_n 0), (67, .getfield 18), (70, .iconst 0), (71, .bipush 20), (73, .invokestatic 24), (76, .aload_n 1), (77, .getfield 21), (80, .iconst 0), (81, .aload_n 0), (82, .getfield 21), (85, .iconst 0), (86, .bipush 20), (88, .invokestatic 24), (91, .return_)]
def P_X4_startRound : oz_P := [(0, .aload_n 0), (1, .iload_n 1), (2, .putfield 30), (5, .aload_n 0), (6, .aload_n 0), (7, .getfield 9), (10, .iconst 2), (11, .iaload), (12, .iconst 1), (13, .if_icmp .ne 23), (16, .iload_n 2), (17, .ldc 45), (19, .ior), (20, .goto 24), (23, .iload_n 2), (24, .putfield 34), (27, .aload_n 0), (28, .iconst 0), (29, .putfield 37), (32, .aload_n 0), (33, .iconst 0), (34, .putfield 40), (37, .return_)]
def P_X4_store : oz_P := [(0, .aload_n 0), (1, .getfield 34), (4, .aload_n 0), (5, .getfield 30), (8, .invokestatic 46), (11, .ireturn)]
def P_X4_canSow : oz_P := [(0, .iload_n 1), (1, .invokestatic 50), (4, .ifCond .ne 15), (7, .iload_n 1), (8, .iload_n 2), (9, .invokestatic 46), (12, .ifCond .ne 17), (15, .iconst 0), (16, .ireturn), (17, .aload_n 0), (18, .getfield 9), (21, .iconst 1), (22, .iaload), (23, .ifCond .eq 42), (26, .iload_n 1), (27, .aload_n 0), (28, .getfield 30), (31, .iload_n 2), (32, .invokestatic 54), (35, .aload_n 0), (36, .getfield 30), (39, .if_icmp .ne 46), (42, .iconst 1), (43, .goto 47), (46, .iconst 0), (47, .ireturn)]
def P_X4_sowable : oz_P := [(0, .iconst 0), (1, .istore_n 2), (2, .iconst 0), (3, .istore_n 3), (4, .iload_n 3), (5, .aload_n 0), (6, .getfield 30), (9, .if_icmp .ge 33), (12, .aload_n 0), (13, .iload_n 1), (14, .iload_n 3), (15, .invokevirtual 58), (18, .ifCond .eq 27), (21, .iload_n 2), (22, .iconst 1), (23, .iload_n 3), (24, .ishl), (25, .ior), (26, .istore_n 2), (27, .iinc 3 1), (30, .goto 4), (33, .iload_n 2), (34, .ireturn)]
def P_X4_how : oz_P := [(0, .iload_n 1), (1, .invokestatic 50), (4, .ifCond .eq 9), (7, .iconst 2), (8, .ireturn), (9, .iload_n 1), (10, .aload_n 0), (11, .getfield 30), (14, .invokestatic 62), (17, .ifCond .ne 22), (20, .iconst 1), (21, .ireturn), (22, .aload_n 0), (23, .iload_n 1), (24, .invokevirtual 65), (27, .ifCond .ne 34), (30, .iconst 3), (31, .goto 35), (34, .iconst 0), (35, .ireturn)]
def P_X4_keep : oz_P := [(0, .aload_n 0), (1, .getfield 40), (4, .bipush 20), (6, .if_icmp .lt 13), (9, .aload_n 0), (10, .invokevirtual 69), (13, .aload_n 0), (14, .getfield 15), (17, .aload_n 0), (18, .getfield 40), (21, .iload_n 1), (22, .iastore), (23, .aload_n 0), (24, .getfield 18), (27, .aload_n 0), (28, .getfield 40), (31, .iload_n 2), (32, .iastore), (33, .aload_n 0), (34, .getfield 21), (37, .aload_n 0), (38, .getfield 40), (41, .aload_n 0), (42, .getfield 34), (45, .iastore), (46, .aload_n 0), (47, .dup), (48, .getfield 40), (51, .iconst 1), (52, .iadd), (53, .putfield 40), (56, .aload_n 0), (57, .dup), (58, .getfield 37), (61, .iconst 1), (62, .iadd), (63, .putfield 37), (66, .return_)]
def P_X4_forgetOldest : oz_P := [(0, .iconst 1), (1, .istore_n 1), (2, .iload_n 1), (3, .bipush 20), (5, .if_icmp .ge 56), (8, .aload_n 0), (9, .getfield 15), (12, .iload_n 1), (13, .iconst 1), (14, .isub), (15, .aload_n 0), (16, .getfield 15), (19, .iload_n 1), (20, .iaload), (21, .iastore), (22, .aload_n 0), (23, .getfield 18), (26, .iload_n 1), (27, .iconst 1), (28, .isub), (29, .aload_n 0), (30, .getfield 18), (33, .iload_n 1), (34, .iaload), (35, .iastore), (36, .aload_n 0), (37, .getfield 21), (40, .iload_n 1), (41, .iconst 1), (42, .isub), (43, .aload_n 0), (44, .getfield 21), (47, .iload_n 1), (48, .iaload), (49, .iastore), (50, .iinc 1 1), (53, .goto 2), (56, .aload_n 0), (57, .bipush 19), (59, .putfield 40), (62, .return_)]
def P_X4_takeBack : oz_P := [(0, .aload_n 0), (1, .getfield 40), (4, .ifCond .gt 10), (7, .bipush (-6)), (9, .ireturn), (10, .aload_n 0), (11, .dup), (12, .getfield 40), (15, .iconst 1), (16, .isub), (17, .putfield 40), (20, .aload_n 0), (21, .dup), (22, .getfield 37), (25, .iconst 1), (26, .isub), (27, .putfield 37), (30, .aload_n 0), (31, .aload_n 0), (32, .getfield 21), (35, .aload_n 0), (36, .getfield 40), (39, .iaload), (40, .putfield 34), (43, .aload_n 0), (44, .getfield 15), (47, .aload_n 0), (48, .getfield 40), (51, .iaload), (52, .ireturn)]
def P_X4_keptPit : oz_P := [(0, .iload_n 1), (1, .ifCond .lt 28), (4, .iload_n 1), (5, .aload_n 0), (6, .getfield 40), (9, .if_icmp .ge 28), (12, .aload_n 0), (13, .getfield 15), (16, .aload_n 0), (17, .getfield 40), (20, .iconst 1), (21, .isub), (22, .iload_n 1), (23, .isub), (24, .iaload), (25, .goto 30), (28, .bipush (-6)), (30, .ireturn)]
def P_X4_latestLaps : oz_P := [(0, .aload_n 0), (1, .getfield 40), (4, .ifCond .le 21), (7, .aload_n 0), (8, .getfield 18), (11, .aload_n 0), (12, .getfield 40), (15, .iconst 1), (16, .isub), (17, .iaload), (18, .goto 23), (21, .bipush (-6)), (23, .ireturn)]
def P_X5_init : oz_P := [(0, .aload_n 0), (1, .invokespecial 1), (4, .aload_n 0), (5, .new 7), (8, .dup), (9, .invokespecial 9), (12, .putfield 10), (15, .aload_n 0), (16, .bipush 6), (18, .anewarray 7), (21, .putfield 16), (24, .aload_n 0), (25, .iconst 0), (26, .putfield 20), (29, .aload_n 0), (30, .iconst 2), (31, .anewarray 7), (34, .putfield 24), (37, .aload_n 0), (38, .new 27), (41, .dup), (42, .invokespecial 29), (45, .putfield 30), (48, .aload_n 0), (49, .new 34), (52, .dup), (53, .invokespecial 36), (56, .putfield 37), (59, .aload_n 0), (60, .new 41), (63, .dup), (64, .invokespecial 43), (67, .putfield 44), (70, .iconst 0), (71, .istore_n 1), (72, .iload_n 1), (73, .bipush 6), (75, .if_icmp .ge 97), (78, .aload_n 0), (79, .getfield 16), (82, .iload_n 1), (83, .new 7), (86, .dup), (87, .invokespecial 9), (90, .aastore), (91, .iinc 1 1), (94, .goto 72), (97, .aload_n 0), (98, .getfield 10), (101, .iconst 4), (102, .iconst 4), (103, .iconst 2), (104, .invokestatic 48), (107, .invokevirtual 54), (110, .return_)]
def P_X5_set : oz_P := [(0, .iload_n 1), (1, .ifCond .lt 18), (4, .iload_n 1), (5, .iconst 3), (6, .if_icmp .ge 18), (9, .iload_n 2), (10, .ifCond .lt 18), (13, .iload_n 2), (14, .iconst 1), (15, .if_icmp .le 21), (18, .bipush (-2)), (20, .ireturn), (21, .aload_n 0), (22, .invokevirtual 58), (25, .aload_n 0), (26, .getfield 10), (29, .getfield 61), (32, .iload_n 1), (33, .iaload), (34, .istore_n 3), (35, .aload_n 0), (36, .getfield 10), (39, .getfield 61), (42, .iload_n 1), (43, .iload_n 2), (44, .iastore), (45, .iload_n 3), (46, .ireturn)]
def P_X5_begin : oz_P := [(0, .iload_n 1), (1, .invokestatic 65), (4, .ifCond .eq 18), (7, .iload_n 2), (8, .iconst 1), (9, .if_icmp .lt 18), (12, .iload_n 2), (13, .bipush 7), (15, .if_icmp .le 21), (18, .bipush (-2)), (20, .ireturn), (21, .iload_n 1), (22, .iload_n 2), (23, .imul), (24, .bipush 14), (26, .if_icmp .le 32), (29, .bipush (-4)), (31, .ireturn), (32, .aload_n 0), (33, .invokevirtual 58), (36, .aload_n 0), (37, .getfield 10), (40, .iload_n 1), (41, .iload_n 1), (42, .iload_n 2), (43, .invokestatic 48), (46, .invokevirtual 54), (49, .iload_n 1), (50, .iload_n 2), (51, .imul), (52, .ireturn)]
def P_X5_loadExact : oz_P := [(0, .iload_n 1), (1, .invokestatic 65), (4, .ifCond .eq 18), (7, .iload_n 2), (8, .iconst 1), (9, .if_icmp .lt 18), (12, .iload_n 2), (13, .bipush 14), (15, .if_icmp .le 21), (18, .bipush (-2)), (20, .ireturn), (21, .iload_n 2), (22, .invokestatic 85), (25, .istore_n 3), (26, .iload_n 3), (27, .invokestatic 89), (30, .iload_n 1), (31, .if_icmp .le 37), (34, .bipush (-5)), (36, .ireturn), (37, .aload_n 0), (38, .invokevirtual 58), (41, .iload_n 3), (42, .iload_n 1), (43, .invokestatic 92), (46, .istore 4), (48, .aload_n 0), (49, .getfield 10), (52, .iload_n 1), (53, .iload 4), (55, .invokevirtual 54), (58, .iload 4), (60, .iload_n 1), (61, .invokestatic 95), (64, .ireturn)]
def P_X5_sow : oz_P := [(0, .aload_n 0), (1, .iload_n 1), (2, .invokevirtual 98), (5, .ifCond .ne 10), (8, .iconst (-1)), (9, .ireturn), (10, .aload_n 0), (11, .getfield 10), (14, .aload_n 0), (15, .getfield 10), (18, .getfield 101), (21, .iload_n 1), (22, .invokevirtual 104), (25, .ifCond .ne 31), (28, .bipush (-5)), (30, .ireturn), (31, .aload_n 0), (32, .invokevirtual 58), (35, .aload_n 0), (36, .iload_n 1), (37, .invokevirtual 108), (40, .aload_n 0), (41, .getfield 37), (44, .getfield 112), (47, .ireturn)]
def P_X5_back : oz_P := [(0, .aload_n 0), (1, .getfield 10), (4, .getfield 115), (7, .ifCond .gt 13), (10, .bipush (-5)), (12, .ireturn), (13, .aload_n 0), (14, .invokevirtual 58), (17, .aload_n 0), (18, .getfield 10), (21, .invokevirtual 118), (24, .ireturn)]
def P_X5_pit : oz_P := [(0, .aload_n 0), (1, .iload_n 1), (2, .invokevirtual 98), (5, .ifCond .eq 22), (8, .aload_n 0), (9, .getfield 10), (12, .getfield 101), (15, .iload_n 1), (16, .invokestatic 135), (19, .goto 23), (22, .iconst (-1)), (23, .ireturn)]
def P_X5_count : oz_P := [(0, .iload_n 1), (1, .tableswitch 222 0 13 #[72, 80, 88, 114, 129, 140, 148, 156, 164, 179, 189, 199, 209, 217]), (72, .aload_n 0), (73, .getfield 10), (76, .getfield 138), (79, .ireturn), (80, .aload_n 0), (81, .getfield 10), (84, .invokevirtual 129), (87, .ireturn), (88, .aload_n 0), (89, .getfield 10), (92, .invokevirtual 129), (95, .aload_n 0), (96, .getfield 10), (99, .getfield 101), (102, .aload_n 0), (103, .getfield 10), (106, .getfield 138), (109, .invokestatic 141), (112, .iadd), (113, .ireturn), (114, .aload_n 0), (115, .getfield 10), (118, .aload_n 0), (119, .getfield 10), (122, .getfield 101), (125, .invokevirtual 144), (128, .ireturn), (129, .aload_n 0), (130, .getfield 10), (133, .getfield 101), (136, .invokestatic 147), (139, .ireturn), (140, .aload_n 0), (141, .getfield 10), (144, .getfield 150), (147, .ireturn), (148, .aload_n 0), (149, .getfield 10), (152, .getfield 115), (155, .ireturn), (156, .aload_n 0), (157, .getfield 10), (160, .invokevirtual 153), (163, .ireturn), (164, .aload_n 0), (165, .getfield 10), (168, .aload_n 0), (169, .getfield 10), (172, .getfield 101), (175, .invokevirtual 156), (178, .ireturn), (179, .aload_n 0), (180, .getfield 10), (183, .getfield 61), (186, .iconst 0), (187, .iaload), (188, .ireturn), (189, .aload_n 0), (190, .getfield 10), (193, .getfield 61), (196, .iconst 1), (197, .iaload), (198, .ireturn), (199, .aload_n 0), (200, .getfield 10), (203, .getfield 61), (206, .iconst 2), (207, .iaload), (208, .ireturn), (209, .aload_n 0), (210, .getfield 30), (213, .getfield 82), (216, .ireturn), (217, .aload_n 0), (218, .getfield 20), (221, .ireturn), (222, .bipush (-2)), (224, .ireturn)]
def P_X5_move : oz_P := [(0, .iload_n 1), (1, .ifCond .ge 6), (4, .iconst (-1)), (5, .ireturn), (6, .aload_n 0), (7, .getfield 10), (10, .iload_n 1), (11, .invokevirtual 159), (14, .ireturn)]
def P_X5_ifSown : oz_P := [(0, .aload_n 0), (1, .iload_n 1), (2, .invokevirtual 98), (5, .ifCond .ne 10), (8, .iconst (-1)), (9, .ireturn), (10, .iload_n 2), (11, .ifCond .lt 19), (14, .iload_n 2), (15, .iconst 4), (16, .if_icmp .le 22), (19, .bipush (-2)), (21, .ireturn), (22, .aload_n 0), (23, .getfield 10), (26, .aload_n 0), (27, .getfield 10), (30, .getfield 101), (33, .iload_n 1), (34, .invokevirtual 104), (37, .ifCond .ne 43), (40, .bipush (-5)), (42, .ireturn), (43, .aload_n 0), (44, .getfield 37), (47, .aload_n 0), (48, .getfield 10), (51, .aload_n 0), (52, .getfield 10), (55, .getfield 101), (58, .iload_n 1), (59, .invokevirtual 162), (62, .iload_n 2), (63, .tableswitch 132 0 3 #[92, 100, 108, 116]), (92, .aload_n 0), (93, .getfield 37), (96, .getfield 166), (99, .ireturn), (100, .aload_n 0), (101, .getfield 37), (104, .getfield 169), (107, .ireturn), (108, .aload_n 0), (109, .getfield 37), (112, .getfield 112), (115, .ireturn), (116, .aload_n 0), (117, .getfield 37), (120, .getfield 172), (123, .ifCond .eq 130), (126, .iconst 1), (127, .goto 131), (130, .iconst 0), (131, .ireturn), (132, .aload_n 0), (133, .getfield 10), (136, .aload_n 0), (137, .getfield 37), (140, .getfield 176), (143, .invokevirtual 144), (146, .ireturn)]
def P_X5_ifSownHas : oz_P := [(0, .aload_n 0), (1, .iload_n 1), (2, .invokevirtual 98), (5, .ifCond .eq 23), (8, .iload_n 2), (9, .ifCond .lt 23), (12, .iload_n 2), (13, .aload_n 0), (14, .getfield 10), (17, .getfield 138), (20, .if_icmp .le 25), (23, .iconst (-1)), (24, .ireturn), (25, .aload_n 0), (26, .getfield 10), (29, .aload_n 0), (30, .getfield 10), (33, .getfield 101), (36, .iload_n 1), (37, .invokevirtual 104), (40, .ifCond .ne 46), (43, .bipush (-5)), (45, .ireturn), (46, .aload_n 0), (47, .getfield 37), (50, .aload_n 0), (51, .getfield 10), (54, .aload_n 0), (55, .getfield 10), (58, .getfield 101), (61, .iload_n 1), (62, .invokevirtual 162), (65, .aload_n 0), (66, .getfield 37), (69, .getfield 176), (72, .iload_n 2), (73, .invokestatic 135), (76, .ireturn)]
def P_X5_best : oz_P := [(0, .iload_n 1), (1, .ifCond .lt 9), (4, .iload_n 1), (5, .iconst 3), (6, .if_icmp .le 12), (9, .bipush (-2)), (11, .ireturn), (12, .aload_n 0), (13, .getfield 44), (16, .aload_n 0), (17, .getfield 10), (20, .invokevirtual 121), (23, .iload_n 1), (24, .tableswitch 98 0 2 #[52, 71, 90]), (52, .aload_n 0), (53, .getfield 44), (56, .aload_n 0), (57, .getfield 10), (60, .aload_n 0), (61, .getfield 10), (64, .getfield 101), (67, .invokevirtual 125), (70, .ireturn), (71, .aload_n 0), (72, .getfield 44), (75, .aload_n 0), (76, .getfield 10), (79, .aload_n 0), (80, .getfield 10), (83, .getfield 101), (86, .invokevirtual 132), (89, .ireturn), (90, .aload_n 0), (91, .getfield 44), (94, .getfield 177), (97, .ireturn), (98, .aload_n 0), (99, .getfield 44), (102, .aload_n 0), (103, .getfield 10), (106, .getfield 101), (109, .invokevirtual 180), (112, .ireturn)]
def P_X5_exact : oz_P := [(0, .iload_n 1), (1, .ifCond .lt 21), (4, .iload_n 1), (5, .bipush 14), (7, .if_icmp .gt 21), (10, .iload_n 2), (11, .iconst 1), (12, .if_icmp .lt 21), (15, .iload_n 2), (16, .bipush 6), (18, .if_icmp .le 24), (21, .bipush (-2)), (23, .ireturn), (24, .iload_n 1), (25, .invokestatic 85), (28, .iload_n 2), (29, .iconst 1), (30, .isub), (31, .invokestatic 135), (34, .ireturn)]
def P_X5_isRowLength : oz_P := [(0, .iload_n 0), (1, .iconst 2), (2, .if_icmp .lt 15), (5, .iload_n 0), (6, .bipush 6), (8, .if_icmp .gt 15), (11, .iconst 1), (12, .goto 16), (15, .iconst 0), (16, .ireturn)]
def P_X5_isPit : oz_P := [(0, .iload_n 1), (1, .ifCond .lt 19), (4, .iload_n 1), (5, .aload_n 0), (6, .getfield 10), (9, .getfield 138), (12, .if_icmp .ge 19), (15, .iconst 1), (16, .goto 20), (19, .iconst 0), (20, .ireturn)]
def P_X5_makeMove : oz_P := [(0, .aload_n 0), (1, .getfield 37), (4, .aload_n 0), (5, .getfield 10), (8, .aload_n 0), (9, .getfield 10), (12, .getfield 101), (15, .iload_n 1), (16, .invokevirtual 162), (19, .aload_n 0), (20, .getfield 10), (23, .iload_n 1), (24, .aload_n 0), (25, .getfield 37), (28, .getfield 169), (31, .invokevirtual 193), (34, .aload_n 0), (35, .getfield 10), (38, .aload_n 0), (39, .getfield 37), (42, .getfield 176), (45, .putfield 101), (48, .return_)]
def P_X5_record : oz_P := [(0, .aload_n 0), (1, .getfield 20), (4, .bipush 6), (6, .if_icmp .lt 13), (9, .aload_n 0), (10, .invokevirtual 196), (13, .aload_n 0), (14, .getfield 16), (17, .aload_n 0), (18, .getfield 20), (21, .aaload), (22, .aload_n 0), (23, .getfield 10), (26, .invokevirtual 190), (29, .aload_n 0), (30, .dup), (31, .getfield 20), (34, .iconst 1), (35, .iadd), (36, .putfield 20), (39, .return_)]
def P_X5_dropOldest : oz_P := [(0, .aload_n 0), (1, .getfield 16), (4, .iconst 0), (5, .aaload), (6, .astore_n 1), (7, .iconst 1), (8, .istore_n 2), (9, .iload_n 2), (10, .bipush 6), (12, .if_icmp .ge 35), (15, .aload_n 0), (16, .getfield 16), (19, .iload_n 2), (20, .iconst 1), (21, .isub), (22, .aload_n 0), (23, .getfield 16), (26, .iload_n 2), (27, .aaload), (28, .aastore), (29, .iinc 2 1), (32, .goto 9), (35, .aload_n 0), (36, .getfield 16), (39, .iconst 5), (40, .aload_n 1), (41, .aastore), (42, .aload_n 0), (43, .iconst 5), (44, .putfield 20), (47, .return_)]
def P_L_cell : oz_P := [(0, .iload_n 1), (1, .aload_n 0), (2, .arraylength), (3, .if_icmp .ge 12), (6, .aload_n 0), (7, .iload_n 1), (8, .iaload), (9, .goto 20), (12, .ldc 7), (14, .iload_n 1), (15, .imul), (16, .sipush 20807), (19, .iadd), (20, .ireturn)]
def P_L_low : oz_P := [(0, .iload_n 0), (1, .ldc 8), (3, .iand), (4, .iload_n 1), (5, .irem), (6, .ireturn)]
def P_L_canSow : oz_P := [(0, .aload_n 0), (1, .iconst 0), (2, .invokevirtual 9), (5, .iconst 1), (6, .iadd), (7, .istore_n 2), (8, .aload_n 0), (9, .iload_n 1), (10, .invokevirtual 15), (13, .ifCond .le 46), (16, .aload_n 0), (17, .bipush 10), (19, .invokevirtual 9), (22, .ifCond .eq 42), (25, .iload_n 1), (26, .aload_n 0), (27, .iload_n 1), (28, .invokevirtual 15), (31, .iadd), (32, .iload_n 2), (33, .irem), (34, .aload_n 0), (35, .iconst 0), (36, .invokevirtual 9), (39, .if_icmp .ne 46), (42, .iconst 1), (43, .goto 47), (46, .iconst 0), (47, .ireturn)]
def P_L_state : oz_P := [(0, .iconst 0), (1, .istore_n 1), (2, .iconst 0), (3, .istore_n 2), (4, .iconst 0), (5, .istore_n 3), (6, .iload_n 3), (7, .aload_n 0), (8, .iconst 0), (9, .invokevirtual 9), (12, .if_icmp .ge 47), (15, .iload_n 1), (16, .aload_n 0), (17, .iload_n 3), (18, .invokestatic 18), (21, .ifCond .eq 30), (24, .iconst 1), (25, .iload_n 3), (26, .ishl), (27, .goto 31), (30, .iconst 0), (31, .ior), (32, .istore_n 1), (33, .iload_n 2), (34, .aload_n 0), (35, .iload_n 3), (36, .invokevirtual 15), (39, .iadd), (40, .istore_n 2), (41, .iinc 3 1), (44, .goto 6), (47, .aload_n 0), (48, .iconst 3), (49, .invokevirtual 9), (52, .istore_n 3), (53, .iload_n 3), (54, .iconst 2), (55, .if_icmp .eq 79), (58, .iload_n 3), (59, .iload_n 2), (60, .ifCond .ne 67), (63, .iconst 1), (64, .goto 76), (67, .iload_n 1), (68, .ifCond .ne 75), (71, .iconst 3), (72, .goto 76), (75, .iconst 0), (76, .if_icmp .ne 83), (79, .iconst 1), (80, .goto 84), (83, .iconst 0), (84, .istore 4), (86, .iload 4), (88, .ifCond .eq 174), (91, .aload_n 0), (92, .bipush 8), (94, .invokevirtual 9), (97, .iload_n 3), (98, .ifCond .ne 105), (101, .iload_n 1), (102, .goto 106), (105, .iconst 0), (106, .if_icmp .ne 174), (109, .aload_n 0), (110, .iconst 2), (111, .invokevirtual 9), (114, .iload_n 2), (115, .aload_n 0), (116, .iconst 1), (117, .invokevirtual 9), (120, .iadd), (121, .if_icmp .ne 174), (124, .aload_n 0), (125, .aload_n 0), (126, .iconst 0), (127, .invokevirtual 9), (130, .invokevirtual 15), (133, .iconst (-1)), (134, .if_icmp .ne 174), (137, .aload_n 0), (138, .iconst (-1)), (139, .invokevirtual 15), (142, .iconst (-1)), (143, .if_icmp .ne 174), (146, .aload_n 0), (147, .aload_n 0), (148, .bipush 6), (150, .invokevirtual 9), (153, .invokevirtual 24), (156, .bipush (-6)), (158, .if_icmp .ne 174), (161, .aload_n 0), (162, .iconst (-1)), (163, .invokevirtual 24), (166, .iconst (-1)), (167, .if_icmp .ne 174), (170, .iconst 1), (171, .goto 175), (174, .iconst 0), (175, .ireturn)]
def P_L_sown : oz_P := [(0, .aload_n 0), (1, .iconst 0), (2, .invokevirtual 9), (5, .istore_n 2), (6, .aload_n 0), (7, .iconst 3), (8, .invokevirtual 9), (11, .istore_n 3), (12, .iload_n 1), (13, .iload_n 2), (14, .if_icmp .lt 52), (17, .aload_n 0), (18, .iload_n 1), (19, .invokevirtual 27), (22, .iconst (-1)), (23, .if_icmp .ne 50), (26, .aload_n 0), (27, .iload_n 1), (28, .iconst 0), (29, .invokevirtual 30), (32, .iconst (-1)), (33, .if_icmp .ne 50), (36, .aload_n 0), (37, .iload_n 1), (38, .iconst 0), (39, .invokevirtual 34), (42, .iconst (-1)), (43, .if_icmp .ne 50), (46, .iconst 1), (47, .goto 51), (50, .iconst 0), (51, .ireturn), (52, .iload_n 3), (53, .ifCond .ne 64), (56, .aload_n 0), (57, .iload_n 1), (58, .invokestatic 18), (61, .ifCond .ne 113), (64, .aload_n 0), (65, .iload_n 1), (66, .invokevirtual 27), (69, .bipush (-5)), (71, .if_icmp .ne 111), (74, .aload_n 0), (75, .iload_n 1), (76, .iconst 4), (77, .invokevirtual 30), (80, .bipush (-5)), (82, .if_icmp .ne 111), (85, .aload_n 0), (86, .iload_n 1), (87, .iconst 0), (88, .invokevirtual 34), (91, .bipush (-5)), (93, .if_icmp .ne 111), (96, .aload_n 0), (97, .iload_n 1), (98, .iconst 5), (99, .invokevirtual 30), (102, .bipush (-2)), (104, .if_icmp .ne 111), (107, .iconst 1), (108, .goto 112), (111, .iconst 0), (112, .ireturn), (113, .bipush 7), (115, .newarray .int), (117, .astore 4), (119, .bipush 7), (121, .newarray .int), (123, .astore 5), (125, .iconst 0), (126, .istore 6), (128, .iload 6), (130, .iload_n 2), (131, .if_icmp .gt 175), (134, .aload 4), (136, .iload 6), (138, .iload 6), (140, .iload_n 2), (141, .if_icmp .ge 153), (144, .aload_n 0), (145, .iload 6), (147, .invokevirtual 15), (150, .goto 158), (153, .aload_n 0), (154, .iconst 1), (155, .invokevirtual 9), (158, .iastore), (159, .aload 5), (161, .iload 6), (163, .aload 4), (165, .iload 6), (167, .iaload), (168, .iastore), (169, .iinc 6 1), (172, .goto 128), (175, .iload_n 1), (176, .istore 6), (178, .iconst 0), (179, .istore 7), (181, .iconst 1), (182, .istore 8), (184, .iload 8), (186, .ifCond .eq 276), (189, .aload 4), (191, .iload 6), (193, .iaload), (194, .istore 9), (196, .aload 4), (198, .iload 6), (200, .iconst 0), (201, .iastore), (202, .iload 9), (204, .ifCond .le 238), (207, .iload 6), (209, .iload_n 2), (210, .if_icmp .ne 217), (213, .iconst 0), (214, .goto 221), (217, .iload 6), (219, .iconst 1), (220, .iadd), (221, .istore 6), (223, .aload 4), (225, .iload 6), (227, .dup2), (228, .iaload), (229, .iconst 1), (230, .iadd), (231, .iastore), (232, .iinc 9 (-1)), (235, .goto 202), (238, .iinc 7 1), (241, .iload 6), (243, .iload_n 2), (244, .if_icmp .ge 270), (247, .aload 4), (249, .iload 6), (251, .iaload), (252, .iconst 1), (253, .if_icmp .le 270), (256, .aload_n 0), (257, .bipush 9), (259, .invokevirtual 9), (262, .iconst 1), (263, .if_icmp .ne 270), (266, .iconst 1), (267, .goto 271), (270, .iconst 0), (271, .istore 8), (273, .goto 184), (276, .aload_n 0), (277, .iconst 4), (278, .invokevirtual 9), (281, .istore 9), (283, .iload 6), (285, .iload_n 2), (286, .if_icmp .ge 293), (289, .iconst 1), (290, .goto 294), (293, .iconst 0), (294, .istore 10), (296, .iload 10), (298, .ifCond .eq 310), (301, .iload 9), (303, .ifCond .ne 310), (306, .iconst 1), (307, .goto 311), (310, .iconst 0), (311, .istore 11), (313, .aload_n 0), (314, .iload_n 1), (315, .iconst 0), (316, .invokevirtual 30), (319, .iload 6), (321, .if_icmp .ne 372), (324, .aload_n 0), (325, .iload_n 1), (326, .iconst 1), (327, .invokevirtual 30), (330, .iload 7), (332, .if_icmp .ne 372), (335, .aload_n 0), (336, .iload_n 1), (337, .iconst 2), (338, .invokevirtual 30), (341, .aload 4), (343, .iload_n 2), (344, .iaload), (345, .aload 5), (347, .iload_n 2), (348, .iaload), (349, .isub), (350, .if_icmp .ne 372), (353, .aload_n 0), (354, .iload_n 1), (355, .iconst 3), (356, .invokevirtual 30), (359, .iload 10), (361, .ifCond .eq 368), (364, .iconst 1), (365, .goto 369), (368, .iconst 0), (369, .if_icmp .eq 374), (372, .iconst 0), (373, .ireturn), (374, .aload_n 0), (375, .iload_n 1), (376, .iconst 4), (377, .invokevirtual 30), (380, .istore 12), (382, .iconst 0), (383, .istore 13), (385, .iload 13), (387, .iload_n 2), (388, .if_icmp .gt 414), (391, .aload_n 0), (392, .iload_n 1), (393, .iload 13), (395, .invokevirtual 34), (398, .aload 4), (400, .iload 13), (402, .iaload), (403, .if_icmp .eq 408), (406, .iconst 0), (407, .ireturn), (408, .iinc 13 1), (411, .goto 385), (414, .aload_n 0), (415, .iconst 5), (416, .invokevirtual 9), (419, .istore 13), (421, .aload_n 0), (422, .bipush 6), (424, .invokevirtual 9), (427, .istore 14), (429, .aload_n 0), (430, .iload_n 1), (431, .invokevirtual 27), (434, .aload 4), (436, .iload_n 2), (437, .iaload), (438, .aload 5), (440, .iload_n 2), (441, .iaload), (442, .isub), (443, .if_icmp .ne 511), (446, .aload_n 0), (447, .iconst 3), (448, .invokevirtual 9), (451, .iload 12), (453, .if_icmp .ne 511), (456, .iload 12), (458, .iconst 2), (459, .if_icmp .ne 466), (462, .iconst 1), (463, .goto 467), (466, .iconst 0), (467, .iload 11), (469, .if_icmp .ne 511), (472, .aload_n 0), (473, .iconst 4), (474, .invokevirtual 9), (477, .iload 10), (479, .ifCond .eq 494), (482, .iload 11), (484, .ifCond .ne 494), (487, .iload 9), (489, .iconst 1), (490, .isub), (491, .goto 496), (494, .iload 9), (496, .if_icmp .ne 511), (499, .aload_n 0), (500, .iconst 5), (501, .invokevirtual 9), (504, .iload 13), (506, .iconst 1), (507, .iadd), (508, .if_icmp .eq 513), (511, .iconst 0), (512, .ireturn), (513, .aload_n 0), (514, .aload 4), (516, .invokestatic 37), (519, .ifCond .eq 567), (522, .aload_n 0), (523, .iconst 0), (524, .invokevirtual 24), (527, .iload_n 1), (528, .if_icmp .ne 567), (531, .aload_n 0), (532, .bipush 7), (534, .invokevirtual 9), (537, .iload 7), (539, .if_icmp .ne 567), (542, .aload_n 0), (543, .bipush 6), (545, .invokevirtual 9), (548, .iload 14), (550, .bipush 20), (552, .if_icmp .ne 560), (555, .bipush 20), (557, .goto 564), (560, .iload 14), (562, .iconst 1), (563, .iadd), (564, .if_icmp .eq 569), (567, .iconst 0), (568, .ireturn), (569, .aload_n 0), (570, .invokevirtual 41), (573, .iload_n 1), (574, .if_icmp .ne 614), (577, .aload_n 0), (578, .aload 5), (580, .invokestatic 37), (583, .ifCond .eq 614), (586, .aload_n 0), (587, .iconst 3), (588, .invokevirtual 9), (591, .ifCond .ne 614), (594, .aload_n 0), (595, .iconst 4), (596, .invokevirtual 9), (599, .iload 9), (601, .if_icmp .ne 614), (604, .aload_n 0), (605, .iconst 5), (606, .invokevirtual 9), (609, .iload 13), (611, .if_icmp .eq 616), (614, .iconst 0), (615, .ireturn), (616, .aload_n 0), (617, .iload_n 1), (618, .invokevirtual 27), (621, .aload 4), (623, .iload_n 2), (624, .iaload), (625, .aload 5), (627, .iload_n 2), (628, .iaload), (629, .isub), (630, .if_icmp .ne 656), (633, .aload_n 0), (634, .aload 4), (636, .invokestatic 37), (639, .ifCond .eq 656), (642, .aload_n 0), (643, .iconst 3), (644, .invokevirtual 9), (647, .iload 12), (649, .if_icmp .ne 656), (652, .iconst 1), (653, .goto 657), (656, .iconst 0), (657, .ireturn)]
def P_L_same : oz_P := [(0, .iconst 0), (1, .istore_n 2), (2, .iload_n 2), (3, .aload_n 0), (4, .iconst 0), (5, .invokevirtual 9), (8, .if_icmp .gt 47), (11, .iload_n 2), (12, .aload_n 0), (13, .iconst 0), (14, .invokevirtual 9), (17, .if_icmp .ge 28), (20, .aload_n 0), (21, .iload_n 2), (22, .invokevirtual 15), (25, .goto 33), (28, .aload_n 0), (29, .iconst 1), (30, .invokevirtual 9), (33, .aload_n 1), (34, .iload_n 2), (35, .iaload), (36, .if_icmp .eq 41), (39, .iconst 0), (40, .ireturn), (41, .iinc 2 1), (44, .goto 2), (47, .iconst 1), (48, .ireturn)]
def P_L_exact : oz_P := [(0, .iconst 0), (1, .istore_n 2), (2, .iconst 0), (3, .istore_n 3), (4, .iconst 1), (5, .istore 4), (7, .iload 4), (9, .bipush 6), (11, .if_icmp .gt 47), (14, .iload_n 2), (15, .aload_n 0), (16, .iload_n 1), (17, .iload 4), (19, .invokevirtual 45), (22, .iadd), (23, .istore_n 2), (24, .aload_n 0), (25, .iload_n 1), (26, .iload 4), (28, .invokevirtual 45), (31, .ifCond .le 39), (34, .iload 4), (36, .goto 40), (39, .iload_n 3), (40, .istore_n 3), (41, .iinc 4 1), (44, .goto 7), (47, .iload_n 2), (48, .iload_n 1), (49, .if_icmp .eq 54), (52, .iconst 0), (53, .ireturn), (54, .iconst 1), (55, .istore 4), (57, .iload 4), (59, .bipush 7), (61, .if_icmp .ge 82), (64, .aload_n 0), (65, .iload_n 1), (66, .iconst 1), (67, .isub), (68, .iload 4), (70, .invokevirtual 45), (73, .ifCond .le 82), (76, .iinc 4 1), (79, .goto 57), (82, .iconst 1), (83, .istore 5), (85, .iload 5), (87, .bipush 6), (89, .if_icmp .gt 156), (92, .iload 5), (94, .iload 4), (96, .if_icmp .ge 113), (99, .aload_n 0), (100, .iload_n 1), (101, .iconst 1), (102, .isub), (103, .iload 5), (105, .invokevirtual 45), (108, .iconst 1), (109, .isub), (110, .goto 134), (113, .iload 5), (115, .iload 4), (117, .if_icmp .ne 125), (120, .iload 5), (122, .goto 134), (125, .aload_n 0), (126, .iload_n 1), (127, .iconst 1), (128, .isub), (129, .iload 5), (131, .invokevirtual 45), (134, .istore 6), (136, .aload_n 0), (137, .iload_n 1), (138, .iload 5), (140, .invokevirtual 45), (143, .iload 6), (145, .if_icmp .eq 150), (148, .iconst 0), (149, .ireturn), (150, .iinc 5 1), (153, .goto 85), (156, .iload_n 3), (157, .iconst 2), (158, .if_icmp .ge 165), (161, .iconst 2), (162, .goto 166), (165, .iload_n 3), (166, .istore 5), (168, .iload_n 3), (169, .iconst 2), (170, .if_icmp .le 188), (173, .aload_n 0), (174, .iload_n 3), (175, .iconst 1), (176, .isub), (177, .iload_n 1), (178, .invokevirtual 48), (181, .bipush (-5)), (183, .if_icmp .eq 188), (186, .iconst 0), (187, .ireturn), (188, .iconst 0), (189, .istore 6), (191, .iconst 1), (192, .istore 7), (194, .iload 7), (196, .bipush 6), (198, .if_icmp .gt 227), (201, .iload 6), (203, .aload_n 0), (204, .iload_n 1), (205, .iload 7), (207, .invokevirtual 45), (210, .ifCond .le 217), (213, .iconst 1), (214, .goto 218), (217, .iconst 0), (218, .iadd), (219, .istore 6), (221, .iinc 7 1), (224, .goto 194), (227, .aload_n 0), (228, .iload 5), (230, .iload_n 1), (231, .invokevirtual 48), (234, .iload 6), (236, .if_icmp .ne 297), (239, .aload_n 0), (240, .iconst 2), (241, .invokevirtual 9), (244, .iload_n 1), (245, .if_icmp .ne 297), (248, .aload_n 0), (249, .iconst 0), (250, .invokevirtual 9), (253, .iload 5), (255, .if_icmp .ne 297), (258, .aload_n 0), (259, .iload 5), (261, .iconst 1), (262, .isub), (263, .invokevirtual 15), (266, .aload_n 0), (267, .iload_n 1), (268, .iconst 1), (269, .invokevirtual 45), (272, .if_icmp .ne 297), (275, .aload_n 0), (276, .iconst 0), (277, .invokevirtual 51), (280, .iload_n 1), (281, .if_icmp .ne 297), (284, .aload_n 0), (285, .iconst 3), (286, .invokevirtual 51), (289, .iconst 1), (290, .if_icmp .lt 297), (293, .iconst 1), (294, .goto 298), (297, .iconst 0), (298, .ireturn)]
def P_L_law : oz_P := [(0, .new 10), (3, .dup), (4, .invokespecial 54), (7, .astore_n 1), (8, .iconst 0), (9, .istore_n 2), (10, .iload_n 2), (11, .iconst 4), (12, .if_icmp .ge 375), (15, .aload_n 0), (16, .bipush 16), (18, .iload_n 2), (19, .imul), (20, .invokestatic 55), (23, .istore_n 3), (24, .iconst 2), (25, .iload_n 3), (26, .iconst 4), (27, .ishr), (28, .iconst 5), (29, .invokestatic 59), (32, .iadd), (33, .istore 4), (35, .iconst 1), (36, .iload_n 3), (37, .bipush 8), (39, .ishr), (40, .bipush 14), (42, .iload 4), (44, .idiv), (45, .bipush 7), (47, .if_icmp .le 55), (50, .bipush 7), (52, .goto 60), (55, .bipush 14), (57, .iload 4), (59, .idiv), (60, .invokestatic 59), (63, .iadd), (64, .istore 5), (66, .aload_n 1), (67, .iconst 0), (68, .iload_n 3), (69, .iconst 2), (70, .invokestatic 59), (73, .invokevirtual 62), (76, .pop), (77, .aload_n 1), (78, .iconst 1), (79, .iload_n 3), (80, .iconst 2), (81, .ishr), (82, .iconst 4), (83, .invokestatic 59), (86, .ifCond .ne 93), (89, .iconst 1), (90, .goto 94), (93, .iconst 0), (94, .invokevirtual 62), (97, .pop), (98, .aload_n 1), (99, .iconst 2), (100, .iload_n 3), (101, .bipush 11), (103, .ishr), (104, .iconst 2), (105, .invokestatic 59), (108, .invokevirtual 62), (111, .pop), (112, .aload_n 1), (113, .iload 4), (115, .iload 5), (117, .invokevirtual 65), (120, .iload 4), (122, .iload 5), (124, .imul), (125, .if_icmp .ne 186), (128, .aload_n 1), (129, .iconst 4), (130, .invokevirtual 9), (133, .aload_n 1), (134, .bipush 11), (136, .invokevirtual 9), (139, .if_icmp .ne 186), (142, .aload_n 1), (143, .iconst 5), (144, .invokevirtual 9), (147, .ifCond .ne 186), (150, .aload_n 1), (151, .bipush 6), (153, .invokevirtual 9), (156, .ifCond .ne 186), (159, .aload_n 1), (160, .bipush 7), (162, .invokevirtual 9), (165, .bipush (-6)), (167, .if_icmp .ne 186), (170, .aload_n 1), (171, .invokevirtual 41), (174, .bipush (-5)), (176, .if_icmp .ne 186), (179, .aload_n 1), (180, .invokestatic 68), (183, .ifCond .ne 188), (186, .iconst 0), (187, .ireturn), (188, .iconst 0), (189, .istore 6), (191, .iload 6), (193, .bipush 12), (195, .if_icmp .ge 342), (198, .aload_n 0), (199, .bipush 16), (201, .iload_n 2), (202, .imul), (203, .iconst 1), (204, .iadd), (205, .iload 6), (207, .iadd), (208, .invokestatic 55), (211, .istore 7), (213, .iload 7), (215, .iconst 5), (216, .ishr), (217, .bipush 9), (219, .invokestatic 59), (222, .ifCond .ne 248), (225, .aload_n 1), (226, .iload 7), (228, .iconst 2), (229, .invokestatic 59), (232, .iload 7), (234, .iconst 3), (235, .ishr), (236, .iconst 2), (237, .invokestatic 59), (240, .invokevirtual 62), (243, .ifCond .ge 248), (246, .iconst 0), (247, .ireturn), (248, .aload_n 1), (249, .iload 7), (251, .iload 4), (253, .iload 7), (255, .bipush 9), (257, .ishr), (258, .bipush 8), (260, .invokestatic 59), (263, .ifCond .ne 270), (266, .iconst 1), (267, .goto 271), (270, .iconst 0), (271, .iadd), (272, .invokestatic 59), (275, .invokestatic 72), (278, .ifCond .eq 288), (281, .aload_n 1), (282, .invokestatic 68), (285, .ifCond .ne 290), (288, .iconst 0), (289, .ireturn), (290, .aload_n 1), (291, .iconst 3), (292, .invokevirtual 9), (295, .iconst 1), (296, .if_icmp .le 336), (299, .iload 7), (301, .bipush 12), (303, .ishr), (304, .iconst 2), (305, .invokestatic 59), (308, .ifCond .ne 336), (311, .aload_n 1), (312, .bipush 6), (314, .invokevirtual 9), (317, .ifCond .le 336), (320, .aload_n 1), (321, .invokevirtual 41), (324, .ifCond .lt 334), (327, .aload_n 1), (328, .invokestatic 68), (331, .ifCond .ne 336), (334, .iconst 0), (335, .ireturn), (336, .iinc 6 1), (339, .goto 191), (342, .aload_n 1), (343, .iconst 1), (344, .aload_n 0), (345, .bipush 16), (347, .iload_n 2), (348, .imul), (349, .bipush 14), (351, .iadd), (352, .invokestatic 55), (355, .bipush 14), (357, .invokestatic 59), (360, .iadd), (361, .invokestatic 75), (364, .ifCond .ne 369), (367, .iconst 0), (368, .ireturn), (369, .iinc 2 1), (372, .goto 10), (375, .aload_n 1), (376, .bipush 7), (378, .iconst 1), (379, .invokevirtual 65), (382, .bipush (-2)), (384, .if_icmp .ne 492), (387, .aload_n 1), (388, .iconst 2), (389, .bipush 8), (391, .invokevirtual 65), (394, .bipush (-2)), (396, .if_icmp .ne 492), (399, .aload_n 1), (400, .iconst 3), (401, .iconst 5), (402, .invokevirtual 65), (405, .bipush (-4)), (407, .if_icmp .ne 492), (410, .aload_n 1), (411, .iconst 3), (412, .iconst 0), (413, .invokevirtual 62), (416, .bipush (-2)), (418, .if_icmp .ne 492), (421, .aload_n 1), (422, .iconst 0), (423, .iconst 2), (424, .invokevirtual 62), (427, .bipush (-2)), (429, .if_icmp .ne 492), (432, .aload_n 1), (433, .bipush 15), (435, .iconst 1), (436, .invokevirtual 45), (439, .bipush (-2)), (441, .if_icmp .ne 492), (444, .aload_n 1), (445, .iconst 1), (446, .bipush 7), (448, .invokevirtual 45), (451, .bipush (-2)), (453, .if_icmp .ne 492), (456, .aload_n 1), (457, .iconst 1), (458, .iconst 1), (459, .invokevirtual 48), (462, .bipush (-2)), (464, .if_icmp .ne 492), (467, .aload_n 1), (468, .iconst 4), (469, .invokevirtual 51), (472, .bipush (-2)), (474, .if_icmp .ne 492), (477, .aload_n 1), (478, .bipush 14), (480, .invokevirtual 9), (483, .bipush (-2)), (485, .if_icmp .ne 492), (488, .iconst 1), (489, .goto 493), (492, .iconst 0), (493, .ireturn)]
/-! ===== END names ===== -/
