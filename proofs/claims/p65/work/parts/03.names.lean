def RX0 : String := "ClipHibernation$1"
def TX0 : u_T := fun k => match k with
  | _ => ("", "", "", false)
def tyX0 : Nat → FieldType := fun k => match k with
  | _ => .int
theorem nmX0 : ∀ a, a < 0 → ∀ b, b < 0 → a ≠ b → (TX0 a).2.1 ≠ (TX0 b).2.1 := by decide +kernel
theorem tyX0_ok : ∀ k, k < 0 → parseFieldDescriptor (TX0 k).2.2.1 = some (tyX0 k) := by decide +kernel
def RX1 : String := "ClipHibernation$Archive"
def TX1 : u_T := fun k => match k with
  | 0 => ("ClipHibernation$Archive", "week", "I", false)
  | 1 => ("ClipHibernation$Archive", "food", "I", false)
  | 2 => ("ClipHibernation$Archive", "fed", "I", false)
  | 3 => ("ClipHibernation$Archive", "burned", "I", false)
  | 4 => ("ClipHibernation$Archive", "wakings", "I", false)
  | 5 => ("ClipHibernation$Archive", "clipCount", "I", false)
  | 6 => ("ClipHibernation$Archive", "lengths", "[I", true)
  | 7 => ("ClipHibernation$Archive", "paints", "[I", true)
  | 8 => ("ClipHibernation$Archive", "hashes", "[I", true)
  | 9 => ("ClipHibernation$Archive", "states", "[I", true)
  | 10 => ("ClipHibernation$Archive", "fats", "[I", true)
  | 11 => ("ClipHibernation$Archive", "scenes", "[I", true)
  | 12 => ("ClipHibernation$Archive", "reelCount", "I", false)
  | 13 => ("ClipHibernation$Archive", "bedCounts", "[I", true)
  | 14 => ("ClipHibernation$Archive", "beds", "[I", true)
  | 15 => ("ClipHibernation$Archive", "sceneCount", "I", false)
  | 16 => ("ClipHibernation$Archive", "limits", "[I", true)
  | _ => ("ClipHibernation$Archive", "springs", "[I", true)
def tyX1 : Nat → FieldType := fun k => match k with
  | 0 => .int
  | 1 => .int
  | 2 => .int
  | 3 => .int
  | 4 => .int
  | 5 => .int
  | 6 => .array .int
  | 7 => .array .int
  | 8 => .array .int
  | 9 => .array .int
  | 10 => .array .int
  | 11 => .array .int
  | 12 => .int
  | 13 => .array .int
  | 14 => .array .int
  | 15 => .int
  | 16 => .array .int
  | _ => .array .int
theorem nmX1 : ∀ a, a < 18 → ∀ b, b < 18 → a ≠ b → (TX1 a).2.1 ≠ (TX1 b).2.1 := by decide +kernel
theorem tyX1_ok : ∀ k, k < 18 → parseFieldDescriptor (TX1 k).2.2.1 = some (tyX1 k) := by decide +kernel
abbrev cX1_init : ByteArray := prog_3_method_1_code
def yX1_init : MethodName := ⟨RX1, "<init>", "()V"⟩
abbrev cX1_copyFrom : ByteArray := prog_3_method_2_code
def yX1_copyFrom : MethodName := ⟨RX1, "copyFrom", "(LClipHibernation$Archive;)V"⟩
abbrev cX1_empty : ByteArray := prog_3_method_3_code
def yX1_empty : MethodName := ⟨RX1, "empty", "()V"⟩
abbrev cX1_areColours : ByteArray := prog_3_method_4_code
def yX1_areColours : MethodName := ⟨RX1, "areColours", "(I)Z"⟩
abbrev cX1_hasRoomForClip : ByteArray := prog_3_method_5_code
def yX1_hasRoomForClip : MethodName := ⟨RX1, "hasRoomForClip", "()Z"⟩
abbrev cX1_hasRoomForReel : ByteArray := prog_3_method_6_code
def yX1_hasRoomForReel : MethodName := ⟨RX1, "hasRoomForReel", "()Z"⟩
abbrev cX1_hasRoomForScene : ByteArray := prog_3_method_7_code
def yX1_hasRoomForScene : MethodName := ⟨RX1, "hasRoomForScene", "()Z"⟩
abbrev cX1_putClip : ByteArray := prog_3_method_8_code
def yX1_putClip : MethodName := ⟨RX1, "putClip", "(I)I"⟩
abbrev cX1_putReel : ByteArray := prog_3_method_9_code
def yX1_putReel : MethodName := ⟨RX1, "putReel", "(I)I"⟩
abbrev cX1_putScene : ByteArray := prog_3_method_10_code
def yX1_putScene : MethodName := ⟨RX1, "putScene", "(I)I"⟩
abbrev cX1_digits : ByteArray := prog_3_method_11_code
def yX1_digits : MethodName := ⟨RX1, "digits", "(I)I"⟩
abbrev cX1_colourAt : ByteArray := prog_3_method_12_code
def yX1_colourAt : MethodName := ⟨RX1, "colourAt", "(II)I"⟩
abbrev cX1_coloursOf : ByteArray := prog_3_method_13_code
def yX1_coloursOf : MethodName := ⟨RX1, "coloursOf", "(I)I"⟩
abbrev cX1_renewHash : ByteArray := prog_3_method_14_code
def yX1_renewHash : MethodName := ⟨RX1, "renewHash", "(I)V"⟩
abbrev cX1_paintClip : ByteArray := prog_3_method_15_code
def yX1_paintClip : MethodName := ⟨RX1, "paintClip", "(III)I"⟩
abbrev cX1_findPattern : ByteArray := prog_3_method_20_code
def yX1_findPattern : MethodName := ⟨RX1, "findPattern", "(II)I"⟩
abbrev cX1_matchesAt : ByteArray := prog_3_method_21_code
def yX1_matchesAt : MethodName := ⟨RX1, "matchesAt", "(III)Z"⟩
abbrev cX1_cutScene : ByteArray := prog_3_method_25_code
def yX1_cutScene : MethodName := ⟨RX1, "cutScene", "(II)I"⟩
abbrev cX1_inBed : ByteArray := prog_3_method_26_code
def yX1_inBed : MethodName := ⟨RX1, "inBed", "(II)I"⟩
abbrev cX1_setBed : ByteArray := prog_3_method_27_code
def yX1_setBed : MethodName := ⟨RX1, "setBed", "(III)V"⟩
abbrev cX1_placeOf : ByteArray := prog_3_method_28_code
def yX1_placeOf : MethodName := ⟨RX1, "placeOf", "(I)I"⟩
abbrev cX1_sleepersIn : ByteArray := prog_3_method_29_code
def yX1_sleepersIn : MethodName := ⟨RX1, "sleepersIn", "(I)I"⟩
abbrev cX1_homeOf : ByteArray := prog_3_method_30_code
def yX1_homeOf : MethodName := ⟨RX1, "homeOf", "(II)I"⟩
abbrev cX1_wayBed : ByteArray := prog_3_method_31_code
def yX1_wayBed : MethodName := ⟨RX1, "wayBed", "(III)I"⟩
abbrev cX1_passedBeds : ByteArray := prog_3_method_32_code
def yX1_passedBeds : MethodName := ⟨RX1, "passedBeds", "(II)I"⟩
abbrev cX1_refusal : ByteArray := prog_3_method_33_code
def yX1_refusal : MethodName := ⟨RX1, "refusal", "(II)I"⟩
abbrev cX1_layDown : ByteArray := prog_3_method_34_code
def yX1_layDown : MethodName := ⟨RX1, "layDown", "(II)I"⟩
abbrev cX1_rouse : ByteArray := prog_3_method_35_code
def yX1_rouse : MethodName := ⟨RX1, "rouse", "(I)I"⟩
abbrev cX1_leaveBed : ByteArray := prog_3_method_36_code
def yX1_leaveBed : MethodName := ⟨RX1, "leaveBed", "(I)I"⟩
abbrev cX1_airReel : ByteArray := prog_3_method_37_code
def yX1_airReel : MethodName := ⟨RX1, "airReel", "(I)I"⟩
abbrev cX1_looks : ByteArray := prog_3_method_38_code
def yX1_looks : MethodName := ⟨RX1, "looks", "(II)I"⟩
abbrev cX1_mostLooks : ByteArray := prog_3_method_39_code
def yX1_mostLooks : MethodName := ⟨RX1, "mostLooks", "(I)I"⟩
abbrev cX1_allLooks : ByteArray := prog_3_method_40_code
def yX1_allLooks : MethodName := ⟨RX1, "allLooks", "(I)I"⟩
abbrev cX1_nearestReel : ByteArray := prog_3_method_42_code
def yX1_nearestReel : MethodName := ⟨RX1, "nearestReel", "(I)I"⟩
abbrev cX1_mayFeed : ByteArray := prog_3_method_43_code
def yX1_mayFeed : MethodName := ⟨RX1, "mayFeed", "(II)Z"⟩
abbrev cX1_feedClip : ByteArray := prog_3_method_44_code
def yX1_feedClip : MethodName := ⟨RX1, "feedClip", "(II)I"⟩
abbrev cX1_mayStore : ByteArray := prog_3_method_45_code
def yX1_mayStore : MethodName := ⟨RX1, "mayStore", "(I)Z"⟩
abbrev cX1_store : ByteArray := prog_3_method_46_code
def yX1_store : MethodName := ⟨RX1, "store", "(I)I"⟩
abbrev cX1_mayPass : ByteArray := prog_3_method_47_code
def yX1_mayPass : MethodName := ⟨RX1, "mayPass", "(I)Z"⟩
abbrev cX1_pass : ByteArray := prog_3_method_48_code
def yX1_pass : MethodName := ⟨RX1, "pass", "(I)I"⟩
abbrev cX1_burn : ByteArray := prog_3_method_49_code
def yX1_burn : MethodName := ⟨RX1, "burn", "(I)I"⟩
abbrev cX1_refillSprings : ByteArray := prog_3_method_50_code
def yX1_refillSprings : MethodName := ⟨RX1, "refillSprings", "()V"⟩
abbrev cX1_allFat : ByteArray := prog_3_method_52_code
def yX1_allFat : MethodName := ⟨RX1, "allFat", "()I"⟩
abbrev cX1_clipsInState : ByteArray := prog_3_method_53_code
def yX1_clipsInState : MethodName := ⟨RX1, "clipsInState", "(I)I"⟩
abbrev cX1_faults : ByteArray := prog_3_method_54_code
def yX1_faults : MethodName := ⟨RX1, "faults", "()I"⟩
abbrev cX1_bedsWith : ByteArray := prog_3_method_55_code
def yX1_bedsWith : MethodName := ⟨RX1, "bedsWith", "(I)I"⟩
abbrev cX1_isFound : ByteArray := prog_3_method_56_code
def yX1_isFound : MethodName := ⟨RX1, "isFound", "(I)Z"⟩
def RX2 : String := "ClipHibernation$Command"
def TX2 : u_T := fun k => match k with
  | _ => ("", "", "", false)
def tyX2 : Nat → FieldType := fun k => match k with
  | _ => .int
theorem nmX2 : ∀ a, a < 0 → ∀ b, b < 0 → a ≠ b → (TX2 a).2.1 ≠ (TX2 b).2.1 := by decide +kernel
theorem tyX2_ok : ∀ k, k < 0 → parseFieldDescriptor (TX2 k).2.2.1 = some (tyX2 k) := by decide +kernel
def RX3 : String := "ClipHibernation$Script"
def TX3 : u_T := fun k => match k with
  | 0 => ("ClipHibernation$Script", "archive", "LClipHibernation$Archive;", true)
  | 1 => ("ClipHibernation$Script", "text", "LClipHibernation$Text;", true)
  | 2 => ("ClipHibernation$Script", "errorKind", "I", false)
  | 3 => ("ClipHibernation$Script", "errorOffset", "I", false)
  | 4 => ("ClipHibernation$Script", "executed", "I", false)
  | 5 => ("ClipHibernation$Script", "depth", "I", false)
  | 6 => ("ClipHibernation$Script", "bodyStarts", "[I", true)
  | 7 => ("ClipHibernation$Script", "roundsLeft", "[I", true)
  | 8 => ("ClipHibernation$Script", "first", "I", false)
  | 9 => ("ClipHibernation$Script", "second", "I", false)
  | _ => ("ClipHibernation$Script", "third", "I", false)
def tyX3 : Nat → FieldType := fun k => match k with
  | 0 => .object "ClipHibernation$Archive"
  | 1 => .object "ClipHibernation$Text"
  | 2 => .int
  | 3 => .int
  | 4 => .int
  | 5 => .int
  | 6 => .array .int
  | 7 => .array .int
  | 8 => .int
  | 9 => .int
  | _ => .int
theorem nmX3 : ∀ a, a < 11 → ∀ b, b < 11 → a ≠ b → (TX3 a).2.1 ≠ (TX3 b).2.1 := by decide +kernel
theorem tyX3_ok : ∀ k, k < 11 → parseFieldDescriptor (TX3 k).2.2.1 = some (tyX3 k) := by decide +kernel
abbrev cX3_init : ByteArray := prog_5_method_1_code
def yX3_init : MethodName := ⟨RX3, "<init>", "()V"⟩
abbrev cX3_run : ByteArray := prog_5_method_2_code
def yX3_run : MethodName := ⟨RX3, "run", "()V"⟩
abbrev cX3_begin : ByteArray := prog_5_method_3_code
def yX3_begin : MethodName := ⟨RX3, "begin", "()V"⟩
abbrev cX3_fail : ByteArray := prog_5_method_4_code
def yX3_fail : MethodName := ⟨RX3, "fail", "(I)V"⟩
abbrev cX3_expect : ByteArray := prog_5_method_5_code
def yX3_expect : MethodName := ⟨RX3, "expect", "(LClipHibernation$Token;)V"⟩
abbrev cX3_runCommand : ByteArray := prog_5_method_6_code
def yX3_runCommand : MethodName := ⟨RX3, "runCommand", "()V"⟩
abbrev cX3_presentCommand : ByteArray := prog_5_method_7_code
def yX3_presentCommand : MethodName := ⟨RX3, "presentCommand", "()LClipHibernation$Command;"⟩
abbrev cX3_beginRepeat : ByteArray := prog_5_method_8_code
def yX3_beginRepeat : MethodName := ⟨RX3, "beginRepeat", "()V"⟩
abbrev cX3_endRound : ByteArray := prog_5_method_9_code
def yX3_endRound : MethodName := ⟨RX3, "endRound", "()V"⟩
abbrev cX3_readNumbers : ByteArray := prog_5_method_10_code
def yX3_readNumbers : MethodName := ⟨RX3, "readNumbers", "(LClipHibernation$Command;)V"⟩
abbrev cX3_coloursNumber : ByteArray := prog_5_method_11_code
def yX3_coloursNumber : MethodName := ⟨RX3, "coloursNumber", "()I"⟩
abbrev cX3_number : ByteArray := prog_5_method_12_code
def yX3_number : MethodName := ⟨RX3, "number", "(II)I"⟩
abbrev cX3_isRefused : ByteArray := prog_5_method_13_code
def yX3_isRefused : MethodName := ⟨RX3, "isRefused", "(LClipHibernation$Command;)Z"⟩
abbrev cX3_carryOut : ByteArray := prog_5_method_14_code
def yX3_carryOut : MethodName := ⟨RX3, "carryOut", "(LClipHibernation$Command;)V"⟩
def RX4 : String := "ClipHibernation$Text"
def TX4 : u_T := fun k => match k with
  | 0 => ("ClipHibernation$Text", "bytes", "[B", true)
  | 1 => ("ClipHibernation$Text", "size", "I", false)
  | 2 => ("ClipHibernation$Text", "position", "I", false)
  | 3 => ("ClipHibernation$Text", "token", "LClipHibernation$Token;", false)
  | 4 => ("ClipHibernation$Text", "start", "I", false)
  | 5 => ("ClipHibernation$Text", "number", "I", false)
  | _ => ("ClipHibernation$Text", "hasZero", "Z", false)
def tyX4 : Nat → FieldType := fun k => match k with
  | 0 => .array .byte
  | 1 => .int
  | 2 => .int
  | 3 => .object "ClipHibernation$Token"
  | 4 => .int
  | 5 => .int
  | _ => .boolean
theorem nmX4 : ∀ a, a < 7 → ∀ b, b < 7 → a ≠ b → (TX4 a).2.1 ≠ (TX4 b).2.1 := by decide +kernel
theorem tyX4_ok : ∀ k, k < 7 → parseFieldDescriptor (TX4 k).2.2.1 = some (tyX4 k) := by decide +kernel
abbrev cX4_init : ByteArray := prog_6_method_1_code
def yX4_init : MethodName := ⟨RX4, "<init>", "()V"⟩
abbrev cX4_addSigns : ByteArray := prog_6_method_2_code
def yX4_addSigns : MethodName := ⟨RX4, "addSigns", "(Ljava/lang/String;)V"⟩
abbrev cX4_add : ByteArray := prog_6_method_4_code
def yX4_add : MethodName := ⟨RX4, "add", "(I)V"⟩
abbrev cX4_readToken : ByteArray := prog_6_method_5_code
def yX4_readToken : MethodName := ⟨RX4, "readToken", "()V"⟩
abbrev cX4_readWord : ByteArray := prog_6_method_6_code
def yX4_readWord : MethodName := ⟨RX4, "readWord", "()V"⟩
abbrev cX4_readNumber : ByteArray := prog_6_method_7_code
def yX4_readNumber : MethodName := ⟨RX4, "readNumber", "()V"⟩
abbrev cX4_tokenOf : ByteArray := prog_6_method_8_code
def yX4_tokenOf : MethodName := ⟨RX4, "tokenOf", "(I)LClipHibernation$Token;"⟩
abbrev cX4_isWord : ByteArray := prog_6_method_9_code
def yX4_isWord : MethodName := ⟨RX4, "isWord", "(Ljava/lang/String;)Z"⟩
def RX5 : String := "ClipHibernation$Token"
def TX5 : u_T := fun k => match k with
  | _ => ("", "", "", false)
def tyX5 : Nat → FieldType := fun k => match k with
  | _ => .int
theorem nmX5 : ∀ a, a < 0 → ∀ b, b < 0 → a ≠ b → (TX5 a).2.1 ≠ (TX5 b).2.1 := by decide +kernel
theorem tyX5_ok : ∀ k, k < 0 → parseFieldDescriptor (TX5 k).2.2.1 = some (tyX5 k) := by decide +kernel
def RX6 : String := "ClipHibernation"
def TX6 : u_T := fun k => match k with
  | 0 => ("ClipHibernation", "now", "LClipHibernation$Archive;", true)
  | 1 => ("ClipHibernation", "trial", "LClipHibernation$Archive;", true)
  | 2 => ("ClipHibernation", "snapshot", "LClipHibernation$Archive;", true)
  | 3 => ("ClipHibernation", "snapshotSaved", "Z", false)
  | 4 => ("ClipHibernation", "past", "[LClipHibernation$Archive;", true)
  | 5 => ("ClipHibernation", "pastCount", "I", false)
  | 6 => ("ClipHibernation", "pastEnd", "I", false)
  | 7 => ("ClipHibernation", "script", "LClipHibernation$Script;", true)
  | 8 => ("ClipHibernation", "report", "[B", true)
  | _ => ("ClipHibernation", "reportLength", "I", false)
def tyX6 : Nat → FieldType := fun k => match k with
  | 0 => .object "ClipHibernation$Archive"
  | 1 => .object "ClipHibernation$Archive"
  | 2 => .object "ClipHibernation$Archive"
  | 3 => .boolean
  | 4 => .array (.object "ClipHibernation$Archive")
  | 5 => .int
  | 6 => .int
  | 7 => .object "ClipHibernation$Script"
  | 8 => .array .byte
  | _ => .int
theorem nmX6 : ∀ a, a < 10 → ∀ b, b < 10 → a ≠ b → (TX6 a).2.1 ≠ (TX6 b).2.1 := by decide +kernel
theorem tyX6_ok : ∀ k, k < 10 → parseFieldDescriptor (TX6 k).2.2.1 = some (tyX6 k) := by decide +kernel
abbrev cX6_init : ByteArray := prog_1_method_1_code
def yX6_init : MethodName := ⟨RX6, "<init>", "()V"⟩
abbrev cX6_addClip : ByteArray := prog_1_method_5_code
def yX6_addClip : MethodName := ⟨RX6, "addClip", "(I)I"⟩
abbrev cX6_addReel : ByteArray := prog_1_method_6_code
def yX6_addReel : MethodName := ⟨RX6, "addReel", "(I)I"⟩
abbrev cX6_addScene : ByteArray := prog_1_method_7_code
def yX6_addScene : MethodName := ⟨RX6, "addScene", "(I)I"⟩
abbrev cX6_sleep : ByteArray := prog_1_method_8_code
def yX6_sleep : MethodName := ⟨RX6, "sleep", "(II)I"⟩
abbrev cX6_wake : ByteArray := prog_1_method_9_code
def yX6_wake : MethodName := ⟨RX6, "wake", "(I)I"⟩
abbrev cX6_cut : ByteArray := prog_1_method_10_code
def yX6_cut : MethodName := ⟨RX6, "cut", "(II)I"⟩
abbrev cX6_air : ByteArray := prog_1_method_11_code
def yX6_air : MethodName := ⟨RX6, "air", "(I)I"⟩
abbrev cX6_feed : ByteArray := prog_1_method_12_code
def yX6_feed : MethodName := ⟨RX6, "feed", "(II)I"⟩
abbrev cX6_addFood : ByteArray := prog_1_method_13_code
def yX6_addFood : MethodName := ⟨RX6, "addFood", "(I)I"⟩
abbrev cX6_paint : ByteArray := prog_1_method_14_code
def yX6_paint : MethodName := ⟨RX6, "paint", "(III)I"⟩
abbrev cX6_passWeeks : ByteArray := prog_1_method_15_code
def yX6_passWeeks : MethodName := ⟨RX6, "passWeeks", "(I)I"⟩
abbrev cX6_undo : ByteArray := prog_1_method_16_code
def yX6_undo : MethodName := ⟨RX6, "undo", "()I"⟩
abbrev cX6_undoCount : ByteArray := prog_1_method_17_code
def yX6_undoCount : MethodName := ⟨RX6, "undoCount", "()I"⟩
abbrev cX6_saveSnapshot : ByteArray := prog_1_method_18_code
def yX6_saveSnapshot : MethodName := ⟨RX6, "saveSnapshot", "()I"⟩
abbrev cX6_restoreSnapshot : ByteArray := prog_1_method_19_code
def yX6_restoreSnapshot : MethodName := ⟨RX6, "restoreSnapshot", "()I"⟩
abbrev cX6_week : ByteArray := prog_1_method_22_code
def yX6_week : MethodName := ⟨RX6, "week", "()I"⟩
abbrev cX6_food : ByteArray := prog_1_method_23_code
def yX6_food : MethodName := ⟨RX6, "food", "()I"⟩
abbrev cX6_clipCount : ByteArray := prog_1_method_24_code
def yX6_clipCount : MethodName := ⟨RX6, "clipCount", "()I"⟩
abbrev cX6_reelCount : ByteArray := prog_1_method_25_code
def yX6_reelCount : MethodName := ⟨RX6, "reelCount", "()I"⟩
abbrev cX6_sceneCount : ByteArray := prog_1_method_26_code
def yX6_sceneCount : MethodName := ⟨RX6, "sceneCount", "()I"⟩
abbrev cX6_springs : ByteArray := prog_1_method_27_code
def yX6_springs : MethodName := ⟨RX6, "springs", "(I)I"⟩
abbrev cX6_state : ByteArray := prog_1_method_28_code
def yX6_state : MethodName := ⟨RX6, "state", "(I)I"⟩
abbrev cX6_colours : ByteArray := prog_1_method_29_code
def yX6_colours : MethodName := ⟨RX6, "colours", "(I)I"⟩
abbrev cX6_length : ByteArray := prog_1_method_30_code
def yX6_length : MethodName := ⟨RX6, "length", "(I)I"⟩
abbrev cX6_fat : ByteArray := prog_1_method_32_code
def yX6_fat : MethodName := ⟨RX6, "fat", "(I)I"⟩
abbrev cX6_reelOf : ByteArray := prog_1_method_33_code
def yX6_reelOf : MethodName := ⟨RX6, "reelOf", "(I)I"⟩
abbrev cX6_bedOf : ByteArray := prog_1_method_34_code
def yX6_bedOf : MethodName := ⟨RX6, "bedOf", "(I)I"⟩
abbrev cX6_sceneOf : ByteArray := prog_1_method_35_code
def yX6_sceneOf : MethodName := ⟨RX6, "sceneOf", "(I)I"⟩
abbrev cX6_bedCount : ByteArray := prog_1_method_40_code
def yX6_bedCount : MethodName := ⟨RX6, "bedCount", "(I)I"⟩
abbrev cX6_bed : ByteArray := prog_1_method_41_code
def yX6_bed : MethodName := ⟨RX6, "bed", "(II)I"⟩
abbrev cX6_sleepers : ByteArray := prog_1_method_42_code
def yX6_sleepers : MethodName := ⟨RX6, "sleepers", "(I)I"⟩
abbrev cX6_home : ByteArray := prog_1_method_43_code
def yX6_home : MethodName := ⟨RX6, "home", "(II)I"⟩
abbrev cX6_whyNoSleep : ByteArray := prog_1_method_44_code
def yX6_whyNoSleep : MethodName := ⟨RX6, "whyNoSleep", "(II)I"⟩
abbrev cX6_looksFor : ByteArray := prog_1_method_46_code
def yX6_looksFor : MethodName := ⟨RX6, "looksFor", "(II)I"⟩
abbrev cX6_longestLook : ByteArray := prog_1_method_47_code
def yX6_longestLook : MethodName := ⟨RX6, "longestLook", "(I)I"⟩
abbrev cX6_looksIfAired : ByteArray := prog_1_method_48_code
def yX6_looksIfAired : MethodName := ⟨RX6, "looksIfAired", "(I)I"⟩
abbrev cX6_bestReel : ByteArray := prog_1_method_50_code
def yX6_bestReel : MethodName := ⟨RX6, "bestReel", "(I)I"⟩
abbrev cX6_burnedFat : ByteArray := prog_1_method_56_code
def yX6_burnedFat : MethodName := ⟨RX6, "burnedFat", "()I"⟩
abbrev cX6_wakings : ByteArray := prog_1_method_57_code
def yX6_wakings : MethodName := ⟨RX6, "wakings", "()I"⟩
abbrev cX6_fadedClips : ByteArray := prog_1_method_58_code
def yX6_fadedClips : MethodName := ⟨RX6, "fadedClips", "()I"⟩
abbrev cX6_violations : ByteArray := prog_1_method_61_code
def yX6_violations : MethodName := ⟨RX6, "violations", "()I"⟩
abbrev cX6_remember : ByteArray := prog_1_method_66_code
def yX6_remember : MethodName := ⟨RX6, "remember", "()V"⟩
abbrev cX6_needClip : ByteArray := prog_1_method_67_code
def yX6_needClip : MethodName := ⟨RX6, "needClip", "(I)V"⟩
abbrev cX6_needReel : ByteArray := prog_1_method_68_code
def yX6_needReel : MethodName := ⟨RX6, "needReel", "(I)V"⟩
abbrev cX6_needScene : ByteArray := prog_1_method_69_code
def yX6_needScene : MethodName := ⟨RX6, "needScene", "(I)V"⟩
abbrev cX6_needPattern : ByteArray := prog_1_method_70_code
def yX6_needPattern : MethodName := ⟨RX6, "needPattern", "(I)V"⟩
abbrev cX6_needRange : ByteArray := prog_1_method_71_code
def yX6_needRange : MethodName := ⟨RX6, "needRange", "(III)V"⟩
abbrev cX6_refuseIf : ByteArray := prog_1_method_72_code
def yX6_refuseIf : MethodName := ⟨RX6, "refuseIf", "(Z)V"⟩
def RX7 : String := "ClipHibernationModel"
def TX7 : u_T := fun k => match k with
  | _ => ("", "", "", false)
def tyX7 : Nat → FieldType := fun k => match k with
  | _ => .int
theorem nmX7 : ∀ a, a < 0 → ∀ b, b < 0 → a ≠ b → (TX7 a).2.1 ≠ (TX7 b).2.1 := by decide +kernel
theorem tyX7_ok : ∀ k, k < 0 → parseFieldDescriptor (TX7 k).2.2.1 = some (tyX7 k) := by decide +kernel
def RJx145de : String := "java/io/Serializable"
def TJx145de : u_T := fun k => match k with
  | _ => ("", "", "", false)
def tyJx145de : Nat → FieldType := fun k => match k with
  | _ => .int
theorem nmJx145de : ∀ a, a < 0 → ∀ b, b < 0 → a ≠ b → (TJx145de a).2.1 ≠ (TJx145de b).2.1 := by decide +kernel
theorem tyJx145de_ok : ∀ k, k < 0 → parseFieldDescriptor (TJx145de k).2.2.1 = some (tyJx145de k) := by decide +kernel
def RJx9f9b0 : String := "java/lang/CharSequence"
def TJx9f9b0 : u_T := fun k => match k with
  | _ => ("", "", "", false)
def tyJx9f9b0 : Nat → FieldType := fun k => match k with
  | _ => .int
theorem nmJx9f9b0 : ∀ a, a < 0 → ∀ b, b < 0 → a ≠ b → (TJx9f9b0 a).2.1 ≠ (TJx9f9b0 b).2.1 := by decide +kernel
theorem tyJx9f9b0_ok : ∀ k, k < 0 → parseFieldDescriptor (TJx9f9b0 k).2.2.1 = some (tyJx9f9b0 k) := by decide +kernel
def RJxb160c : String := "java/lang/Comparable"
def TJxb160c : u_T := fun k => match k with
  | _ => ("", "", "", false)
def tyJxb160c : Nat → FieldType := fun k => match k with
  | _ => .int
theorem nmJxb160c : ∀ a, a < 0 → ∀ b, b < 0 → a ≠ b → (TJxb160c a).2.1 ≠ (TJxb160c b).2.1 := by decide +kernel
theorem tyJxb160c_ok : ∀ k, k < 0 → parseFieldDescriptor (TJxb160c k).2.2.1 = some (tyJxb160c k) := by decide +kernel
def RJx29ce0 : String := "java/lang/Enum"
def TJx29ce0 : u_T := fun k => match k with
  | _ => ("", "", "", false)
def tyJx29ce0 : Nat → FieldType := fun k => match k with
  | _ => .int
theorem nmJx29ce0 : ∀ a, a < 0 → ∀ b, b < 0 → a ≠ b → (TJx29ce0 a).2.1 ≠ (TJx29ce0 b).2.1 := by decide +kernel
theorem tyJx29ce0_ok : ∀ k, k < 0 → parseFieldDescriptor (TJx29ce0 k).2.2.1 = some (tyJx29ce0 k) := by decide +kernel
abbrev cJx29ce0_ordinal_8abf5 : ByteArray := prog_13_method_2_code
def yJx29ce0_ordinal_8abf5 : MethodName := ⟨RJx29ce0, "ordinal", "()I"⟩
def RJ6 : String := "java/lang/Integer"
def TJ6 : u_T := fun k => match k with
  | _ => ("", "", "", false)
def tyJ6 : Nat → FieldType := fun k => match k with
  | _ => .int
theorem nmJ6 : ∀ a, a < 0 → ∀ b, b < 0 → a ≠ b → (TJ6 a).2.1 ≠ (TJ6 b).2.1 := by decide +kernel
theorem tyJ6_ok : ∀ k, k < 0 → parseFieldDescriptor (TJ6 k).2.2.1 = some (tyJ6 k) := by decide +kernel
abbrev cJ6_bitCount_0f7a4 : ByteArray := prog_18_method_49_code
def yJ6_bitCount_0f7a4 : MethodName := ⟨RJ6, "bitCount", "(I)I"⟩
def RJ9 : String := "java/lang/Math"
def TJ9 : u_T := fun k => match k with
  | _ => ("", "", "", false)
def tyJ9 : Nat → FieldType := fun k => match k with
  | _ => .int
theorem nmJ9 : ∀ a, a < 0 → ∀ b, b < 0 → a ≠ b → (TJ9 a).2.1 ≠ (TJ9 b).2.1 := by decide +kernel
theorem tyJ9_ok : ∀ k, k < 0 → parseFieldDescriptor (TJ9 k).2.2.1 = some (tyJ9 k) := by decide +kernel
abbrev cJ9_abs_0f7a4 : ByteArray := prog_19_method_59_code
def yJ9_abs_0f7a4 : MethodName := ⟨RJ9, "abs", "(I)I"⟩
abbrev cJ9_max_7cf53 : ByteArray := prog_19_method_65_code
def yJ9_max_7cf53 : MethodName := ⟨RJ9, "max", "(II)I"⟩
abbrev cJ9_min_7cf53 : ByteArray := prog_19_method_69_code
def yJ9_min_7cf53 : MethodName := ⟨RJ9, "min", "(II)I"⟩
def RJ0 : String := "java/lang/String"
def TJ0 : u_T := fun k => match k with
  | _ => ("", "", "", false)
def tyJ0 : Nat → FieldType := fun k => match k with
  | _ => .int
theorem nmJ0 : ∀ a, a < 0 → ∀ b, b < 0 → a ≠ b → (TJ0 a).2.1 ≠ (TJ0 b).2.1 := by decide +kernel
theorem tyJ0_ok : ∀ k, k < 0 → parseFieldDescriptor (TJ0 k).2.2.1 = some (tyJ0 k) := by decide +kernel
abbrev cJ0_length_8abf5 : ByteArray := prog_21_method_54_code
def yJ0_length_8abf5 : MethodName := ⟨RJ0, "length", "()I"⟩
abbrev cJ0_charAt_5068e : ByteArray := prog_21_method_56_code
def yJ0_charAt_5068e : MethodName := ⟨RJ0, "charAt", "(I)C"⟩
abbrev cJ0_coder_7d493 : ByteArray := prog_21_method_152_code
def yJ0_coder_7d493 : MethodName := ⟨RJ0, "coder", "()B"⟩
abbrev cJ0_isLatin1_aae02 : ByteArray := prog_21_method_154_code
def yJ0_isLatin1_aae02 : MethodName := ⟨RJ0, "isLatin1", "()Z"⟩
abbrev cJ0_checkIndex_df160 : ByteArray := prog_21_method_155_code
def yJ0_checkIndex_df160 : MethodName := ⟨RJ0, "checkIndex", "(II)V"⟩
def RJ1 : String := "java/lang/StringLatin1"
def TJ1 : u_T := fun k => match k with
  | _ => ("", "", "", false)
def tyJ1 : Nat → FieldType := fun k => match k with
  | _ => .int
theorem nmJ1 : ∀ a, a < 0 → ∀ b, b < 0 → a ≠ b → (TJ1 a).2.1 ≠ (TJ1 b).2.1 := by decide +kernel
theorem tyJ1_ok : ∀ k, k < 0 → parseFieldDescriptor (TJ1 k).2.2.1 = some (tyJ1 k) := by decide +kernel
abbrev cJ1_charAt_3b067 : ByteArray := prog_22_method_2_code
def yJ1_charAt_3b067 : MethodName := ⟨RJ1, "charAt", "([BI)C"⟩
def RJ2 : String := "java/lang/StringUTF16"
def TJ2 : u_T := fun k => match k with
  | _ => ("", "", "", false)
def tyJ2 : Nat → FieldType := fun k => match k with
  | _ => .int
theorem nmJ2 : ∀ a, a < 0 → ∀ b, b < 0 → a ≠ b → (TJ2 a).2.1 ≠ (TJ2 b).2.1 := by decide +kernel
theorem tyJ2_ok : ∀ k, k < 0 → parseFieldDescriptor (TJ2 k).2.2.1 = some (tyJ2 k) := by decide +kernel
abbrev cJ2_getChar_3b067 : ByteArray := prog_23_method_5_code
def yJ2_getChar_3b067 : MethodName := ⟨RJ2, "getChar", "([BI)C"⟩
abbrev cJ2_length_9d52b : ByteArray := prog_23_method_6_code
def yJ2_length_9d52b : MethodName := ⟨RJ2, "length", "([B)I"⟩
abbrev cJ2_charAt_3b067 : ByteArray := prog_23_method_83_code
def yJ2_charAt_3b067 : MethodName := ⟨RJ2, "charAt", "([BI)C"⟩
abbrev cJ2_checkIndex_2214a : ByteArray := prog_23_method_91_code
def yJ2_checkIndex_2214a : MethodName := ⟨RJ2, "checkIndex", "(I[B)V"⟩
def RJ10 : String := "java/lang/System"
def TJ10 : u_T := fun k => match k with
  | _ => ("", "", "", false)
def tyJ10 : Nat → FieldType := fun k => match k with
  | _ => .int
theorem nmJ10 : ∀ a, a < 0 → ∀ b, b < 0 → a ≠ b → (TJ10 a).2.1 ≠ (TJ10 b).2.1 := by decide +kernel
theorem tyJ10_ok : ∀ k, k < 0 → parseFieldDescriptor (TJ10 k).2.2.1 = some (tyJ10 k) := by decide +kernel
def RJxfd54e : String := "java/lang/constant/Constable"
def TJxfd54e : u_T := fun k => match k with
  | _ => ("", "", "", false)
def tyJxfd54e : Nat → FieldType := fun k => match k with
  | _ => .int
theorem nmJxfd54e : ∀ a, a < 0 → ∀ b, b < 0 → a ≠ b → (TJxfd54e a).2.1 ≠ (TJxfd54e b).2.1 := by decide +kernel
theorem tyJxfd54e_ok : ∀ k, k < 0 → parseFieldDescriptor (TJxfd54e k).2.2.1 = some (tyJxfd54e k) := by decide +kernel
def RJx3cf43 : String := "java/lang/constant/ConstantDesc"
def TJx3cf43 : u_T := fun k => match k with
  | _ => ("", "", "", false)
def tyJx3cf43 : Nat → FieldType := fun k => match k with
  | _ => .int
theorem nmJx3cf43 : ∀ a, a < 0 → ∀ b, b < 0 → a ≠ b → (TJx3cf43 a).2.1 ≠ (TJx3cf43 b).2.1 := by decide +kernel
theorem tyJx3cf43_ok : ∀ k, k < 0 → parseFieldDescriptor (TJx3cf43 k).2.2.1 = some (tyJx3cf43 k) := by decide +kernel
def RJ3 : String := "jdk/internal/util/Preconditions"
def TJ3 : u_T := fun k => match k with
  | _ => ("", "", "", false)
def tyJ3 : Nat → FieldType := fun k => match k with
  | _ => .int
theorem nmJ3 : ∀ a, a < 0 → ∀ b, b < 0 → a ≠ b → (TJ3 a).2.1 ≠ (TJ3 b).2.1 := by decide +kernel
theorem tyJ3_ok : ∀ k, k < 0 → parseFieldDescriptor (TJ3 k).2.2.1 = some (tyJ3 k) := by decide +kernel
abbrev cJ3_checkIndex_8e157 : ByteArray := prog_29_method_11_code
def yJ3_checkIndex_8e157 : MethodName := ⟨RJ3, "checkIndex", "(IILjava/util/function/BiFunction;)I"⟩
def RL : String := "ClipHibernationLaw"
abbrev cL_cell : ByteArray := method_2_code
def yL_cell : MethodName := ⟨RL, "cell", "([II)I"⟩
abbrev cL_colours : ByteArray := method_3_code
def yL_colours : MethodName := ⟨RL, "colours", "(II)I"⟩
abbrev cL_deed : ByteArray := method_4_code
def yL_deed : MethodName := ⟨RL, "deed", "(LClipHibernation;I)V"⟩
abbrev cL_holds : ByteArray := method_5_code
def yL_holds : MethodName := ⟨RL, "holds", "(LClipHibernation;)Z"⟩
abbrev cL_isFound : ByteArray := method_6_code
def yL_isFound : MethodName := ⟨RL, "isFound", "(LClipHibernation;II)Z"⟩
abbrev cL_sum : ByteArray := method_7_code
def yL_sum : MethodName := ⟨RL, "sum", "(LClipHibernation;Z)J"⟩
abbrev cL_isAired : ByteArray := method_8_code
def yL_isAired : MethodName := ⟨RL, "isAired", "(LClipHibernation;I)Z"⟩
abbrev cL_isSame : ByteArray := method_9_code
def yL_isSame : MethodName := ⟨RL, "isSame", "(LClipHibernation;II)Z"⟩
abbrev cL_law : ByteArray := code
def yL_law : MethodName := ⟨RL, "law", "([I)Z"⟩
