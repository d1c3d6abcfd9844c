/-! Names, field tables, codes: as the claim prints them (made by wip/whole/names.py); then the words of lw_tbl, each by its place. -/
def RX0 : String := "WaxInEars$Crew"
def TX0 : u_T := fun k => match k with
  | 0 => ("WaxInEars$Crew", "kinds", "[I", true)
  | 1 => ("WaxInEars$Crew", "oars", "[I", true)
  | 2 => ("WaxInEars$Crew", "wills", "[I", true)
  | _ => ("WaxInEars$Crew", "size", "I", false)
def tyX0 : Nat → FieldType := fun k => match k with
  | 0 => .array .int
  | 1 => .array .int
  | 2 => .array .int
  | _ => .int
abbrev wsX00 : List Cond := u_ws RX0 TX0 4
theorem nmX0 : ∀ a, a < 4 → ∀ b, b < 4 → a ≠ b → (TX0 a).2.1 ≠ (TX0 b).2.1 := by decide +kernel
theorem tyX0_ok : ∀ k, k < 4 → parseFieldDescriptor (TX0 k).2.2.1 = some (tyX0 k) := by decide +kernel
abbrev cX0_init : ByteArray := prog_2_method_1_code
def yX0_init : MethodName := ⟨RX0, "<init>", "()V"⟩
abbrev cX0_add : ByteArray := prog_2_method_2_code
def yX0_add : MethodName := ⟨RX0, "add", "(III)V"⟩
abbrev cX0_kindOf : ByteArray := prog_2_method_3_code
def yX0_kindOf : MethodName := ⟨RX0, "kindOf", "(I)I"⟩
abbrev cX0_oarOf : ByteArray := prog_2_method_4_code
def yX0_oarOf : MethodName := ⟨RX0, "oarOf", "(I)I"⟩
abbrev cX0_willOf : ByteArray := prog_2_method_5_code
def yX0_willOf : MethodName := ⟨RX0, "willOf", "(I)I"⟩
abbrev cX0_isOfKind : ByteArray := prog_2_method_6_code
def yX0_isOfKind : MethodName := ⟨RX0, "isOfKind", "(II)Z"⟩
abbrev cX0_everyone : ByteArray := prog_2_method_7_code
def yX0_everyone : MethodName := ⟨RX0, "everyone", "()I"⟩
def RX1 : String := "WaxInEars$Log"
def TX1 : u_T := fun k => match k with
  | 0 => ("WaxInEars$Log", "sets", "[I", true)
  | _ => ("WaxInEars$Log", "size", "I", false)
def tyX1 : Nat → FieldType := fun k => match k with
  | 0 => .array .int
  | _ => .int
abbrev wsX10 : List Cond := u_ws RX1 TX1 2
theorem nmX1 : ∀ a, a < 2 → ∀ b, b < 2 → a ≠ b → (TX1 a).2.1 ≠ (TX1 b).2.1 := by decide +kernel
theorem tyX1_ok : ∀ k, k < 2 → parseFieldDescriptor (TX1 k).2.2.1 = some (tyX1 k) := by decide +kernel
abbrev cX1_init : ByteArray := prog_3_method_1_code
def yX1_init : MethodName := ⟨RX1, "<init>", "()V"⟩
abbrev cX1_add : ByteArray := prog_3_method_2_code
def yX1_add : MethodName := ⟨RX1, "add", "(I)V"⟩
abbrev cX1_setAt : ByteArray := prog_3_method_3_code
def yX1_setAt : MethodName := ⟨RX1, "setAt", "(I)I"⟩
abbrev cX1_copy : ByteArray := prog_3_method_4_code
def yX1_copy : MethodName := ⟨RX1, "copy", "(LWaxInEars$Log;)V"⟩
def RX2 : String := "WaxInEars$Page"
def TX2 : u_T := fun k => match k with
  | 0 => ("WaxInEars$Page", "letters", "[I", true)
  | _ => ("WaxInEars$Page", "size", "I", false)
def tyX2 : Nat → FieldType := fun k => match k with
  | 0 => .array .int
  | _ => .int
abbrev wsX20 : List Cond := u_ws RX2 TX2 2
theorem nmX2 : ∀ a, a < 2 → ∀ b, b < 2 → a ≠ b → (TX2 a).2.1 ≠ (TX2 b).2.1 := by decide +kernel
theorem tyX2_ok : ∀ k, k < 2 → parseFieldDescriptor (TX2 k).2.2.1 = some (tyX2 k) := by decide +kernel
abbrev cX2_init : ByteArray := prog_4_method_1_code
def yX2_init : MethodName := ⟨RX2, "<init>", "()V"⟩
abbrev cX2_add : ByteArray := prog_4_method_2_code
def yX2_add : MethodName := ⟨RX2, "add", "(I)V"⟩
abbrev cX2_codeAt : ByteArray := prog_4_method_3_code
def yX2_codeAt : MethodName := ⟨RX2, "codeAt", "(I)I"⟩
abbrev cX2_isPassage : ByteArray := prog_4_method_4_code
def yX2_isPassage : MethodName := ⟨RX2, "isPassage", "()Z"⟩
abbrev cX2_firstFault : ByteArray := prog_4_method_5_code
def yX2_firstFault : MethodName := ⟨RX2, "firstFault", "()I"⟩
abbrev cX2_isInHead : ByteArray := prog_4_method_6_code
def yX2_isInHead : MethodName := ⟨RX2, "isInHead", "(II)Z"⟩
abbrev cX2_beginsPlace : ByteArray := prog_4_method_7_code
def yX2_beginsPlace : MethodName := ⟨RX2, "beginsPlace", "(I)Z"⟩
abbrev cX2_isSong : ByteArray := prog_4_method_8_code
def yX2_isSong : MethodName := ⟨RX2, "isSong", "(I)Z"⟩
def RX3 : String := "WaxInEars$Passage"
def TX3 : u_T := fun k => match k with
  | 0 => ("WaxInEars$Passage", "songs", "[I", true)
  | 1 => ("WaxInEars$Passage", "rocks", "[I", true)
  | 2 => ("WaxInEars$Passage", "need", "I", false)
  | 3 => ("WaxInEars$Passage", "noon", "I", false)
  | _ => ("WaxInEars$Passage", "size", "I", false)
def tyX3 : Nat → FieldType := fun k => match k with
  | 0 => .array .int
  | 1 => .array .int
  | 2 => .int
  | 3 => .int
  | _ => .int
abbrev wsX30 : List Cond := u_ws RX3 TX3 5
theorem nmX3 : ∀ a, a < 5 → ∀ b, b < 5 → a ≠ b → (TX3 a).2.1 ≠ (TX3 b).2.1 := by decide +kernel
theorem tyX3_ok : ∀ k, k < 5 → parseFieldDescriptor (TX3 k).2.2.1 = some (tyX3 k) := by decide +kernel
abbrev cX3_init : ByteArray := prog_5_method_1_code
def yX3_init : MethodName := ⟨RX3, "<init>", "()V"⟩
abbrev cX3_read : ByteArray := prog_5_method_2_code
def yX3_read : MethodName := ⟨RX3, "read", "(LWaxInEars$Page;)V"⟩
abbrev cX3_rockBy : ByteArray := prog_5_method_3_code
def yX3_rockBy : MethodName := ⟨RX3, "rockBy", "(I)I"⟩
abbrev cX3_addPlace : ByteArray := prog_5_method_4_code
def yX3_addPlace : MethodName := ⟨RX3, "addPlace", "(I)V"⟩
abbrev cX3_setSong : ByteArray := prog_5_method_5_code
def yX3_setSong : MethodName := ⟨RX3, "setSong", "(II)V"⟩
abbrev cX3_songAt : ByteArray := prog_5_method_6_code
def yX3_songAt : MethodName := ⟨RX3, "songAt", "(I)I"⟩
abbrev cX3_rockAt : ByteArray := prog_5_method_7_code
def yX3_rockAt : MethodName := ⟨RX3, "rockAt", "(I)I"⟩
abbrev cX3_copyWeaker : ByteArray := prog_5_method_8_code
def yX3_copyWeaker : MethodName := ⟨RX3, "copyWeaker", "(LWaxInEars$Passage;I)V"⟩
abbrev cX3_copyDrawn : ByteArray := prog_5_method_9_code
def yX3_copyDrawn : MethodName := ⟨RX3, "copyDrawn", "(LWaxInEars$Passage;I)I"⟩
abbrev cX3_seedAfter : ByteArray := prog_5_method_10_code
def yX3_seedAfter : MethodName := ⟨RX3, "seedAfter", "(I)I"⟩
abbrev cX3_copy : ByteArray := prog_5_method_11_code
def yX3_copy : MethodName := ⟨RX3, "copy", "(LWaxInEars$Passage;)V"⟩
def RX4 : String := "WaxInEars$Ship"
def TX4 : u_T := fun k => match k with
  | 0 => ("WaxInEars$Ship", "knots", "[I", true)
  | 1 => ("WaxInEars$Ship", "waxed", "I", false)
  | 2 => ("WaxInEars$Ship", "aboard", "I", false)
  | 3 => ("WaxInEars$Ship", "place", "I", false)
  | 4 => ("WaxInEars$Ship", "strokes", "I", false)
  | _ => ("WaxInEars$Ship", "how", "I", false)
def tyX4 : Nat → FieldType := fun k => match k with
  | 0 => .array .int
  | 1 => .int
  | 2 => .int
  | 3 => .int
  | 4 => .int
  | _ => .int
abbrev wsX40 : List Cond := u_ws RX4 TX4 6
theorem nmX4 : ∀ a, a < 6 → ∀ b, b < 6 → a ≠ b → (TX4 a).2.1 ≠ (TX4 b).2.1 := by decide +kernel
theorem tyX4_ok : ∀ k, k < 6 → parseFieldDescriptor (TX4 k).2.2.1 = some (tyX4 k) := by decide +kernel
abbrev cX4_init : ByteArray := prog_6_method_1_code
def yX4_init : MethodName := ⟨RX4, "<init>", "()V"⟩
abbrev cX4_copy : ByteArray := prog_6_method_2_code
def yX4_copy : MethodName := ⟨RX4, "copy", "(LWaxInEars$Ship;)V"⟩
abbrev cX4_startWith : ByteArray := prog_6_method_3_code
def yX4_startWith : MethodName := ⟨RX4, "startWith", "(I)V"⟩
abbrev cX4_board : ByteArray := prog_6_method_4_code
def yX4_board : MethodName := ⟨RX4, "board", "(I)V"⟩
abbrev cX4_isAboard : ByteArray := prog_6_method_5_code
def yX4_isAboard : MethodName := ⟨RX4, "isAboard", "(I)Z"⟩
abbrev cX4_isWaxed : ByteArray := prog_6_method_6_code
def yX4_isWaxed : MethodName := ⟨RX4, "isWaxed", "(I)Z"⟩
abbrev cX4_setWax : ByteArray := prog_6_method_7_code
def yX4_setWax : MethodName := ⟨RX4, "setWax", "(IZ)V"⟩
abbrev cX4_knotsOf : ByteArray := prog_6_method_8_code
def yX4_knotsOf : MethodName := ⟨RX4, "knotsOf", "(I)I"⟩
abbrev cX4_setKnots : ByteArray := prog_6_method_9_code
def yX4_setKnots : MethodName := ⟨RX4, "setKnots", "(II)V"⟩
abbrev cX4_lostOf : ByteArray := prog_6_method_10_code
def yX4_lostOf : MethodName := ⟨RX4, "lostOf", "(LWaxInEars$Crew;)I"⟩
abbrev cX4_isHearing : ByteArray := prog_6_method_11_code
def yX4_isHearing : MethodName := ⟨RX4, "isHearing", "(ILWaxInEars$Passage;LWaxInEars$Crew;)Z"⟩
abbrev cX4_holdOn : ByteArray := prog_6_method_12_code
def yX4_holdOn : MethodName := ⟨RX4, "holdOn", "(ILWaxInEars$Crew;)I"⟩
abbrev cX4_rowOn : ByteArray := prog_6_method_13_code
def yX4_rowOn : MethodName := ⟨RX4, "rowOn", "(LWaxInEars$Passage;LWaxInEars$Crew;)I"⟩
abbrev cX4_row : ByteArray := prog_6_method_14_code
def yX4_row : MethodName := ⟨RX4, "row", "(LWaxInEars$Passage;LWaxInEars$Crew;)I"⟩
abbrev cX4_comeOn : ByteArray := prog_6_method_15_code
def yX4_comeOn : MethodName := ⟨RX4, "comeOn", "(LWaxInEars$Passage;)V"⟩
abbrev cX4_swimmersAt : ByteArray := prog_6_method_16_code
def yX4_swimmersAt : MethodName := ⟨RX4, "swimmersAt", "(LWaxInEars$Passage;LWaxInEars$Crew;)I"⟩
abbrev cX4_isStriking : ByteArray := prog_6_method_17_code
def yX4_isStriking : MethodName := ⟨RX4, "isStriking", "(ILWaxInEars$Passage;LWaxInEars$Crew;)Z"⟩
abbrev cX4_freeOars : ByteArray := prog_6_method_18_code
def yX4_freeOars : MethodName := ⟨RX4, "freeOars", "(LWaxInEars$Crew;)I"⟩
abbrev cX4_isFree : ByteArray := prog_6_method_19_code
def yX4_isFree : MethodName := ⟨RX4, "isFree", "(I)Z"⟩
def RX5 : String := "WaxInEars"
def TX5 : u_T := fun k => match k with
  | 0 => ("WaxInEars", "page", "LWaxInEars$Page;", true)
  | 1 => ("WaxInEars", "passage", "LWaxInEars$Passage;", true)
  | 2 => ("WaxInEars", "crew", "LWaxInEars$Crew;", true)
  | 3 => ("WaxInEars", "ship", "LWaxInEars$Ship;", true)
  | 4 => ("WaxInEars", "log", "LWaxInEars$Log;", true)
  | 5 => ("WaxInEars", "keptShip", "LWaxInEars$Ship;", true)
  | 6 => ("WaxInEars", "keptLog", "LWaxInEars$Log;", true)
  | 7 => ("WaxInEars", "keptMen", "I", false)
  | 8 => ("WaxInEars", "isKept", "Z", false)
  | 9 => ("WaxInEars", "trialShip", "LWaxInEars$Ship;", true)
  | 10 => ("WaxInEars", "trialPassage", "LWaxInEars$Passage;", true)
  | _ => ("WaxInEars", "timesRead", "I", false)
def tyX5 : Nat → FieldType := fun k => match k with
  | 0 => .object "WaxInEars$Page"
  | 1 => .object "WaxInEars$Passage"
  | 2 => .object "WaxInEars$Crew"
  | 3 => .object "WaxInEars$Ship"
  | 4 => .object "WaxInEars$Log"
  | 5 => .object "WaxInEars$Ship"
  | 6 => .object "WaxInEars$Log"
  | 7 => .int
  | 8 => .boolean
  | 9 => .object "WaxInEars$Ship"
  | 10 => .object "WaxInEars$Passage"
  | _ => .int
abbrev wsX50 : List Cond := u_ws RX5 TX5 12
theorem nmX5 : ∀ a, a < 12 → ∀ b, b < 12 → a ≠ b → (TX5 a).2.1 ≠ (TX5 b).2.1 := by decide +kernel
theorem tyX5_ok : ∀ k, k < 12 → parseFieldDescriptor (TX5 k).2.2.1 = some (tyX5 k) := by decide +kernel
abbrev cX5_init : ByteArray := prog_1_method_1_code
def yX5_init : MethodName := ⟨RX5, "<init>", "()V"⟩
abbrev cX5_letter : ByteArray := prog_1_method_2_code
def yX5_letter : MethodName := ⟨RX5, "letter", "(I)I"⟩
abbrev cX5_blank : ByteArray := prog_1_method_3_code
def yX5_blank : MethodName := ⟨RX5, "blank", "()I"⟩
abbrev cX5_fault : ByteArray := prog_1_method_4_code
def yX5_fault : MethodName := ⟨RX5, "fault", "()I"⟩
abbrev cX5_passage : ByteArray := prog_1_method_5_code
def yX5_passage : MethodName := ⟨RX5, "passage", "()I"⟩
abbrev cX5_place : ByteArray := prog_1_method_6_code
def yX5_place : MethodName := ⟨RX5, "place", "(II)I"⟩
abbrev cX5_man : ByteArray := prog_1_method_7_code
def yX5_man : MethodName := ⟨RX5, "man", "(III)I"⟩
abbrev cX5_about : ByteArray := prog_1_method_8_code
def yX5_about : MethodName := ⟨RX5, "about", "(II)I"⟩
abbrev cX5_as : ByteArray := prog_1_method_9_code
def yX5_as : MethodName := ⟨RX5, "as", "(II)I"⟩
abbrev cX5_wax : ByteArray := prog_1_method_10_code
def yX5_wax : MethodName := ⟨RX5, "wax", "(IZ)I"⟩
abbrev cX5_bind : ByteArray := prog_1_method_11_code
def yX5_bind : MethodName := ⟨RX5, "bind", "(II)I"⟩
abbrev cX5_stroke : ByteArray := prog_1_method_12_code
def yX5_stroke : MethodName := ⟨RX5, "stroke", "()I"⟩
abbrev cX5_outcome : ByteArray := prog_1_method_13_code
def yX5_outcome : MethodName := ⟨RX5, "outcome", "(I)I"⟩
abbrev cX5_waxing : ByteArray := prog_1_method_14_code
def yX5_waxing : MethodName := ⟨RX5, "waxing", "(II)I"⟩
abbrev cX5_hold : ByteArray := prog_1_method_15_code
def yX5_hold : MethodName := ⟨RX5, "hold", "(I)I"⟩
abbrev cX5_listener : ByteArray := prog_1_method_16_code
def yX5_listener : MethodName := ⟨RX5, "listener", "()I"⟩
abbrev cX5_sold : ByteArray := prog_1_method_17_code
def yX5_sold : MethodName := ⟨RX5, "sold", "()I"⟩
abbrev cX5_log : ByteArray := prog_1_method_18_code
def yX5_log : MethodName := ⟨RX5, "log", "(I)I"⟩
abbrev cX5_forget : ByteArray := prog_1_method_19_code
def yX5_forget : MethodName := ⟨RX5, "forget", "()I"⟩
abbrev cX5_fits : ByteArray := prog_1_method_20_code
def yX5_fits : MethodName := ⟨RX5, "fits", "()I"⟩
abbrev cX5_sure : ByteArray := prog_1_method_21_code
def yX5_sure : MethodName := ⟨RX5, "sure", "(I)I"⟩
abbrev cX5_voyages : ByteArray := prog_1_method_22_code
def yX5_voyages : MethodName := ⟨RX5, "voyages", "(III)I"⟩
abbrev cX5_image : ByteArray := prog_1_method_23_code
def yX5_image : MethodName := ⟨RX5, "image", "()I"⟩
abbrev cX5_restore : ByteArray := prog_1_method_24_code
def yX5_restore : MethodName := ⟨RX5, "restore", "()I"⟩
abbrev cX5_count : ByteArray := prog_1_method_25_code
def yX5_count : MethodName := ⟨RX5, "count", "(I)I"⟩
abbrev cX5_digest : ByteArray := prog_1_method_26_code
def yX5_digest : MethodName := ⟨RX5, "digest", "()J"⟩
abbrev cX5_mix : ByteArray := prog_1_method_27_code
def yX5_mix : MethodName := ⟨RX5, "mix", "(JJ)J"⟩
abbrev cX5_hasPassage : ByteArray := prog_1_method_28_code
def yX5_hasPassage : MethodName := ⟨RX5, "hasPassage", "()Z"⟩
abbrev cX5_isKnown : ByteArray := prog_1_method_29_code
def yX5_isKnown : MethodName := ⟨RX5, "isKnown", "(I)Z"⟩
abbrev cX5_canGoOn : ByteArray := prog_1_method_30_code
def yX5_canGoOn : MethodName := ⟨RX5, "canGoOn", "()Z"⟩
abbrev cX5_rankWithWax : ByteArray := prog_1_method_31_code
def yX5_rankWithWax : MethodName := ⟨RX5, "rankWithWax", "(I)I"⟩
abbrev cX5_rankWithListener : ByteArray := prog_1_method_32_code
def yX5_rankWithListener : MethodName := ⟨RX5, "rankWithListener", "(I)I"⟩
abbrev cX5_rankOfTrial : ByteArray := prog_1_method_33_code
def yX5_rankOfTrial : MethodName := ⟨RX5, "rankOfTrial", "()I"⟩
abbrev cX5_fittingSetsWith : ByteArray := prog_1_method_34_code
def yX5_fittingSetsWith : MethodName := ⟨RX5, "fittingSetsWith", "(I)I"⟩
abbrev cX5_isFitting : ByteArray := prog_1_method_35_code
def yX5_isFitting : MethodName := ⟨RX5, "isFitting", "(I)Z"⟩
abbrev cX5_isKind : ByteArray := prog_1_method_36_code
def yX5_isKind : MethodName := ⟨RX5, "isKind", "(I)Z"⟩
abbrev cX5_asInt : ByteArray := prog_1_method_37_code
def yX5_asInt : MethodName := ⟨RX5, "asInt", "(Z)I"⟩
def RX6 : String := "WaxInEarsModel"
def TX6 : u_T := fun k => match k with
  | 0 => ("WaxInEarsModel", "isPassage", "Z", false)
  | 1 => ("WaxInEarsModel", "passages", "I", false)
  | 2 => ("WaxInEarsModel", "need", "I", false)
  | 3 => ("WaxInEarsModel", "noon", "I", false)
  | 4 => ("WaxInEarsModel", "places", "I", false)
  | 5 => ("WaxInEarsModel", "songOf", "[I", true)
  | 6 => ("WaxInEarsModel", "rockOf", "[I", true)
  | 7 => ("WaxInEarsModel", "men", "I", false)
  | 8 => ("WaxInEarsModel", "kindOf", "[I", true)
  | 9 => ("WaxInEarsModel", "oarOf", "[I", true)
  | 10 => ("WaxInEarsModel", "willOf", "[I", true)
  | 11 => ("WaxInEarsModel", "knotsOf", "[I", true)
  | 12 => ("WaxInEarsModel", "waxSet", "I", false)
  | 13 => ("WaxInEarsModel", "lostSet", "I", false)
  | 14 => ("WaxInEarsModel", "place", "I", false)
  | 15 => ("WaxInEarsModel", "stroke", "I", false)
  | 16 => ("WaxInEarsModel", "how", "I", false)
  | 17 => ("WaxInEarsModel", "swamSet", "I", false)
  | 18 => ("WaxInEarsModel", "logged", "I", false)
  | 19 => ("WaxInEarsModel", "logOf", "[I", true)
  | 20 => ("WaxInEarsModel", "pageLength", "I", false)
  | 21 => ("WaxInEarsModel", "page", "[B", true)
  | 22 => ("WaxInEarsModel", "faultAt", "I", false)
  | 23 => ("WaxInEarsModel", "isWhole", "Z", false)
  | 24 => ("WaxInEarsModel", "newNeed", "I", false)
  | 25 => ("WaxInEarsModel", "newNoon", "I", false)
  | 26 => ("WaxInEarsModel", "newPlaces", "I", false)
  | 27 => ("WaxInEarsModel", "newSong", "[I", true)
  | 28 => ("WaxInEarsModel", "newRock", "[I", true)
  | 29 => ("WaxInEarsModel", "savedWax", "I", false)
  | 30 => ("WaxInEarsModel", "savedLost", "I", false)
  | 31 => ("WaxInEarsModel", "savedPlace", "I", false)
  | 32 => ("WaxInEarsModel", "savedStroke", "I", false)
  | 33 => ("WaxInEarsModel", "savedHow", "I", false)
  | 34 => ("WaxInEarsModel", "savedKnots", "[I", true)
  | 35 => ("WaxInEarsModel", "savedSong", "[I", true)
  | 36 => ("WaxInEarsModel", "hadOf", "[I", true)
  | 37 => ("WaxInEarsModel", "seedNow", "J", false)
  | 38 => ("WaxInEarsModel", "isKept", "Z", false)
  | 39 => ("WaxInEarsModel", "keptPassage", "I", false)
  | 40 => ("WaxInEarsModel", "keptMen", "I", false)
  | 41 => ("WaxInEarsModel", "keptWax", "I", false)
  | 42 => ("WaxInEarsModel", "keptLost", "I", false)
  | 43 => ("WaxInEarsModel", "keptPlace", "I", false)
  | 44 => ("WaxInEarsModel", "keptStroke", "I", false)
  | 45 => ("WaxInEarsModel", "keptHow", "I", false)
  | 46 => ("WaxInEarsModel", "keptLogged", "I", false)
  | 47 => ("WaxInEarsModel", "keptKnots", "[I", true)
  | 48 => ("WaxInEarsModel", "keptLogOf", "[I", true)
  | _ => ("WaxInEarsModel", "h", "J", false)
def tyX6 : Nat → FieldType := fun k => match k with
  | 0 => .boolean
  | 1 => .int
  | 2 => .int
  | 3 => .int
  | 4 => .int
  | 5 => .array .int
  | 6 => .array .int
  | 7 => .int
  | 8 => .array .int
  | 9 => .array .int
  | 10 => .array .int
  | 11 => .array .int
  | 12 => .int
  | 13 => .int
  | 14 => .int
  | 15 => .int
  | 16 => .int
  | 17 => .int
  | 18 => .int
  | 19 => .array .int
  | 20 => .int
  | 21 => .array .byte
  | 22 => .int
  | 23 => .boolean
  | 24 => .int
  | 25 => .int
  | 26 => .int
  | 27 => .array .int
  | 28 => .array .int
  | 29 => .int
  | 30 => .int
  | 31 => .int
  | 32 => .int
  | 33 => .int
  | 34 => .array .int
  | 35 => .array .int
  | 36 => .array .int
  | 37 => .long
  | 38 => .boolean
  | 39 => .int
  | 40 => .int
  | 41 => .int
  | 42 => .int
  | 43 => .int
  | 44 => .int
  | 45 => .int
  | 46 => .int
  | 47 => .array .int
  | 48 => .array .int
  | _ => .long
abbrev wsX60 : List Cond := u_ws RX6 TX6 50
theorem nmX6 : ∀ a, a < 50 → ∀ b, b < 50 → a ≠ b → (TX6 a).2.1 ≠ (TX6 b).2.1 := by decide +kernel
theorem tyX6_ok : ∀ k, k < 50 → parseFieldDescriptor (TX6 k).2.2.1 = some (tyX6 k) := by decide +kernel
abbrev cX6_init : ByteArray := prog_8_method_1_code
def yX6_init : MethodName := ⟨RX6, "<init>", "()V"⟩
abbrev cX6_within : ByteArray := prog_8_method_3_code
def yX6_within : MethodName := ⟨RX6, "within", "(III)Z"⟩
abbrev cX6_has : ByteArray := prog_8_method_4_code
def yX6_has : MethodName := ⟨RX6, "has", "(II)Z"⟩
abbrev cX6_size : ByteArray := prog_8_method_5_code
def yX6_size : MethodName := ⟨RX6, "size", "(I)I"⟩
abbrev cX6_letter : ByteArray := prog_8_method_6_code
def yX6_letter : MethodName := ⟨RX6, "letter", "(I)I"⟩
abbrev cX6_blank : ByteArray := prog_8_method_7_code
def yX6_blank : MethodName := ⟨RX6, "blank", "()I"⟩
abbrev cX6_nextState : ByteArray := prog_8_method_8_code
def yX6_nextState : MethodName := ⟨RX6, "nextState", "(II)I"⟩
abbrev cX6_placeState : ByteArray := prog_8_method_9_code
def yX6_placeState : MethodName := ⟨RX6, "placeState", "(I)I"⟩
abbrev cX6_readPassage : ByteArray := prog_8_method_10_code
def yX6_readPassage : MethodName := ⟨RX6, "readPassage", "()V"⟩
abbrev cX6_fault : ByteArray := prog_8_method_11_code
def yX6_fault : MethodName := ⟨RX6, "fault", "()I"⟩
abbrev cX6_passage : ByteArray := prog_8_method_12_code
def yX6_passage : MethodName := ⟨RX6, "passage", "()I"⟩
abbrev cX6_begin : ByteArray := prog_8_method_13_code
def yX6_begin : MethodName := ⟨RX6, "begin", "()V"⟩
abbrev cX6_place : ByteArray := prog_8_method_14_code
def yX6_place : MethodName := ⟨RX6, "place", "(II)I"⟩
abbrev cX6_isMan : ByteArray := prog_8_method_15_code
def yX6_isMan : MethodName := ⟨RX6, "isMan", "(I)Z"⟩
abbrev cX6_man : ByteArray := prog_8_method_16_code
def yX6_man : MethodName := ⟨RX6, "man", "(III)I"⟩
abbrev cX6_hears : ByteArray := prog_8_method_17_code
def yX6_hears : MethodName := ⟨RX6, "hears", "(I)Z"⟩
abbrev cX6_holds : ByteArray := prog_8_method_18_code
def yX6_holds : MethodName := ⟨RX6, "holds", "(I)I"⟩
abbrev cX6_manNow : ByteArray := prog_8_method_19_code
def yX6_manNow : MethodName := ⟨RX6, "manNow", "(II)I"⟩
abbrev cX6_about : ByteArray := prog_8_method_20_code
def yX6_about : MethodName := ⟨RX6, "about", "(II)I"⟩
abbrev cX6_as : ByteArray := prog_8_method_21_code
def yX6_as : MethodName := ⟨RX6, "as", "(II)I"⟩
abbrev cX6_wax : ByteArray := prog_8_method_22_code
def yX6_wax : MethodName := ⟨RX6, "wax", "(IZ)I"⟩
abbrev cX6_bind : ByteArray := prog_8_method_23_code
def yX6_bind : MethodName := ⟨RX6, "bind", "(II)I"⟩
abbrev cX6_everybody : ByteArray := prog_8_method_24_code
def yX6_everybody : MethodName := ⟨RX6, "everybody", "()I"⟩
abbrev cX6_swims : ByteArray := prog_8_method_25_code
def yX6_swims : MethodName := ⟨RX6, "swims", "(II)Z"⟩
abbrev cX6_anyHears : ByteArray := prog_8_method_26_code
def yX6_anyHears : MethodName := ⟨RX6, "anyHears", "()Z"⟩
abbrev cX6_anySees : ByteArray := prog_8_method_27_code
def yX6_anySees : MethodName := ⟨RX6, "anySees", "()Z"⟩
abbrev cX6_oars : ByteArray := prog_8_method_28_code
def yX6_oars : MethodName := ⟨RX6, "oars", "()I"⟩
abbrev cX6_goStroke : ByteArray := prog_8_method_29_code
def yX6_goStroke : MethodName := ⟨RX6, "goStroke", "()V"⟩
abbrev cX6_isOn : ByteArray := prog_8_method_30_code
def yX6_isOn : MethodName := ⟨RX6, "isOn", "()Z"⟩
abbrev cX6_stroke : ByteArray := prog_8_method_31_code
def yX6_stroke : MethodName := ⟨RX6, "stroke", "()I"⟩
abbrev cX6_save : ByteArray := prog_8_method_32_code
def yX6_save : MethodName := ⟨RX6, "save", "()V"⟩
abbrev cX6_back : ByteArray := prog_8_method_33_code
def yX6_back : MethodName := ⟨RX6, "back", "()V"⟩
abbrev cX6_goOn : ByteArray := prog_8_method_34_code
def yX6_goOn : MethodName := ⟨RX6, "goOn", "()V"⟩
abbrev cX6_badness : ByteArray := prog_8_method_35_code
def yX6_badness : MethodName := ⟨RX6, "badness", "()I"⟩
abbrev cX6_outcomeNow : ByteArray := prog_8_method_36_code
def yX6_outcomeNow : MethodName := ⟨RX6, "outcomeNow", "(I)I"⟩
abbrev cX6_outcome : ByteArray := prog_8_method_37_code
def yX6_outcome : MethodName := ⟨RX6, "outcome", "(I)I"⟩
abbrev cX6_waxingNow : ByteArray := prog_8_method_38_code
def yX6_waxingNow : MethodName := ⟨RX6, "waxingNow", "(II)I"⟩
abbrev cX6_waxing : ByteArray := prog_8_method_39_code
def yX6_waxing : MethodName := ⟨RX6, "waxing", "(II)I"⟩
abbrev cX6_holdNow : ByteArray := prog_8_method_40_code
def yX6_holdNow : MethodName := ⟨RX6, "holdNow", "(I)I"⟩
abbrev cX6_hold : ByteArray := prog_8_method_41_code
def yX6_hold : MethodName := ⟨RX6, "hold", "(I)I"⟩
abbrev cX6_listenerNow : ByteArray := prog_8_method_42_code
def yX6_listenerNow : MethodName := ⟨RX6, "listenerNow", "()I"⟩
abbrev cX6_listener : ByteArray := prog_8_method_43_code
def yX6_listener : MethodName := ⟨RX6, "listener", "()I"⟩
abbrev cX6_soldNow : ByteArray := prog_8_method_44_code
def yX6_soldNow : MethodName := ⟨RX6, "soldNow", "()I"⟩
abbrev cX6_sold : ByteArray := prog_8_method_45_code
def yX6_sold : MethodName := ⟨RX6, "sold", "()I"⟩
abbrev cX6_log : ByteArray := prog_8_method_46_code
def yX6_log : MethodName := ⟨RX6, "log", "(I)I"⟩
abbrev cX6_forget : ByteArray := prog_8_method_47_code
def yX6_forget : MethodName := ⟨RX6, "forget", "()I"⟩
abbrev cX6_isLoggedSo : ByteArray := prog_8_method_48_code
def yX6_isLoggedSo : MethodName := ⟨RX6, "isLoggedSo", "(I)Z"⟩
abbrev cX6_layFits : ByteArray := prog_8_method_49_code
def yX6_layFits : MethodName := ⟨RX6, "layFits", "()I"⟩
abbrev cX6_fits : ByteArray := prog_8_method_50_code
def yX6_fits : MethodName := ⟨RX6, "fits", "()I"⟩
abbrev cX6_sureNow : ByteArray := prog_8_method_51_code
def yX6_sureNow : MethodName := ⟨RX6, "sureNow", "(I)I"⟩
abbrev cX6_sure : ByteArray := prog_8_method_52_code
def yX6_sure : MethodName := ⟨RX6, "sure", "(I)I"⟩
abbrev cX6_draw : ByteArray := prog_8_method_53_code
def yX6_draw : MethodName := ⟨RX6, "draw", "(I)I"⟩
abbrev cX6_voyagesNow : ByteArray := prog_8_method_54_code
def yX6_voyagesNow : MethodName := ⟨RX6, "voyagesNow", "(III)I"⟩
abbrev cX6_voyages : ByteArray := prog_8_method_55_code
def yX6_voyages : MethodName := ⟨RX6, "voyages", "(III)I"⟩
abbrev cX6_image : ByteArray := prog_8_method_56_code
def yX6_image : MethodName := ⟨RX6, "image", "()I"⟩
abbrev cX6_restore : ByteArray := prog_8_method_57_code
def yX6_restore : MethodName := ⟨RX6, "restore", "()I"⟩
abbrev cX6_howMany : ByteArray := prog_8_method_58_code
def yX6_howMany : MethodName := ⟨RX6, "howMany", "(I)I"⟩
abbrev cX6_count : ByteArray := prog_8_method_59_code
def yX6_count : MethodName := ⟨RX6, "count", "(I)I"⟩
abbrev cX6_mix : ByteArray := prog_8_method_60_code
def yX6_mix : MethodName := ⟨RX6, "mix", "(J)V"⟩
abbrev cX6_mixOutcome : ByteArray := prog_8_method_61_code
def yX6_mixOutcome : MethodName := ⟨RX6, "mixOutcome", "()V"⟩
abbrev cX6_digest : ByteArray := prog_8_method_62_code
def yX6_digest : MethodName := ⟨RX6, "digest", "()J"⟩
def RJ6 : String := "java/lang/Integer"
def TJ6 : u_T := fun k => match k with
  | _ => ("", "", "", false)
def tyJ6 : Nat → FieldType := fun k => match k with
  | _ => .int
abbrev wsJ60 : List Cond := u_ws RJ6 TJ6 0
theorem nmJ6 : ∀ a, a < 0 → ∀ b, b < 0 → a ≠ b → (TJ6 a).2.1 ≠ (TJ6 b).2.1 := by decide +kernel
theorem tyJ6_ok : ∀ k, k < 0 → parseFieldDescriptor (TJ6 k).2.2.1 = some (tyJ6 k) := by decide +kernel
abbrev cJ6_bitCount_0f7a4 : ByteArray := prog_9_method_49_code
def yJ6_bitCount_0f7a4 : MethodName := ⟨RJ6, "bitCount", "(I)I"⟩
def RJ9 : String := "java/lang/Math"
def TJ9 : u_T := fun k => match k with
  | _ => ("", "", "", false)
def tyJ9 : Nat → FieldType := fun k => match k with
  | _ => .int
abbrev wsJ90 : List Cond := u_ws RJ9 TJ9 0
theorem nmJ9 : ∀ a, a < 0 → ∀ b, b < 0 → a ≠ b → (TJ9 a).2.1 ≠ (TJ9 b).2.1 := by decide +kernel
theorem tyJ9_ok : ∀ k, k < 0 → parseFieldDescriptor (TJ9 k).2.2.1 = some (tyJ9 k) := by decide +kernel
abbrev cJ9_max_7cf53 : ByteArray := prog_10_method_65_code
def yJ9_max_7cf53 : MethodName := ⟨RJ9, "max", "(II)I"⟩
def RJ10 : String := "java/lang/System"
def TJ10 : u_T := fun k => match k with
  | _ => ("", "", "", false)
def tyJ10 : Nat → FieldType := fun k => match k with
  | _ => .int
abbrev wsJ100 : List Cond := u_ws RJ10 TJ10 0
theorem nmJ10 : ∀ a, a < 0 → ∀ b, b < 0 → a ≠ b → (TJ10 a).2.1 ≠ (TJ10 b).2.1 := by decide +kernel
theorem tyJ10_ok : ∀ k, k < 0 → parseFieldDescriptor (TJ10 k).2.2.1 = some (tyJ10 k) := by decide +kernel
def RL : String := "WaxInEarsLaw"
abbrev cL_law : ByteArray := code
def yL_law : MethodName := ⟨RL, "law", "([I)Z"⟩
abbrev vwCl : List vw_C := [(RX0, TX0, 4), (RX1, TX1, 2), (RX2, TX2, 2), (RX3, TX3, 5), (RX4, TX4, 6), (RX5, TX5, 12), (RX6, TX6, 50)]
/-- the words of lw_tbl that hold in every frame of the run -/
def lw_good : List Cond := lw_tbl.filter goodWord
theorem tw_in {w : Cond} {i : Nat} (h : lw_tbl[i]? = some w) (hg : goodWord w = true) : w ∈ lw_good := List.mem_filter.mpr ⟨List.mem_of_getElem? h, hg⟩
theorem tw_sub (ws : List Cond) (ps : List Nat) (hp : ws = ps.filterMap (fun i => lw_tbl[i]?)) (hg : ws.all goodWord = true) : ∀ w ∈ ws, w ∈ lw_good := by
  intro w hw
  refine List.mem_filter.mpr ⟨?_, List.all_eq_true.mp hg w hw⟩
  rw [hp] at hw
  obtain ⟨i, -, hi⟩ := List.mem_filterMap.mp hw
  first | exact List.mem_of_getElem? hi | exact List.getElem?_mem hi
theorem inX0 : ∀ w ∈ u_ws RX0 TX0 4, w ∈ lw_good := tw_sub _ [124, 126, 128, 130] (by decide +kernel) (by decide +kernel)
theorem inX1 : ∀ w ∈ u_ws RX1 TX1 2, w ∈ lw_good := tw_sub _ [172, 174] (by decide +kernel) (by decide +kernel)
theorem inX2 : ∀ w ∈ u_ws RX2 TX2 2, w ∈ lw_good := tw_sub _ [78, 80] (by decide +kernel) (by decide +kernel)
theorem inX3 : ∀ w ∈ u_ws RX3 TX3 5, w ∈ lw_good := tw_sub _ [101, 103, 105, 107, 109] (by decide +kernel) (by decide +kernel)
theorem inX4 : ∀ w ∈ u_ws RX4 TX4 6, w ∈ lw_good := tw_sub _ [150, 152, 154, 156, 158, 160] (by decide +kernel) (by decide +kernel)
theorem inX5 : ∀ w ∈ u_ws RX5 TX5 12, w ∈ lw_good := tw_sub _ [189, 191, 193, 195, 197, 199, 201, 203, 205, 207, 209, 211] (by decide +kernel) (by decide +kernel)
theorem inX6 : ∀ w ∈ u_ws RX6 TX6 50, w ∈ lw_good := tw_sub _ [631, 633, 635, 637, 639, 641, 643, 645, 647, 649, 651, 653, 655, 657, 659, 661, 663, 665, 667, 669, 671, 673, 675, 677, 679, 681, 683, 685, 687, 689, 691, 693, 695, 697, 699, 701, 703, 705, 707, 709, 711, 713, 715, 717, 719, 721, 723, 725, 727, 729] (by decide +kernel) (by decide +kernel)
theorem tw_0 : Cond.selects RX2 yX2_isInHead yX2_isInHead ∈ lw_good := tw_in (i := 0) (by decide +kernel) (by decide +kernel)
theorem tw_1 : Cond.selects RX3 yX3_setSong yX3_setSong ∈ lw_good := tw_in (i := 1) (by decide +kernel) (by decide +kernel)
theorem tw_2 : Cond.selects RX3 yX3_addPlace yX3_addPlace ∈ lw_good := tw_in (i := 2) (by decide +kernel) (by decide +kernel)
theorem tw_3 : Cond.selects RX5 yX5_hasPassage yX5_hasPassage ∈ lw_good := tw_in (i := 3) (by decide +kernel) (by decide +kernel)
theorem tw_4 : Cond.selects RX5 yX5_isKnown yX5_isKnown ∈ lw_good := tw_in (i := 4) (by decide +kernel) (by decide +kernel)
theorem tw_5 : Cond.selects RX5 yX5_canGoOn yX5_canGoOn ∈ lw_good := tw_in (i := 5) (by decide +kernel) (by decide +kernel)
theorem tw_6 : Cond.selects RX4 yX4_swimmersAt yX4_swimmersAt ∈ lw_good := tw_in (i := 6) (by decide +kernel) (by decide +kernel)
theorem tw_7 : Cond.selects RX4 yX4_isStriking yX4_isStriking ∈ lw_good := tw_in (i := 7) (by decide +kernel) (by decide +kernel)
theorem tw_8 : Cond.selects RX4 yX4_isFree yX4_isFree ∈ lw_good := tw_in (i := 8) (by decide +kernel) (by decide +kernel)
theorem tw_9 : Cond.selects RX4 yX4_freeOars yX4_freeOars ∈ lw_good := tw_in (i := 9) (by decide +kernel) (by decide +kernel)
theorem tw_10 : Cond.selects RX4 yX4_comeOn yX4_comeOn ∈ lw_good := tw_in (i := 10) (by decide +kernel) (by decide +kernel)
theorem tw_11 : Cond.selects RX5 yX5_rankWithWax yX5_rankWithWax ∈ lw_good := tw_in (i := 11) (by decide +kernel) (by decide +kernel)
theorem tw_12 : Cond.selects RX5 yX5_rankOfTrial yX5_rankOfTrial ∈ lw_good := tw_in (i := 12) (by decide +kernel) (by decide +kernel)
theorem tw_13 : Cond.selects RX5 yX5_rankWithListener yX5_rankWithListener ∈ lw_good := tw_in (i := 13) (by decide +kernel) (by decide +kernel)
theorem tw_14 : Cond.selects RX3 yX3_copy yX3_copy ∈ lw_good := tw_in (i := 14) (by decide +kernel) (by decide +kernel)
theorem tw_15 : Cond.selects RX5 yX5_fittingSetsWith yX5_fittingSetsWith ∈ lw_good := tw_in (i := 15) (by decide +kernel) (by decide +kernel)
theorem tw_16 : Cond.selects RX5 yX5_isFitting yX5_isFitting ∈ lw_good := tw_in (i := 16) (by decide +kernel) (by decide +kernel)
theorem tw_17 : Cond.selects RX6 yX6_readPassage yX6_readPassage ∈ lw_good := tw_in (i := 17) (by decide +kernel) (by decide +kernel)
theorem tw_18 : Cond.selects RX6 yX6_nextState yX6_nextState ∈ lw_good := tw_in (i := 18) (by decide +kernel) (by decide +kernel)
theorem tw_19 : Cond.selects RX6 yX6_placeState yX6_placeState ∈ lw_good := tw_in (i := 19) (by decide +kernel) (by decide +kernel)
theorem tw_20 : Cond.selects RX6 yX6_begin yX6_begin ∈ lw_good := tw_in (i := 20) (by decide +kernel) (by decide +kernel)
theorem tw_21 : Cond.selects RX6 yX6_isMan yX6_isMan ∈ lw_good := tw_in (i := 21) (by decide +kernel) (by decide +kernel)
theorem tw_22 : Cond.selects RX6 yX6_manNow yX6_manNow ∈ lw_good := tw_in (i := 22) (by decide +kernel) (by decide +kernel)
theorem tw_23 : Cond.selects RX6 yX6_hears yX6_hears ∈ lw_good := tw_in (i := 23) (by decide +kernel) (by decide +kernel)
theorem tw_24 : Cond.selects RX6 yX6_holds yX6_holds ∈ lw_good := tw_in (i := 24) (by decide +kernel) (by decide +kernel)
theorem tw_25 : Cond.selects RX6 yX6_isOn yX6_isOn ∈ lw_good := tw_in (i := 25) (by decide +kernel) (by decide +kernel)
theorem tw_26 : Cond.selects RX6 yX6_goStroke yX6_goStroke ∈ lw_good := tw_in (i := 26) (by decide +kernel) (by decide +kernel)
theorem tw_27 : Cond.selects RX6 yX6_swims yX6_swims ∈ lw_good := tw_in (i := 27) (by decide +kernel) (by decide +kernel)
theorem tw_28 : Cond.selects RX6 yX6_everybody yX6_everybody ∈ lw_good := tw_in (i := 28) (by decide +kernel) (by decide +kernel)
theorem tw_29 : Cond.selects RX6 yX6_anyHears yX6_anyHears ∈ lw_good := tw_in (i := 29) (by decide +kernel) (by decide +kernel)
theorem tw_30 : Cond.selects RX6 yX6_anySees yX6_anySees ∈ lw_good := tw_in (i := 30) (by decide +kernel) (by decide +kernel)
theorem tw_31 : Cond.selects RX6 yX6_oars yX6_oars ∈ lw_good := tw_in (i := 31) (by decide +kernel) (by decide +kernel)
theorem tw_32 : Cond.selects RX6 yX6_outcomeNow yX6_outcomeNow ∈ lw_good := tw_in (i := 32) (by decide +kernel) (by decide +kernel)
theorem tw_33 : Cond.selects RX6 yX6_save yX6_save ∈ lw_good := tw_in (i := 33) (by decide +kernel) (by decide +kernel)
theorem tw_34 : Cond.selects RX6 yX6_goOn yX6_goOn ∈ lw_good := tw_in (i := 34) (by decide +kernel) (by decide +kernel)
theorem tw_35 : Cond.selects RX6 yX6_back yX6_back ∈ lw_good := tw_in (i := 35) (by decide +kernel) (by decide +kernel)
theorem tw_36 : Cond.selects RX6 yX6_waxingNow yX6_waxingNow ∈ lw_good := tw_in (i := 36) (by decide +kernel) (by decide +kernel)
theorem tw_37 : Cond.selects RX6 yX6_badness yX6_badness ∈ lw_good := tw_in (i := 37) (by decide +kernel) (by decide +kernel)
theorem tw_38 : Cond.selects RX6 yX6_holdNow yX6_holdNow ∈ lw_good := tw_in (i := 38) (by decide +kernel) (by decide +kernel)
theorem tw_39 : Cond.selects RX6 yX6_listenerNow yX6_listenerNow ∈ lw_good := tw_in (i := 39) (by decide +kernel) (by decide +kernel)
theorem tw_40 : Cond.selects RX6 yX6_soldNow yX6_soldNow ∈ lw_good := tw_in (i := 40) (by decide +kernel) (by decide +kernel)
theorem tw_41 : Cond.selects RX6 yX6_layFits yX6_layFits ∈ lw_good := tw_in (i := 41) (by decide +kernel) (by decide +kernel)
theorem tw_42 : Cond.selects RX6 yX6_isLoggedSo yX6_isLoggedSo ∈ lw_good := tw_in (i := 42) (by decide +kernel) (by decide +kernel)
theorem tw_43 : Cond.selects RX6 yX6_sureNow yX6_sureNow ∈ lw_good := tw_in (i := 43) (by decide +kernel) (by decide +kernel)
theorem tw_44 : Cond.selects RX6 yX6_voyagesNow yX6_voyagesNow ∈ lw_good := tw_in (i := 44) (by decide +kernel) (by decide +kernel)
theorem tw_45 : Cond.selects RX6 yX6_draw yX6_draw ∈ lw_good := tw_in (i := 45) (by decide +kernel) (by decide +kernel)
theorem tw_46 : Cond.selects RX6 yX6_howMany yX6_howMany ∈ lw_good := tw_in (i := 46) (by decide +kernel) (by decide +kernel)
theorem tw_47 : Cond.selects RX6 yX6_mix yX6_mix ∈ lw_good := tw_in (i := 47) (by decide +kernel) (by decide +kernel)
theorem tw_48 : Cond.selects RX6 yX6_mixOutcome yX6_mixOutcome ∈ lw_good := tw_in (i := 48) (by decide +kernel) (by decide +kernel)
theorem tw_49 : Cond.initialized RL ∈ lw_good := tw_in (i := 49) (by decide +kernel) (by decide +kernel)
theorem tw_50 : Cond.initialized RX5 ∈ lw_good := tw_in (i := 50) (by decide +kernel) (by decide +kernel)
theorem tw_51 : Cond.initialized RX2 ∈ lw_good := tw_in (i := 51) (by decide +kernel) (by decide +kernel)
theorem tw_52 : Cond.initialized RX3 ∈ lw_good := tw_in (i := 52) (by decide +kernel) (by decide +kernel)
theorem tw_53 : Cond.initialized RX0 ∈ lw_good := tw_in (i := 53) (by decide +kernel) (by decide +kernel)
theorem tw_54 : Cond.initialized RX4 ∈ lw_good := tw_in (i := 54) (by decide +kernel) (by decide +kernel)
theorem tw_55 : Cond.initialized RX1 ∈ lw_good := tw_in (i := 55) (by decide +kernel) (by decide +kernel)
theorem tw_56 : Cond.initialized RX6 ∈ lw_good := tw_in (i := 56) (by decide +kernel) (by decide +kernel)
theorem tw_57 : Cond.initialized RJ10 ∈ lw_good := tw_in (i := 57) (by decide +kernel) (by decide +kernel)
theorem tw_58 : Cond.initialized RJ6 ∈ lw_good := tw_in (i := 58) (by decide +kernel) (by decide +kernel)
theorem tw_59 : Cond.initialized RJ9 ∈ lw_good := tw_in (i := 59) (by decide +kernel) (by decide +kernel)
theorem tw_60 : Cond.classLink RL 7 RX5 ∈ lw_good := tw_in (i := 60) (by decide +kernel) (by decide +kernel)
theorem tw_61 : Cond.instantiable RX5 12 ∈ lw_good := tw_in (i := 61) (by decide +kernel) (by decide +kernel)
theorem tw_62 : Cond.methodLink RL 9 yX5_init ∈ lw_good := tw_in (i := 62) (by decide +kernel) (by decide +kernel)
theorem tw_63 : Cond.instanceMethod yX5_init ∈ lw_good := tw_in (i := 63) (by decide +kernel) (by decide +kernel)
theorem tw_64 : Cond.code yX5_init cX5_init 1 none ∈ lw_good := tw_in (i := 64) (by decide +kernel) (by decide +kernel)
theorem tw_65 : Cond.methodLink RX5 3 objectInit ∈ lw_good := tw_in (i := 65) (by decide +kernel) (by decide +kernel)
theorem tw_66 : Cond.instanceMethod objectInit ∈ lw_good := tw_in (i := 66) (by decide +kernel) (by decide +kernel)
theorem tw_67 : Cond.code objectInit ⟨#[0xb1]⟩ 1 none ∈ lw_good := tw_in (i := 67) (by decide +kernel) (by decide +kernel)
theorem tw_68 : Cond.classLink RX5 9 RX2 ∈ lw_good := tw_in (i := 68) (by decide +kernel) (by decide +kernel)
theorem tw_69 : Cond.instantiable RX2 2 ∈ lw_good := tw_in (i := 69) (by decide +kernel) (by decide +kernel)
theorem tw_70 : Cond.methodLinkNest RX5 11 yX2_init "WaxInEars" ∈ lw_tbl := List.mem_of_getElem? (i := 70) (by decide +kernel)
theorem tw_71 : Cond.instanceMethod yX2_init ∈ lw_good := tw_in (i := 71) (by decide +kernel) (by decide +kernel)
theorem tw_72 : Cond.code yX2_init cX2_init 1 none ∈ lw_good := tw_in (i := 72) (by decide +kernel) (by decide +kernel)
theorem tw_73 : Cond.methodLink RX2 3 objectInit ∈ lw_good := tw_in (i := 73) (by decide +kernel) (by decide +kernel)
theorem tw_74 : Cond.fieldLink RX2 9 "WaxInEars$Page" "letters" "[I" ∈ lw_good := tw_in (i := 74) (by decide +kernel) (by decide +kernel)
theorem tw_75 : Cond.fieldLink RX2 15 "WaxInEars$Page" "size" "I" ∈ lw_good := tw_in (i := 75) (by decide +kernel) (by decide +kernel)
theorem tw_76 : Cond.fieldLink RX5 56 "WaxInEars$Page" "size" "I" ∈ lw_good := tw_in (i := 76) (by decide +kernel) (by decide +kernel)
theorem tw_77 : Cond.fieldLink RX3 34 "WaxInEars$Page" "size" "I" ∈ lw_good := tw_in (i := 77) (by decide +kernel) (by decide +kernel)
theorem tw_83 : Cond.arrayClass .int ∈ lw_good := tw_in (i := 83) (by decide +kernel) (by decide +kernel)
theorem tw_84 : Cond.classLink RX5 16 RX3 ∈ lw_good := tw_in (i := 84) (by decide +kernel) (by decide +kernel)
theorem tw_85 : Cond.instantiable RX3 5 ∈ lw_good := tw_in (i := 85) (by decide +kernel) (by decide +kernel)
theorem tw_86 : Cond.methodLinkNest RX5 18 yX3_init "WaxInEars" ∈ lw_tbl := List.mem_of_getElem? (i := 86) (by decide +kernel)
theorem tw_87 : Cond.instanceMethod yX3_init ∈ lw_good := tw_in (i := 87) (by decide +kernel) (by decide +kernel)
theorem tw_88 : Cond.code yX3_init cX3_init 1 none ∈ lw_good := tw_in (i := 88) (by decide +kernel) (by decide +kernel)
theorem tw_89 : Cond.methodLink RX3 3 objectInit ∈ lw_good := tw_in (i := 89) (by decide +kernel) (by decide +kernel)
theorem tw_90 : Cond.fieldLink RX3 9 "WaxInEars$Passage" "songs" "[I" ∈ lw_good := tw_in (i := 90) (by decide +kernel) (by decide +kernel)
theorem tw_91 : Cond.fieldLink RX3 15 "WaxInEars$Passage" "rocks" "[I" ∈ lw_good := tw_in (i := 91) (by decide +kernel) (by decide +kernel)
theorem tw_92 : Cond.fieldLink RX3 24 "WaxInEars$Passage" "need" "I" ∈ lw_good := tw_in (i := 92) (by decide +kernel) (by decide +kernel)
theorem tw_93 : Cond.fieldLink RX4 92 "WaxInEars$Passage" "need" "I" ∈ lw_good := tw_in (i := 93) (by decide +kernel) (by decide +kernel)
theorem tw_94 : Cond.fieldLink RX5 216 "WaxInEars$Passage" "need" "I" ∈ lw_good := tw_in (i := 94) (by decide +kernel) (by decide +kernel)
theorem tw_95 : Cond.fieldLink RX3 28 "WaxInEars$Passage" "noon" "I" ∈ lw_good := tw_in (i := 95) (by decide +kernel) (by decide +kernel)
theorem tw_96 : Cond.fieldLink RX4 63 "WaxInEars$Passage" "noon" "I" ∈ lw_good := tw_in (i := 96) (by decide +kernel) (by decide +kernel)
theorem tw_97 : Cond.fieldLink RX5 219 "WaxInEars$Passage" "noon" "I" ∈ lw_good := tw_in (i := 97) (by decide +kernel) (by decide +kernel)
theorem tw_98 : Cond.fieldLink RX3 31 "WaxInEars$Passage" "size" "I" ∈ lw_good := tw_in (i := 98) (by decide +kernel) (by decide +kernel)
theorem tw_99 : Cond.fieldLink RX5 88 "WaxInEars$Passage" "size" "I" ∈ lw_good := tw_in (i := 99) (by decide +kernel) (by decide +kernel)
theorem tw_100 : Cond.fieldLink RX4 99 "WaxInEars$Passage" "size" "I" ∈ lw_good := tw_in (i := 100) (by decide +kernel) (by decide +kernel)
theorem tw_112 : Cond.classLink RX5 23 RX0 ∈ lw_good := tw_in (i := 112) (by decide +kernel) (by decide +kernel)
theorem tw_113 : Cond.instantiable RX0 4 ∈ lw_good := tw_in (i := 113) (by decide +kernel) (by decide +kernel)
theorem tw_114 : Cond.methodLinkNest RX5 25 yX0_init "WaxInEars" ∈ lw_tbl := List.mem_of_getElem? (i := 114) (by decide +kernel)
theorem tw_115 : Cond.instanceMethod yX0_init ∈ lw_good := tw_in (i := 115) (by decide +kernel) (by decide +kernel)
theorem tw_116 : Cond.code yX0_init cX0_init 1 none ∈ lw_good := tw_in (i := 116) (by decide +kernel) (by decide +kernel)
theorem tw_117 : Cond.methodLink RX0 3 objectInit ∈ lw_good := tw_in (i := 117) (by decide +kernel) (by decide +kernel)
theorem tw_118 : Cond.fieldLink RX0 9 "WaxInEars$Crew" "kinds" "[I" ∈ lw_good := tw_in (i := 118) (by decide +kernel) (by decide +kernel)
theorem tw_119 : Cond.fieldLink RX0 15 "WaxInEars$Crew" "oars" "[I" ∈ lw_good := tw_in (i := 119) (by decide +kernel) (by decide +kernel)
theorem tw_120 : Cond.fieldLink RX0 18 "WaxInEars$Crew" "wills" "[I" ∈ lw_good := tw_in (i := 120) (by decide +kernel) (by decide +kernel)
theorem tw_121 : Cond.fieldLink RX0 21 "WaxInEars$Crew" "size" "I" ∈ lw_good := tw_in (i := 121) (by decide +kernel) (by decide +kernel)
theorem tw_122 : Cond.fieldLink RX5 76 "WaxInEars$Crew" "size" "I" ∈ lw_good := tw_in (i := 122) (by decide +kernel) (by decide +kernel)
theorem tw_123 : Cond.fieldLink RX4 45 "WaxInEars$Crew" "size" "I" ∈ lw_good := tw_in (i := 123) (by decide +kernel) (by decide +kernel)
theorem tw_133 : Cond.classLink RX5 30 RX4 ∈ lw_good := tw_in (i := 133) (by decide +kernel) (by decide +kernel)
theorem tw_134 : Cond.instantiable RX4 6 ∈ lw_good := tw_in (i := 134) (by decide +kernel) (by decide +kernel)
theorem tw_135 : Cond.methodLinkNest RX5 32 yX4_init "WaxInEars" ∈ lw_tbl := List.mem_of_getElem? (i := 135) (by decide +kernel)
theorem tw_136 : Cond.instanceMethod yX4_init ∈ lw_good := tw_in (i := 136) (by decide +kernel) (by decide +kernel)
theorem tw_137 : Cond.code yX4_init cX4_init 1 none ∈ lw_good := tw_in (i := 137) (by decide +kernel) (by decide +kernel)
theorem tw_138 : Cond.methodLink RX4 3 objectInit ∈ lw_good := tw_in (i := 138) (by decide +kernel) (by decide +kernel)
theorem tw_139 : Cond.fieldLink RX4 9 "WaxInEars$Ship" "knots" "[I" ∈ lw_good := tw_in (i := 139) (by decide +kernel) (by decide +kernel)
theorem tw_140 : Cond.fieldLink RX4 21 "WaxInEars$Ship" "waxed" "I" ∈ lw_good := tw_in (i := 140) (by decide +kernel) (by decide +kernel)
theorem tw_141 : Cond.fieldLink RX5 257 "WaxInEars$Ship" "waxed" "I" ∈ lw_good := tw_in (i := 141) (by decide +kernel) (by decide +kernel)
theorem tw_142 : Cond.fieldLink RX4 25 "WaxInEars$Ship" "aboard" "I" ∈ lw_good := tw_in (i := 142) (by decide +kernel) (by decide +kernel)
theorem tw_143 : Cond.fieldLink RX5 187 "WaxInEars$Ship" "aboard" "I" ∈ lw_good := tw_in (i := 143) (by decide +kernel) (by decide +kernel)
theorem tw_144 : Cond.fieldLink RX4 28 "WaxInEars$Ship" "place" "I" ∈ lw_good := tw_in (i := 144) (by decide +kernel) (by decide +kernel)
theorem tw_145 : Cond.fieldLink RX5 103 "WaxInEars$Ship" "place" "I" ∈ lw_good := tw_in (i := 145) (by decide +kernel) (by decide +kernel)
theorem tw_146 : Cond.fieldLink RX4 31 "WaxInEars$Ship" "strokes" "I" ∈ lw_good := tw_in (i := 146) (by decide +kernel) (by decide +kernel)
theorem tw_147 : Cond.fieldLink RX5 106 "WaxInEars$Ship" "strokes" "I" ∈ lw_good := tw_in (i := 147) (by decide +kernel) (by decide +kernel)
theorem tw_148 : Cond.fieldLink RX4 34 "WaxInEars$Ship" "how" "I" ∈ lw_good := tw_in (i := 148) (by decide +kernel) (by decide +kernel)
theorem tw_149 : Cond.fieldLink RX5 152 "WaxInEars$Ship" "how" "I" ∈ lw_good := tw_in (i := 149) (by decide +kernel) (by decide +kernel)
theorem tw_163 : Cond.classLink RX5 37 RX1 ∈ lw_good := tw_in (i := 163) (by decide +kernel) (by decide +kernel)
theorem tw_164 : Cond.instantiable RX1 2 ∈ lw_good := tw_in (i := 164) (by decide +kernel) (by decide +kernel)
theorem tw_165 : Cond.methodLinkNest RX5 39 yX1_init "WaxInEars" ∈ lw_tbl := List.mem_of_getElem? (i := 165) (by decide +kernel)
theorem tw_166 : Cond.instanceMethod yX1_init ∈ lw_good := tw_in (i := 166) (by decide +kernel) (by decide +kernel)
theorem tw_167 : Cond.code yX1_init cX1_init 1 none ∈ lw_good := tw_in (i := 167) (by decide +kernel) (by decide +kernel)
theorem tw_168 : Cond.methodLink RX1 3 objectInit ∈ lw_good := tw_in (i := 168) (by decide +kernel) (by decide +kernel)
theorem tw_169 : Cond.fieldLink RX1 9 "WaxInEars$Log" "sets" "[I" ∈ lw_good := tw_in (i := 169) (by decide +kernel) (by decide +kernel)
theorem tw_170 : Cond.fieldLink RX1 15 "WaxInEars$Log" "size" "I" ∈ lw_good := tw_in (i := 170) (by decide +kernel) (by decide +kernel)
theorem tw_171 : Cond.fieldLink RX5 77 "WaxInEars$Log" "size" "I" ∈ lw_good := tw_in (i := 171) (by decide +kernel) (by decide +kernel)
theorem tw_177 : Cond.fieldLink RX5 12 "WaxInEars" "page" "LWaxInEars$Page;" ∈ lw_good := tw_in (i := 177) (by decide +kernel) (by decide +kernel)
theorem tw_178 : Cond.fieldLink RX5 19 "WaxInEars" "passage" "LWaxInEars$Passage;" ∈ lw_good := tw_in (i := 178) (by decide +kernel) (by decide +kernel)
theorem tw_179 : Cond.fieldLink RX5 26 "WaxInEars" "crew" "LWaxInEars$Crew;" ∈ lw_good := tw_in (i := 179) (by decide +kernel) (by decide +kernel)
theorem tw_180 : Cond.fieldLink RX5 33 "WaxInEars" "ship" "LWaxInEars$Ship;" ∈ lw_good := tw_in (i := 180) (by decide +kernel) (by decide +kernel)
theorem tw_181 : Cond.fieldLink RX5 40 "WaxInEars" "log" "LWaxInEars$Log;" ∈ lw_good := tw_in (i := 181) (by decide +kernel) (by decide +kernel)
theorem tw_182 : Cond.fieldLink RX5 44 "WaxInEars" "keptShip" "LWaxInEars$Ship;" ∈ lw_good := tw_in (i := 182) (by decide +kernel) (by decide +kernel)
theorem tw_183 : Cond.fieldLink RX5 47 "WaxInEars" "keptLog" "LWaxInEars$Log;" ∈ lw_good := tw_in (i := 183) (by decide +kernel) (by decide +kernel)
theorem tw_184 : Cond.fieldLink RX5 213 "WaxInEars" "keptMen" "I" ∈ lw_good := tw_in (i := 184) (by decide +kernel) (by decide +kernel)
theorem tw_185 : Cond.fieldLink RX5 81 "WaxInEars" "isKept" "Z" ∈ lw_good := tw_in (i := 185) (by decide +kernel) (by decide +kernel)
theorem tw_186 : Cond.fieldLink RX5 50 "WaxInEars" "trialShip" "LWaxInEars$Ship;" ∈ lw_good := tw_in (i := 186) (by decide +kernel) (by decide +kernel)
theorem tw_187 : Cond.fieldLink RX5 53 "WaxInEars" "trialPassage" "LWaxInEars$Passage;" ∈ lw_good := tw_in (i := 187) (by decide +kernel) (by decide +kernel)
theorem tw_188 : Cond.fieldLink RX5 85 "WaxInEars" "timesRead" "I" ∈ lw_good := tw_in (i := 188) (by decide +kernel) (by decide +kernel)
theorem tw_214 : Cond.methodLink RL 13 yX5_letter ∈ lw_good := tw_in (i := 214) (by decide +kernel) (by decide +kernel)
theorem tw_215 : Cond.instanceMethod yX5_letter ∈ lw_good := tw_in (i := 215) (by decide +kernel) (by decide +kernel)
theorem tw_216 : Cond.selects RX5 yX5_letter yX5_letter ∈ lw_good := tw_in (i := 216) (by decide +kernel) (by decide +kernel)
theorem tw_217 : Cond.code yX5_letter cX5_letter 2 (some .int) ∈ lw_good := tw_in (i := 217) (by decide +kernel) (by decide +kernel)
theorem tw_218 : Cond.methodLink RX5 60 yX2_add ∈ lw_good := tw_in (i := 218) (by decide +kernel) (by decide +kernel)
theorem tw_219 : Cond.instanceMethod yX2_add ∈ lw_good := tw_in (i := 219) (by decide +kernel) (by decide +kernel)
theorem tw_220 : Cond.selects RX2 yX2_add yX2_add ∈ lw_good := tw_in (i := 220) (by decide +kernel) (by decide +kernel)
theorem tw_221 : Cond.code yX2_add cX2_add 2 none ∈ lw_good := tw_in (i := 221) (by decide +kernel) (by decide +kernel)
theorem tw_222 : Cond.methodLink RL 18 yX5_blank ∈ lw_good := tw_in (i := 222) (by decide +kernel) (by decide +kernel)
theorem tw_223 : Cond.instanceMethod yX5_blank ∈ lw_good := tw_in (i := 223) (by decide +kernel) (by decide +kernel)
theorem tw_224 : Cond.selects RX5 yX5_blank yX5_blank ∈ lw_good := tw_in (i := 224) (by decide +kernel) (by decide +kernel)
theorem tw_225 : Cond.code yX5_blank cX5_blank 2 (some .int) ∈ lw_good := tw_in (i := 225) (by decide +kernel) (by decide +kernel)
theorem tw_226 : Cond.methodLink RL 23 yX5_fault ∈ lw_good := tw_in (i := 226) (by decide +kernel) (by decide +kernel)
theorem tw_227 : Cond.instanceMethod yX5_fault ∈ lw_good := tw_in (i := 227) (by decide +kernel) (by decide +kernel)
theorem tw_228 : Cond.selects RX5 yX5_fault yX5_fault ∈ lw_good := tw_in (i := 228) (by decide +kernel) (by decide +kernel)
theorem tw_229 : Cond.code yX5_fault cX5_fault 1 (some .int) ∈ lw_good := tw_in (i := 229) (by decide +kernel) (by decide +kernel)
theorem tw_230 : Cond.methodLink RX5 64 yX2_firstFault ∈ lw_good := tw_in (i := 230) (by decide +kernel) (by decide +kernel)
theorem tw_231 : Cond.instanceMethod yX2_firstFault ∈ lw_good := tw_in (i := 231) (by decide +kernel) (by decide +kernel)
theorem tw_232 : Cond.selects RX2 yX2_firstFault yX2_firstFault ∈ lw_good := tw_in (i := 232) (by decide +kernel) (by decide +kernel)
theorem tw_233 : Cond.code yX2_firstFault cX2_firstFault 5 (some .int) ∈ lw_good := tw_in (i := 233) (by decide +kernel) (by decide +kernel)
theorem tw_234 : Cond.methodLink RX2 23 yX2_codeAt ∈ lw_good := tw_in (i := 234) (by decide +kernel) (by decide +kernel)
theorem tw_235 : Cond.instanceMethod yX2_codeAt ∈ lw_good := tw_in (i := 235) (by decide +kernel) (by decide +kernel)
theorem tw_236 : Cond.selects RX2 yX2_codeAt yX2_codeAt ∈ lw_good := tw_in (i := 236) (by decide +kernel) (by decide +kernel)
theorem tw_237 : Cond.code yX2_codeAt cX2_codeAt 2 (some .int) ∈ lw_good := tw_in (i := 237) (by decide +kernel) (by decide +kernel)
theorem tw_238 : Cond.methodLink RX2 31 yX2_isInHead ∈ lw_good := tw_in (i := 238) (by decide +kernel) (by decide +kernel)
theorem tw_240 : Cond.instanceMethod yX2_isInHead ∈ lw_good := tw_in (i := 240) (by decide +kernel) (by decide +kernel)
theorem tw_241 : Cond.code yX2_isInHead cX2_isInHead 3 (some .boolean) ∈ lw_good := tw_in (i := 241) (by decide +kernel) (by decide +kernel)
theorem tw_242 : Cond.methodLink RX2 35 yX2_beginsPlace ∈ lw_good := tw_in (i := 242) (by decide +kernel) (by decide +kernel)
theorem tw_243 : Cond.static yX2_beginsPlace ∈ lw_good := tw_in (i := 243) (by decide +kernel) (by decide +kernel)
theorem tw_244 : Cond.code yX2_beginsPlace cX2_beginsPlace 1 (some .boolean) ∈ lw_good := tw_in (i := 244) (by decide +kernel) (by decide +kernel)
theorem tw_245 : Cond.methodLink RX2 27 yX2_isSong ∈ lw_good := tw_in (i := 245) (by decide +kernel) (by decide +kernel)
theorem tw_246 : Cond.static yX2_isSong ∈ lw_good := tw_in (i := 246) (by decide +kernel) (by decide +kernel)
theorem tw_247 : Cond.code yX2_isSong cX2_isSong 1 (some .boolean) ∈ lw_good := tw_in (i := 247) (by decide +kernel) (by decide +kernel)
theorem tw_248 : Cond.methodLink RL 27 yX5_passage ∈ lw_good := tw_in (i := 248) (by decide +kernel) (by decide +kernel)
theorem tw_249 : Cond.instanceMethod yX5_passage ∈ lw_good := tw_in (i := 249) (by decide +kernel) (by decide +kernel)
theorem tw_250 : Cond.selects RX5 yX5_passage yX5_passage ∈ lw_good := tw_in (i := 250) (by decide +kernel) (by decide +kernel)
theorem tw_251 : Cond.code yX5_passage cX5_passage 1 (some .int) ∈ lw_good := tw_in (i := 251) (by decide +kernel) (by decide +kernel)
theorem tw_252 : Cond.methodLink RX5 68 yX2_isPassage ∈ lw_good := tw_in (i := 252) (by decide +kernel) (by decide +kernel)
theorem tw_253 : Cond.instanceMethod yX2_isPassage ∈ lw_good := tw_in (i := 253) (by decide +kernel) (by decide +kernel)
theorem tw_254 : Cond.selects RX2 yX2_isPassage yX2_isPassage ∈ lw_good := tw_in (i := 254) (by decide +kernel) (by decide +kernel)
theorem tw_255 : Cond.code yX2_isPassage cX2_isPassage 1 (some .boolean) ∈ lw_good := tw_in (i := 255) (by decide +kernel) (by decide +kernel)
theorem tw_256 : Cond.methodLink RX2 19 yX2_firstFault ∈ lw_good := tw_in (i := 256) (by decide +kernel) (by decide +kernel)
theorem tw_257 : Cond.methodLink RX5 72 yX3_read ∈ lw_good := tw_in (i := 257) (by decide +kernel) (by decide +kernel)
theorem tw_258 : Cond.instanceMethod yX3_read ∈ lw_good := tw_in (i := 258) (by decide +kernel) (by decide +kernel)
theorem tw_259 : Cond.selects RX3 yX3_read yX3_read ∈ lw_good := tw_in (i := 259) (by decide +kernel) (by decide +kernel)
theorem tw_260 : Cond.code yX3_read cX3_read 4 none ∈ lw_good := tw_in (i := 260) (by decide +kernel) (by decide +kernel)
theorem tw_261 : Cond.methodLink RX3 18 yX2_codeAt ∈ lw_good := tw_in (i := 261) (by decide +kernel) (by decide +kernel)
theorem tw_262 : Cond.methodLink RX3 35 yX3_setSong ∈ lw_good := tw_in (i := 262) (by decide +kernel) (by decide +kernel)
theorem tw_264 : Cond.instanceMethod yX3_setSong ∈ lw_good := tw_in (i := 264) (by decide +kernel) (by decide +kernel)
theorem tw_265 : Cond.code yX3_setSong cX3_setSong 3 none ∈ lw_good := tw_in (i := 265) (by decide +kernel) (by decide +kernel)
theorem tw_266 : Cond.methodLink RX3 39 yX3_rockBy ∈ lw_good := tw_in (i := 266) (by decide +kernel) (by decide +kernel)
theorem tw_267 : Cond.static yX3_rockBy ∈ lw_good := tw_in (i := 267) (by decide +kernel) (by decide +kernel)
theorem tw_268 : Cond.code yX3_rockBy cX3_rockBy 1 (some .int) ∈ lw_good := tw_in (i := 268) (by decide +kernel) (by decide +kernel)
theorem tw_269 : Cond.methodLink RX3 42 yX3_addPlace ∈ lw_good := tw_in (i := 269) (by decide +kernel) (by decide +kernel)
theorem tw_271 : Cond.instanceMethod yX3_addPlace ∈ lw_good := tw_in (i := 271) (by decide +kernel) (by decide +kernel)
theorem tw_272 : Cond.code yX3_addPlace cX3_addPlace 2 none ∈ lw_good := tw_in (i := 272) (by decide +kernel) (by decide +kernel)
theorem tw_273 : Cond.methodLink RX5 78 yX4_startWith ∈ lw_good := tw_in (i := 273) (by decide +kernel) (by decide +kernel)
theorem tw_274 : Cond.instanceMethod yX4_startWith ∈ lw_good := tw_in (i := 274) (by decide +kernel) (by decide +kernel)
theorem tw_275 : Cond.selects RX4 yX4_startWith yX4_startWith ∈ lw_good := tw_in (i := 275) (by decide +kernel) (by decide +kernel)
theorem tw_276 : Cond.code yX4_startWith cX4_startWith 2 none ∈ lw_good := tw_in (i := 276) (by decide +kernel) (by decide +kernel)
theorem tw_277 : Cond.methodLink RL 31 yX5_place ∈ lw_good := tw_in (i := 277) (by decide +kernel) (by decide +kernel)
theorem tw_278 : Cond.instanceMethod yX5_place ∈ lw_good := tw_in (i := 278) (by decide +kernel) (by decide +kernel)
theorem tw_279 : Cond.selects RX5 yX5_place yX5_place ∈ lw_good := tw_in (i := 279) (by decide +kernel) (by decide +kernel)
theorem tw_280 : Cond.code yX5_place cX5_place 3 (some .int) ∈ lw_good := tw_in (i := 280) (by decide +kernel) (by decide +kernel)
theorem tw_281 : Cond.methodLink RX5 89 yX3_songAt ∈ lw_good := tw_in (i := 281) (by decide +kernel) (by decide +kernel)
theorem tw_282 : Cond.instanceMethod yX3_songAt ∈ lw_good := tw_in (i := 282) (by decide +kernel) (by decide +kernel)
theorem tw_283 : Cond.selects RX3 yX3_songAt yX3_songAt ∈ lw_good := tw_in (i := 283) (by decide +kernel) (by decide +kernel)
theorem tw_284 : Cond.code yX3_songAt cX3_songAt 2 (some .int) ∈ lw_good := tw_in (i := 284) (by decide +kernel) (by decide +kernel)
theorem tw_285 : Cond.methodLink RX5 93 yX3_rockAt ∈ lw_good := tw_in (i := 285) (by decide +kernel) (by decide +kernel)
theorem tw_286 : Cond.instanceMethod yX3_rockAt ∈ lw_good := tw_in (i := 286) (by decide +kernel) (by decide +kernel)
theorem tw_287 : Cond.selects RX3 yX3_rockAt yX3_rockAt ∈ lw_good := tw_in (i := 287) (by decide +kernel) (by decide +kernel)
theorem tw_288 : Cond.code yX3_rockAt cX3_rockAt 2 (some .int) ∈ lw_good := tw_in (i := 288) (by decide +kernel) (by decide +kernel)
theorem tw_289 : Cond.methodLink RL 36 yX5_man ∈ lw_good := tw_in (i := 289) (by decide +kernel) (by decide +kernel)
theorem tw_290 : Cond.instanceMethod yX5_man ∈ lw_good := tw_in (i := 290) (by decide +kernel) (by decide +kernel)
theorem tw_291 : Cond.selects RX5 yX5_man yX5_man ∈ lw_good := tw_in (i := 291) (by decide +kernel) (by decide +kernel)
theorem tw_292 : Cond.code yX5_man cX5_man 5 (some .int) ∈ lw_good := tw_in (i := 292) (by decide +kernel) (by decide +kernel)
theorem tw_293 : Cond.methodLink RX5 96 yX5_isKind ∈ lw_good := tw_in (i := 293) (by decide +kernel) (by decide +kernel)
theorem tw_294 : Cond.static yX5_isKind ∈ lw_good := tw_in (i := 294) (by decide +kernel) (by decide +kernel)
theorem tw_295 : Cond.code yX5_isKind cX5_isKind 1 (some .boolean) ∈ lw_good := tw_in (i := 295) (by decide +kernel) (by decide +kernel)
theorem tw_296 : Cond.methodLink RX5 100 yX5_hasPassage ∈ lw_good := tw_in (i := 296) (by decide +kernel) (by decide +kernel)
theorem tw_298 : Cond.instanceMethod yX5_hasPassage ∈ lw_good := tw_in (i := 298) (by decide +kernel) (by decide +kernel)
theorem tw_299 : Cond.code yX5_hasPassage cX5_hasPassage 1 (some .boolean) ∈ lw_good := tw_in (i := 299) (by decide +kernel) (by decide +kernel)
theorem tw_300 : Cond.methodLink RX5 109 yX0_add ∈ lw_good := tw_in (i := 300) (by decide +kernel) (by decide +kernel)
theorem tw_301 : Cond.instanceMethod yX0_add ∈ lw_good := tw_in (i := 301) (by decide +kernel) (by decide +kernel)
theorem tw_302 : Cond.selects RX0 yX0_add yX0_add ∈ lw_good := tw_in (i := 302) (by decide +kernel) (by decide +kernel)
theorem tw_303 : Cond.code yX0_add cX0_add 4 none ∈ lw_good := tw_in (i := 303) (by decide +kernel) (by decide +kernel)
theorem tw_304 : Cond.methodLink RX5 112 yX4_board ∈ lw_good := tw_in (i := 304) (by decide +kernel) (by decide +kernel)
theorem tw_305 : Cond.instanceMethod yX4_board ∈ lw_good := tw_in (i := 305) (by decide +kernel) (by decide +kernel)
theorem tw_306 : Cond.selects RX4 yX4_board yX4_board ∈ lw_good := tw_in (i := 306) (by decide +kernel) (by decide +kernel)
theorem tw_307 : Cond.code yX4_board cX4_board 2 none ∈ lw_good := tw_in (i := 307) (by decide +kernel) (by decide +kernel)
theorem tw_308 : Cond.methodLink RX4 37 yX4_setWax ∈ lw_good := tw_in (i := 308) (by decide +kernel) (by decide +kernel)
theorem tw_309 : Cond.instanceMethod yX4_setWax ∈ lw_good := tw_in (i := 309) (by decide +kernel) (by decide +kernel)
theorem tw_310 : Cond.selects RX4 yX4_setWax yX4_setWax ∈ lw_good := tw_in (i := 310) (by decide +kernel) (by decide +kernel)
theorem tw_311 : Cond.code yX4_setWax cX4_setWax 3 none ∈ lw_good := tw_in (i := 311) (by decide +kernel) (by decide +kernel)
theorem tw_312 : Cond.methodLink RX4 41 yX4_setKnots ∈ lw_good := tw_in (i := 312) (by decide +kernel) (by decide +kernel)
theorem tw_313 : Cond.instanceMethod yX4_setKnots ∈ lw_good := tw_in (i := 313) (by decide +kernel) (by decide +kernel)
theorem tw_314 : Cond.selects RX4 yX4_setKnots yX4_setKnots ∈ lw_good := tw_in (i := 314) (by decide +kernel) (by decide +kernel)
theorem tw_315 : Cond.code yX4_setKnots cX4_setKnots 3 none ∈ lw_good := tw_in (i := 315) (by decide +kernel) (by decide +kernel)
theorem tw_316 : Cond.methodLink RL 41 yX5_about ∈ lw_good := tw_in (i := 316) (by decide +kernel) (by decide +kernel)
theorem tw_317 : Cond.instanceMethod yX5_about ∈ lw_good := tw_in (i := 317) (by decide +kernel) (by decide +kernel)
theorem tw_318 : Cond.selects RX5 yX5_about yX5_about ∈ lw_good := tw_in (i := 318) (by decide +kernel) (by decide +kernel)
theorem tw_319 : Cond.code yX5_about cX5_about 3 (some .int) ∈ lw_good := tw_in (i := 319) (by decide +kernel) (by decide +kernel)
theorem tw_320 : Cond.methodLink RX5 115 yX5_isKnown ∈ lw_good := tw_in (i := 320) (by decide +kernel) (by decide +kernel)
theorem tw_322 : Cond.instanceMethod yX5_isKnown ∈ lw_good := tw_in (i := 322) (by decide +kernel) (by decide +kernel)
theorem tw_323 : Cond.code yX5_isKnown cX5_isKnown 2 (some .boolean) ∈ lw_good := tw_in (i := 323) (by decide +kernel) (by decide +kernel)
theorem tw_324 : Cond.methodLink RX5 118 yX0_kindOf ∈ lw_good := tw_in (i := 324) (by decide +kernel) (by decide +kernel)
theorem tw_325 : Cond.instanceMethod yX0_kindOf ∈ lw_good := tw_in (i := 325) (by decide +kernel) (by decide +kernel)
theorem tw_326 : Cond.selects RX0 yX0_kindOf yX0_kindOf ∈ lw_good := tw_in (i := 326) (by decide +kernel) (by decide +kernel)
theorem tw_327 : Cond.code yX0_kindOf cX0_kindOf 2 (some .int) ∈ lw_good := tw_in (i := 327) (by decide +kernel) (by decide +kernel)
theorem tw_328 : Cond.methodLink RX5 121 yX0_oarOf ∈ lw_good := tw_in (i := 328) (by decide +kernel) (by decide +kernel)
theorem tw_329 : Cond.instanceMethod yX0_oarOf ∈ lw_good := tw_in (i := 329) (by decide +kernel) (by decide +kernel)
theorem tw_330 : Cond.selects RX0 yX0_oarOf yX0_oarOf ∈ lw_good := tw_in (i := 330) (by decide +kernel) (by decide +kernel)
theorem tw_331 : Cond.code yX0_oarOf cX0_oarOf 2 (some .int) ∈ lw_good := tw_in (i := 331) (by decide +kernel) (by decide +kernel)
theorem tw_332 : Cond.methodLink RX5 124 yX0_willOf ∈ lw_good := tw_in (i := 332) (by decide +kernel) (by decide +kernel)
theorem tw_333 : Cond.instanceMethod yX0_willOf ∈ lw_good := tw_in (i := 333) (by decide +kernel) (by decide +kernel)
theorem tw_334 : Cond.selects RX0 yX0_willOf yX0_willOf ∈ lw_good := tw_in (i := 334) (by decide +kernel) (by decide +kernel)
theorem tw_335 : Cond.code yX0_willOf cX0_willOf 2 (some .int) ∈ lw_good := tw_in (i := 335) (by decide +kernel) (by decide +kernel)
theorem tw_336 : Cond.methodLink RX5 127 yX4_isWaxed ∈ lw_good := tw_in (i := 336) (by decide +kernel) (by decide +kernel)
theorem tw_337 : Cond.instanceMethod yX4_isWaxed ∈ lw_good := tw_in (i := 337) (by decide +kernel) (by decide +kernel)
theorem tw_338 : Cond.selects RX4 yX4_isWaxed yX4_isWaxed ∈ lw_good := tw_in (i := 338) (by decide +kernel) (by decide +kernel)
theorem tw_339 : Cond.code yX4_isWaxed cX4_isWaxed 2 (some .boolean) ∈ lw_good := tw_in (i := 339) (by decide +kernel) (by decide +kernel)
theorem tw_340 : Cond.methodLink RX5 130 yX5_asInt ∈ lw_good := tw_in (i := 340) (by decide +kernel) (by decide +kernel)
theorem tw_341 : Cond.static yX5_asInt ∈ lw_good := tw_in (i := 341) (by decide +kernel) (by decide +kernel)
theorem tw_342 : Cond.code yX5_asInt cX5_asInt 1 (some .int) ∈ lw_good := tw_in (i := 342) (by decide +kernel) (by decide +kernel)
theorem tw_343 : Cond.methodLink RX5 134 yX4_knotsOf ∈ lw_good := tw_in (i := 343) (by decide +kernel) (by decide +kernel)
theorem tw_344 : Cond.instanceMethod yX4_knotsOf ∈ lw_good := tw_in (i := 344) (by decide +kernel) (by decide +kernel)
theorem tw_345 : Cond.selects RX4 yX4_knotsOf yX4_knotsOf ∈ lw_good := tw_in (i := 345) (by decide +kernel) (by decide +kernel)
theorem tw_346 : Cond.code yX4_knotsOf cX4_knotsOf 2 (some .int) ∈ lw_good := tw_in (i := 346) (by decide +kernel) (by decide +kernel)
theorem tw_347 : Cond.methodLink RX5 137 yX4_isAboard ∈ lw_good := tw_in (i := 347) (by decide +kernel) (by decide +kernel)
theorem tw_348 : Cond.instanceMethod yX4_isAboard ∈ lw_good := tw_in (i := 348) (by decide +kernel) (by decide +kernel)
theorem tw_349 : Cond.selects RX4 yX4_isAboard yX4_isAboard ∈ lw_good := tw_in (i := 349) (by decide +kernel) (by decide +kernel)
theorem tw_350 : Cond.code yX4_isAboard cX4_isAboard 2 (some .boolean) ∈ lw_good := tw_in (i := 350) (by decide +kernel) (by decide +kernel)
theorem tw_351 : Cond.methodLink RX5 140 yX4_isHearing ∈ lw_good := tw_in (i := 351) (by decide +kernel) (by decide +kernel)
theorem tw_352 : Cond.instanceMethod yX4_isHearing ∈ lw_good := tw_in (i := 352) (by decide +kernel) (by decide +kernel)
theorem tw_353 : Cond.selects RX4 yX4_isHearing yX4_isHearing ∈ lw_good := tw_in (i := 353) (by decide +kernel) (by decide +kernel)
theorem tw_354 : Cond.code yX4_isHearing cX4_isHearing 4 (some .boolean) ∈ lw_good := tw_in (i := 354) (by decide +kernel) (by decide +kernel)
theorem tw_355 : Cond.methodLink RX4 56 yX0_kindOf ∈ lw_good := tw_in (i := 355) (by decide +kernel) (by decide +kernel)
theorem tw_356 : Cond.methodLink RX4 59 yX4_isWaxed ∈ lw_good := tw_in (i := 356) (by decide +kernel) (by decide +kernel)
theorem tw_357 : Cond.methodLink RX5 144 yX4_holdOn ∈ lw_good := tw_in (i := 357) (by decide +kernel) (by decide +kernel)
theorem tw_358 : Cond.instanceMethod yX4_holdOn ∈ lw_good := tw_in (i := 358) (by decide +kernel) (by decide +kernel)
theorem tw_359 : Cond.selects RX4 yX4_holdOn yX4_holdOn ∈ lw_good := tw_in (i := 359) (by decide +kernel) (by decide +kernel)
theorem tw_360 : Cond.code yX4_holdOn cX4_holdOn 4 (some .int) ∈ lw_good := tw_in (i := 360) (by decide +kernel) (by decide +kernel)
theorem tw_361 : Cond.methodLink RX4 68 yX0_willOf ∈ lw_good := tw_in (i := 361) (by decide +kernel) (by decide +kernel)
theorem tw_362 : Cond.methodLink RX4 71 yX4_knotsOf ∈ lw_good := tw_in (i := 362) (by decide +kernel) (by decide +kernel)
theorem tw_363 : Cond.methodLink RL 45 yX5_as ∈ lw_good := tw_in (i := 363) (by decide +kernel) (by decide +kernel)
theorem tw_364 : Cond.instanceMethod yX5_as ∈ lw_good := tw_in (i := 364) (by decide +kernel) (by decide +kernel)
theorem tw_365 : Cond.selects RX5 yX5_as yX5_as ∈ lw_good := tw_in (i := 365) (by decide +kernel) (by decide +kernel)
theorem tw_366 : Cond.code yX5_as cX5_as 3 (some .int) ∈ lw_good := tw_in (i := 366) (by decide +kernel) (by decide +kernel)
theorem tw_367 : Cond.methodLink RX5 148 yX0_isOfKind ∈ lw_good := tw_in (i := 367) (by decide +kernel) (by decide +kernel)
theorem tw_368 : Cond.instanceMethod yX0_isOfKind ∈ lw_good := tw_in (i := 368) (by decide +kernel) (by decide +kernel)
theorem tw_369 : Cond.selects RX0 yX0_isOfKind yX0_isOfKind ∈ lw_good := tw_in (i := 369) (by decide +kernel) (by decide +kernel)
theorem tw_370 : Cond.code yX0_isOfKind cX0_isOfKind 4 (some .boolean) ∈ lw_good := tw_in (i := 370) (by decide +kernel) (by decide +kernel)
theorem tw_371 : Cond.methodLink RX0 25 yX0_kindOf ∈ lw_good := tw_in (i := 371) (by decide +kernel) (by decide +kernel)
theorem tw_372 : Cond.methodLink RL 49 yX5_wax ∈ lw_good := tw_in (i := 372) (by decide +kernel) (by decide +kernel)
theorem tw_373 : Cond.instanceMethod yX5_wax ∈ lw_good := tw_in (i := 373) (by decide +kernel) (by decide +kernel)
theorem tw_374 : Cond.selects RX5 yX5_wax yX5_wax ∈ lw_good := tw_in (i := 374) (by decide +kernel) (by decide +kernel)
theorem tw_375 : Cond.code yX5_wax cX5_wax 4 (some .int) ∈ lw_good := tw_in (i := 375) (by decide +kernel) (by decide +kernel)
theorem tw_376 : Cond.methodLink RX5 155 yX4_setWax ∈ lw_good := tw_in (i := 376) (by decide +kernel) (by decide +kernel)
theorem tw_377 : Cond.methodLink RL 54 yX5_bind ∈ lw_good := tw_in (i := 377) (by decide +kernel) (by decide +kernel)
theorem tw_378 : Cond.instanceMethod yX5_bind ∈ lw_good := tw_in (i := 378) (by decide +kernel) (by decide +kernel)
theorem tw_379 : Cond.selects RX5 yX5_bind yX5_bind ∈ lw_good := tw_in (i := 379) (by decide +kernel) (by decide +kernel)
theorem tw_380 : Cond.code yX5_bind cX5_bind 4 (some .int) ∈ lw_good := tw_in (i := 380) (by decide +kernel) (by decide +kernel)
theorem tw_381 : Cond.methodLink RX5 159 yX4_setKnots ∈ lw_good := tw_in (i := 381) (by decide +kernel) (by decide +kernel)
theorem tw_382 : Cond.methodLink RL 58 yX5_stroke ∈ lw_good := tw_in (i := 382) (by decide +kernel) (by decide +kernel)
theorem tw_383 : Cond.instanceMethod yX5_stroke ∈ lw_good := tw_in (i := 383) (by decide +kernel) (by decide +kernel)
theorem tw_384 : Cond.selects RX5 yX5_stroke yX5_stroke ∈ lw_good := tw_in (i := 384) (by decide +kernel) (by decide +kernel)
theorem tw_385 : Cond.code yX5_stroke cX5_stroke 1 (some .int) ∈ lw_good := tw_in (i := 385) (by decide +kernel) (by decide +kernel)
theorem tw_386 : Cond.methodLink RX5 163 yX5_canGoOn ∈ lw_good := tw_in (i := 386) (by decide +kernel) (by decide +kernel)
theorem tw_388 : Cond.instanceMethod yX5_canGoOn ∈ lw_good := tw_in (i := 388) (by decide +kernel) (by decide +kernel)
theorem tw_389 : Cond.code yX5_canGoOn cX5_canGoOn 1 (some .boolean) ∈ lw_good := tw_in (i := 389) (by decide +kernel) (by decide +kernel)
theorem tw_390 : Cond.methodLink RX5 166 yX4_row ∈ lw_good := tw_in (i := 390) (by decide +kernel) (by decide +kernel)
theorem tw_391 : Cond.instanceMethod yX4_row ∈ lw_good := tw_in (i := 391) (by decide +kernel) (by decide +kernel)
theorem tw_392 : Cond.selects RX4 yX4_row yX4_row ∈ lw_good := tw_in (i := 392) (by decide +kernel) (by decide +kernel)
theorem tw_393 : Cond.code yX4_row cX4_row 4 (some .int) ∈ lw_good := tw_in (i := 393) (by decide +kernel) (by decide +kernel)
theorem tw_394 : Cond.methodLink RX4 78 yX4_swimmersAt ∈ lw_good := tw_in (i := 394) (by decide +kernel) (by decide +kernel)
theorem tw_396 : Cond.instanceMethod yX4_swimmersAt ∈ lw_good := tw_in (i := 396) (by decide +kernel) (by decide +kernel)
theorem tw_397 : Cond.code yX4_swimmersAt cX4_swimmersAt 7 (some .int) ∈ lw_good := tw_in (i := 397) (by decide +kernel) (by decide +kernel)
theorem tw_398 : Cond.methodLink RX4 100 yX3_songAt ∈ lw_good := tw_in (i := 398) (by decide +kernel) (by decide +kernel)
theorem tw_399 : Cond.methodLink RX4 103 yX4_isAboard ∈ lw_good := tw_in (i := 399) (by decide +kernel) (by decide +kernel)
theorem tw_400 : Cond.methodLink RX4 106 yX4_isHearing ∈ lw_good := tw_in (i := 400) (by decide +kernel) (by decide +kernel)
theorem tw_401 : Cond.methodLink RX4 109 yX4_holdOn ∈ lw_good := tw_in (i := 401) (by decide +kernel) (by decide +kernel)
theorem tw_402 : Cond.methodLink RX4 81 yX3_rockAt ∈ lw_good := tw_in (i := 402) (by decide +kernel) (by decide +kernel)
theorem tw_403 : Cond.methodLink RX4 84 yX4_isStriking ∈ lw_good := tw_in (i := 403) (by decide +kernel) (by decide +kernel)
theorem tw_405 : Cond.instanceMethod yX4_isStriking ∈ lw_good := tw_in (i := 405) (by decide +kernel) (by decide +kernel)
theorem tw_406 : Cond.code yX4_isStriking cX4_isStriking 5 (some .boolean) ∈ lw_good := tw_in (i := 406) (by decide +kernel) (by decide +kernel)
theorem tw_407 : Cond.methodLink RX4 113 yX4_isFree ∈ lw_good := tw_in (i := 407) (by decide +kernel) (by decide +kernel)
theorem tw_409 : Cond.instanceMethod yX4_isFree ∈ lw_good := tw_in (i := 409) (by decide +kernel) (by decide +kernel)
theorem tw_410 : Cond.code yX4_isFree cX4_isFree 2 (some .boolean) ∈ lw_good := tw_in (i := 410) (by decide +kernel) (by decide +kernel)
theorem tw_411 : Cond.methodLink RX4 116 yX0_isOfKind ∈ lw_good := tw_in (i := 411) (by decide +kernel) (by decide +kernel)
theorem tw_412 : Cond.methodLink RX4 88 yX4_freeOars ∈ lw_good := tw_in (i := 412) (by decide +kernel) (by decide +kernel)
theorem tw_414 : Cond.instanceMethod yX4_freeOars ∈ lw_good := tw_in (i := 414) (by decide +kernel) (by decide +kernel)
theorem tw_415 : Cond.code yX4_freeOars cX4_freeOars 4 (some .int) ∈ lw_good := tw_in (i := 415) (by decide +kernel) (by decide +kernel)
theorem tw_416 : Cond.methodLink RX4 120 yX0_oarOf ∈ lw_good := tw_in (i := 416) (by decide +kernel) (by decide +kernel)
theorem tw_417 : Cond.methodLink RX4 95 yX4_comeOn ∈ lw_good := tw_in (i := 417) (by decide +kernel) (by decide +kernel)
theorem tw_419 : Cond.instanceMethod yX4_comeOn ∈ lw_good := tw_in (i := 419) (by decide +kernel) (by decide +kernel)
theorem tw_420 : Cond.code yX4_comeOn cX4_comeOn 2 none ∈ lw_good := tw_in (i := 420) (by decide +kernel) (by decide +kernel)
theorem tw_421 : Cond.methodLink RL 62 yX5_outcome ∈ lw_good := tw_in (i := 421) (by decide +kernel) (by decide +kernel)
theorem tw_422 : Cond.instanceMethod yX5_outcome ∈ lw_good := tw_in (i := 422) (by decide +kernel) (by decide +kernel)
theorem tw_423 : Cond.selects RX5 yX5_outcome yX5_outcome ∈ lw_good := tw_in (i := 423) (by decide +kernel) (by decide +kernel)
theorem tw_424 : Cond.code yX5_outcome cX5_outcome 3 (some .int) ∈ lw_good := tw_in (i := 424) (by decide +kernel) (by decide +kernel)
theorem tw_425 : Cond.methodLink RX5 170 yX4_copy ∈ lw_good := tw_in (i := 425) (by decide +kernel) (by decide +kernel)
theorem tw_426 : Cond.instanceMethod yX4_copy ∈ lw_good := tw_in (i := 426) (by decide +kernel) (by decide +kernel)
theorem tw_427 : Cond.selects RX4 yX4_copy yX4_copy ∈ lw_good := tw_in (i := 427) (by decide +kernel) (by decide +kernel)
theorem tw_428 : Cond.code yX4_copy cX4_copy 2 none ∈ lw_good := tw_in (i := 428) (by decide +kernel) (by decide +kernel)
theorem tw_429 : Cond.methodLink RX4 15 arraycopyName ∈ lw_good := tw_in (i := 429) (by decide +kernel) (by decide +kernel)
theorem tw_430 : Cond.static arraycopyName ∈ lw_good := tw_in (i := 430) (by decide +kernel) (by decide +kernel)
theorem tw_431 : Cond.native arraycopyName ∈ lw_good := tw_in (i := 431) (by decide +kernel) (by decide +kernel)
theorem tw_432 : Cond.methodLink RX5 174 yX4_rowOn ∈ lw_good := tw_in (i := 432) (by decide +kernel) (by decide +kernel)
theorem tw_433 : Cond.instanceMethod yX4_rowOn ∈ lw_good := tw_in (i := 433) (by decide +kernel) (by decide +kernel)
theorem tw_434 : Cond.selects RX4 yX4_rowOn yX4_rowOn ∈ lw_good := tw_in (i := 434) (by decide +kernel) (by decide +kernel)
theorem tw_435 : Cond.code yX4_rowOn cX4_rowOn 4 (some .int) ∈ lw_good := tw_in (i := 435) (by decide +kernel) (by decide +kernel)
theorem tw_436 : Cond.methodLink RX4 74 yX4_row ∈ lw_good := tw_in (i := 436) (by decide +kernel) (by decide +kernel)
theorem tw_437 : Cond.methodLink RX5 177 yX4_lostOf ∈ lw_good := tw_in (i := 437) (by decide +kernel) (by decide +kernel)
theorem tw_438 : Cond.instanceMethod yX4_lostOf ∈ lw_good := tw_in (i := 438) (by decide +kernel) (by decide +kernel)
theorem tw_439 : Cond.selects RX4 yX4_lostOf yX4_lostOf ∈ lw_good := tw_in (i := 439) (by decide +kernel) (by decide +kernel)
theorem tw_440 : Cond.code yX4_lostOf cX4_lostOf 2 (some .int) ∈ lw_good := tw_in (i := 440) (by decide +kernel) (by decide +kernel)
theorem tw_441 : Cond.methodLink RX4 50 yJ6_bitCount_0f7a4 ∈ lw_good := tw_in (i := 441) (by decide +kernel) (by decide +kernel)
theorem tw_442 : Cond.static yJ6_bitCount_0f7a4 ∈ lw_good := tw_in (i := 442) (by decide +kernel) (by decide +kernel)
theorem tw_443 : Cond.code yJ6_bitCount_0f7a4 cJ6_bitCount_0f7a4 1 (some .int) ∈ lw_good := tw_in (i := 443) (by decide +kernel) (by decide +kernel)
theorem tw_444 : Cond.constant RJ6 265 1431655765 ∈ lw_good := tw_in (i := 444) (by decide +kernel) (by decide +kernel)
theorem tw_445 : Cond.constant RJ6 266 858993459 ∈ lw_good := tw_in (i := 445) (by decide +kernel) (by decide +kernel)
theorem tw_446 : Cond.constant RJ6 267 252645135 ∈ lw_good := tw_in (i := 446) (by decide +kernel) (by decide +kernel)
theorem tw_447 : Cond.methodLink RL 66 yX5_waxing ∈ lw_good := tw_in (i := 447) (by decide +kernel) (by decide +kernel)
theorem tw_448 : Cond.instanceMethod yX5_waxing ∈ lw_good := tw_in (i := 448) (by decide +kernel) (by decide +kernel)
theorem tw_449 : Cond.selects RX5 yX5_waxing yX5_waxing ∈ lw_good := tw_in (i := 449) (by decide +kernel) (by decide +kernel)
theorem tw_450 : Cond.code yX5_waxing cX5_waxing 7 (some .int) ∈ lw_good := tw_in (i := 450) (by decide +kernel) (by decide +kernel)
theorem tw_451 : Cond.methodLink RX5 181 yX5_rankWithWax ∈ lw_good := tw_in (i := 451) (by decide +kernel) (by decide +kernel)
theorem tw_453 : Cond.instanceMethod yX5_rankWithWax ∈ lw_good := tw_in (i := 453) (by decide +kernel) (by decide +kernel)
theorem tw_454 : Cond.code yX5_rankWithWax cX5_rankWithWax 2 (some .int) ∈ lw_good := tw_in (i := 454) (by decide +kernel) (by decide +kernel)
theorem tw_455 : Cond.methodLink RX5 260 yX5_rankOfTrial ∈ lw_good := tw_in (i := 455) (by decide +kernel) (by decide +kernel)
theorem tw_457 : Cond.instanceMethod yX5_rankOfTrial ∈ lw_good := tw_in (i := 457) (by decide +kernel) (by decide +kernel)
theorem tw_458 : Cond.code yX5_rankOfTrial cX5_rankOfTrial 2 (some .int) ∈ lw_good := tw_in (i := 458) (by decide +kernel) (by decide +kernel)
theorem tw_459 : Cond.methodLink RX5 184 yX0_everyone ∈ lw_good := tw_in (i := 459) (by decide +kernel) (by decide +kernel)
theorem tw_460 : Cond.instanceMethod yX0_everyone ∈ lw_good := tw_in (i := 460) (by decide +kernel) (by decide +kernel)
theorem tw_461 : Cond.selects RX0 yX0_everyone yX0_everyone ∈ lw_good := tw_in (i := 461) (by decide +kernel) (by decide +kernel)
theorem tw_462 : Cond.code yX0_everyone cX0_everyone 1 (some .int) ∈ lw_good := tw_in (i := 462) (by decide +kernel) (by decide +kernel)
theorem tw_463 : Cond.methodLink RX5 190 yJ6_bitCount_0f7a4 ∈ lw_good := tw_in (i := 463) (by decide +kernel) (by decide +kernel)
theorem tw_464 : Cond.methodLink RL 70 yX5_hold ∈ lw_good := tw_in (i := 464) (by decide +kernel) (by decide +kernel)
theorem tw_465 : Cond.instanceMethod yX5_hold ∈ lw_good := tw_in (i := 465) (by decide +kernel) (by decide +kernel)
theorem tw_466 : Cond.selects RX5 yX5_hold yX5_hold ∈ lw_good := tw_in (i := 466) (by decide +kernel) (by decide +kernel)
theorem tw_467 : Cond.code yX5_hold cX5_hold 3 (some .int) ∈ lw_good := tw_in (i := 467) (by decide +kernel) (by decide +kernel)
theorem tw_468 : Cond.methodLink RL 74 yX5_listener ∈ lw_good := tw_in (i := 468) (by decide +kernel) (by decide +kernel)
theorem tw_469 : Cond.instanceMethod yX5_listener ∈ lw_good := tw_in (i := 469) (by decide +kernel) (by decide +kernel)
theorem tw_470 : Cond.selects RX5 yX5_listener yX5_listener ∈ lw_good := tw_in (i := 470) (by decide +kernel) (by decide +kernel)
theorem tw_471 : Cond.code yX5_listener cX5_listener 5 (some .int) ∈ lw_good := tw_in (i := 471) (by decide +kernel) (by decide +kernel)
theorem tw_472 : Cond.methodLink RX5 195 yX5_rankWithListener ∈ lw_good := tw_in (i := 472) (by decide +kernel) (by decide +kernel)
theorem tw_474 : Cond.instanceMethod yX5_rankWithListener ∈ lw_good := tw_in (i := 474) (by decide +kernel) (by decide +kernel)
theorem tw_475 : Cond.code yX5_rankWithListener cX5_rankWithListener 3 (some .int) ∈ lw_good := tw_in (i := 475) (by decide +kernel) (by decide +kernel)
theorem tw_476 : Cond.methodLink RL 78 yX5_sold ∈ lw_good := tw_in (i := 476) (by decide +kernel) (by decide +kernel)
theorem tw_477 : Cond.instanceMethod yX5_sold ∈ lw_good := tw_in (i := 477) (by decide +kernel) (by decide +kernel)
theorem tw_478 : Cond.selects RX5 yX5_sold yX5_sold ∈ lw_good := tw_in (i := 478) (by decide +kernel) (by decide +kernel)
theorem tw_479 : Cond.code yX5_sold cX5_sold 3 (some .int) ∈ lw_good := tw_in (i := 479) (by decide +kernel) (by decide +kernel)
theorem tw_480 : Cond.methodLink RX5 198 yX3_copyWeaker ∈ lw_good := tw_in (i := 480) (by decide +kernel) (by decide +kernel)
theorem tw_481 : Cond.instanceMethod yX3_copyWeaker ∈ lw_good := tw_in (i := 481) (by decide +kernel) (by decide +kernel)
theorem tw_482 : Cond.selects RX3 yX3_copyWeaker yX3_copyWeaker ∈ lw_good := tw_in (i := 482) (by decide +kernel) (by decide +kernel)
theorem tw_483 : Cond.code yX3_copyWeaker cX3_copyWeaker 4 none ∈ lw_good := tw_in (i := 483) (by decide +kernel) (by decide +kernel)
theorem tw_484 : Cond.methodLink RX3 46 yX3_copy ∈ lw_good := tw_in (i := 484) (by decide +kernel) (by decide +kernel)
theorem tw_486 : Cond.instanceMethod yX3_copy ∈ lw_good := tw_in (i := 486) (by decide +kernel) (by decide +kernel)
theorem tw_487 : Cond.code yX3_copy cX3_copy 2 none ∈ lw_good := tw_in (i := 487) (by decide +kernel) (by decide +kernel)
theorem tw_488 : Cond.methodLink RX3 69 arraycopyName ∈ lw_good := tw_in (i := 488) (by decide +kernel) (by decide +kernel)
theorem tw_489 : Cond.methodLink RX3 50 yX3_songAt ∈ lw_good := tw_in (i := 489) (by decide +kernel) (by decide +kernel)
theorem tw_490 : Cond.methodLink RX3 53 yJ9_max_7cf53 ∈ lw_good := tw_in (i := 490) (by decide +kernel) (by decide +kernel)
theorem tw_491 : Cond.static yJ9_max_7cf53 ∈ lw_good := tw_in (i := 491) (by decide +kernel) (by decide +kernel)
theorem tw_492 : Cond.code yJ9_max_7cf53 cJ9_max_7cf53 2 (some .int) ∈ lw_good := tw_in (i := 492) (by decide +kernel) (by decide +kernel)
theorem tw_493 : Cond.methodLink RL 82 yX5_log ∈ lw_good := tw_in (i := 493) (by decide +kernel) (by decide +kernel)
theorem tw_494 : Cond.instanceMethod yX5_log ∈ lw_good := tw_in (i := 494) (by decide +kernel) (by decide +kernel)
theorem tw_495 : Cond.selects RX5 yX5_log yX5_log ∈ lw_good := tw_in (i := 495) (by decide +kernel) (by decide +kernel)
theorem tw_496 : Cond.code yX5_log cX5_log 2 (some .int) ∈ lw_good := tw_in (i := 496) (by decide +kernel) (by decide +kernel)
theorem tw_497 : Cond.methodLink RX5 202 yX1_add ∈ lw_good := tw_in (i := 497) (by decide +kernel) (by decide +kernel)
theorem tw_498 : Cond.instanceMethod yX1_add ∈ lw_good := tw_in (i := 498) (by decide +kernel) (by decide +kernel)
theorem tw_499 : Cond.selects RX1 yX1_add yX1_add ∈ lw_good := tw_in (i := 499) (by decide +kernel) (by decide +kernel)
theorem tw_500 : Cond.code yX1_add cX1_add 2 none ∈ lw_good := tw_in (i := 500) (by decide +kernel) (by decide +kernel)
theorem tw_501 : Cond.methodLink RL 86 yX5_forget ∈ lw_good := tw_in (i := 501) (by decide +kernel) (by decide +kernel)
theorem tw_502 : Cond.instanceMethod yX5_forget ∈ lw_good := tw_in (i := 502) (by decide +kernel) (by decide +kernel)
theorem tw_503 : Cond.selects RX5 yX5_forget yX5_forget ∈ lw_good := tw_in (i := 503) (by decide +kernel) (by decide +kernel)
theorem tw_504 : Cond.code yX5_forget cX5_forget 2 (some .int) ∈ lw_good := tw_in (i := 504) (by decide +kernel) (by decide +kernel)
theorem tw_505 : Cond.methodLink RL 90 yX5_fits ∈ lw_good := tw_in (i := 505) (by decide +kernel) (by decide +kernel)
theorem tw_506 : Cond.instanceMethod yX5_fits ∈ lw_good := tw_in (i := 506) (by decide +kernel) (by decide +kernel)
theorem tw_507 : Cond.selects RX5 yX5_fits yX5_fits ∈ lw_good := tw_in (i := 507) (by decide +kernel) (by decide +kernel)
theorem tw_508 : Cond.code yX5_fits cX5_fits 1 (some .int) ∈ lw_good := tw_in (i := 508) (by decide +kernel) (by decide +kernel)
theorem tw_509 : Cond.methodLink RX5 203 yX5_fittingSetsWith ∈ lw_good := tw_in (i := 509) (by decide +kernel) (by decide +kernel)
theorem tw_511 : Cond.instanceMethod yX5_fittingSetsWith ∈ lw_good := tw_in (i := 511) (by decide +kernel) (by decide +kernel)
theorem tw_512 : Cond.code yX5_fittingSetsWith cX5_fittingSetsWith 4 (some .int) ∈ lw_good := tw_in (i := 512) (by decide +kernel) (by decide +kernel)
theorem tw_513 : Cond.methodLink RX5 263 yX5_isFitting ∈ lw_good := tw_in (i := 513) (by decide +kernel) (by decide +kernel)
theorem tw_515 : Cond.instanceMethod yX5_isFitting ∈ lw_good := tw_in (i := 515) (by decide +kernel) (by decide +kernel)
theorem tw_516 : Cond.code yX5_isFitting cX5_isFitting 4 (some .boolean) ∈ lw_good := tw_in (i := 516) (by decide +kernel) (by decide +kernel)
theorem tw_517 : Cond.methodLink RX5 266 yX1_setAt ∈ lw_good := tw_in (i := 517) (by decide +kernel) (by decide +kernel)
theorem tw_518 : Cond.instanceMethod yX1_setAt ∈ lw_good := tw_in (i := 518) (by decide +kernel) (by decide +kernel)
theorem tw_519 : Cond.selects RX1 yX1_setAt yX1_setAt ∈ lw_good := tw_in (i := 519) (by decide +kernel) (by decide +kernel)
theorem tw_520 : Cond.code yX1_setAt cX1_setAt 2 (some .int) ∈ lw_good := tw_in (i := 520) (by decide +kernel) (by decide +kernel)
theorem tw_521 : Cond.methodLink RL 94 yX5_sure ∈ lw_good := tw_in (i := 521) (by decide +kernel) (by decide +kernel)
theorem tw_522 : Cond.instanceMethod yX5_sure ∈ lw_good := tw_in (i := 522) (by decide +kernel) (by decide +kernel)
theorem tw_523 : Cond.selects RX5 yX5_sure yX5_sure ∈ lw_good := tw_in (i := 523) (by decide +kernel) (by decide +kernel)
theorem tw_524 : Cond.code yX5_sure cX5_sure 4 (some .int) ∈ lw_good := tw_in (i := 524) (by decide +kernel) (by decide +kernel)
theorem tw_525 : Cond.methodLink RL 98 yX5_voyages ∈ lw_good := tw_in (i := 525) (by decide +kernel) (by decide +kernel)
theorem tw_526 : Cond.instanceMethod yX5_voyages ∈ lw_good := tw_in (i := 526) (by decide +kernel) (by decide +kernel)
theorem tw_527 : Cond.selects RX5 yX5_voyages yX5_voyages ∈ lw_good := tw_in (i := 527) (by decide +kernel) (by decide +kernel)
theorem tw_528 : Cond.code yX5_voyages cX5_voyages 8 (some .int) ∈ lw_good := tw_in (i := 528) (by decide +kernel) (by decide +kernel)
theorem tw_529 : Cond.methodLink RX5 206 yX3_copyDrawn ∈ lw_good := tw_in (i := 529) (by decide +kernel) (by decide +kernel)
theorem tw_530 : Cond.instanceMethod yX3_copyDrawn ∈ lw_good := tw_in (i := 530) (by decide +kernel) (by decide +kernel)
theorem tw_531 : Cond.selects RX3 yX3_copyDrawn yX3_copyDrawn ∈ lw_good := tw_in (i := 531) (by decide +kernel) (by decide +kernel)
theorem tw_532 : Cond.code yX3_copyDrawn cX3_copyDrawn 5 (some .int) ∈ lw_good := tw_in (i := 532) (by decide +kernel) (by decide +kernel)
theorem tw_533 : Cond.methodLink RX3 59 yX3_seedAfter ∈ lw_good := tw_in (i := 533) (by decide +kernel) (by decide +kernel)
theorem tw_534 : Cond.static yX3_seedAfter ∈ lw_good := tw_in (i := 534) (by decide +kernel) (by decide +kernel)
theorem tw_535 : Cond.code yX3_seedAfter cX3_seedAfter 1 (some .int) ∈ lw_good := tw_in (i := 535) (by decide +kernel) (by decide +kernel)
theorem tw_536 : Cond.constantLong RX3 63 1103515245 ∈ lw_good := tw_in (i := 536) (by decide +kernel) (by decide +kernel)
theorem tw_537 : Cond.constantLong RX3 65 12345 ∈ lw_good := tw_in (i := 537) (by decide +kernel) (by decide +kernel)
theorem tw_538 : Cond.constantLong RX3 67 2147483648 ∈ lw_good := tw_in (i := 538) (by decide +kernel) (by decide +kernel)
theorem tw_539 : Cond.constant RX3 62 65536 ∈ lw_good := tw_in (i := 539) (by decide +kernel) (by decide +kernel)
theorem tw_540 : Cond.methodLink RL 102 yX5_image ∈ lw_good := tw_in (i := 540) (by decide +kernel) (by decide +kernel)
theorem tw_541 : Cond.instanceMethod yX5_image ∈ lw_good := tw_in (i := 541) (by decide +kernel) (by decide +kernel)
theorem tw_542 : Cond.selects RX5 yX5_image yX5_image ∈ lw_good := tw_in (i := 542) (by decide +kernel) (by decide +kernel)
theorem tw_543 : Cond.code yX5_image cX5_image 1 (some .int) ∈ lw_good := tw_in (i := 543) (by decide +kernel) (by decide +kernel)
theorem tw_544 : Cond.methodLink RX5 210 yX1_copy ∈ lw_good := tw_in (i := 544) (by decide +kernel) (by decide +kernel)
theorem tw_545 : Cond.instanceMethod yX1_copy ∈ lw_good := tw_in (i := 545) (by decide +kernel) (by decide +kernel)
theorem tw_546 : Cond.selects RX1 yX1_copy yX1_copy ∈ lw_good := tw_in (i := 546) (by decide +kernel) (by decide +kernel)
theorem tw_547 : Cond.code yX1_copy cX1_copy 2 none ∈ lw_good := tw_in (i := 547) (by decide +kernel) (by decide +kernel)
theorem tw_548 : Cond.methodLink RX1 19 arraycopyName ∈ lw_good := tw_in (i := 548) (by decide +kernel) (by decide +kernel)
theorem tw_549 : Cond.methodLink RL 106 yX5_restore ∈ lw_good := tw_in (i := 549) (by decide +kernel) (by decide +kernel)
theorem tw_550 : Cond.instanceMethod yX5_restore ∈ lw_good := tw_in (i := 550) (by decide +kernel) (by decide +kernel)
theorem tw_551 : Cond.selects RX5 yX5_restore yX5_restore ∈ lw_good := tw_in (i := 551) (by decide +kernel) (by decide +kernel)
theorem tw_552 : Cond.code yX5_restore cX5_restore 1 (some .int) ∈ lw_good := tw_in (i := 552) (by decide +kernel) (by decide +kernel)
theorem tw_553 : Cond.methodLink RL 110 yX5_count ∈ lw_good := tw_in (i := 553) (by decide +kernel) (by decide +kernel)
theorem tw_554 : Cond.instanceMethod yX5_count ∈ lw_good := tw_in (i := 554) (by decide +kernel) (by decide +kernel)
theorem tw_555 : Cond.selects RX5 yX5_count yX5_count ∈ lw_good := tw_in (i := 555) (by decide +kernel) (by decide +kernel)
theorem tw_556 : Cond.code yX5_count cX5_count 2 (some .int) ∈ lw_good := tw_in (i := 556) (by decide +kernel) (by decide +kernel)
theorem tw_557 : Cond.methodLink RL 114 yX5_digest ∈ lw_good := tw_in (i := 557) (by decide +kernel) (by decide +kernel)
theorem tw_558 : Cond.instanceMethod yX5_digest ∈ lw_good := tw_in (i := 558) (by decide +kernel) (by decide +kernel)
theorem tw_559 : Cond.selects RX5 yX5_digest yX5_digest ∈ lw_good := tw_in (i := 559) (by decide +kernel) (by decide +kernel)
theorem tw_560 : Cond.code yX5_digest cX5_digest 5 (some .long) ∈ lw_good := tw_in (i := 560) (by decide +kernel) (by decide +kernel)
theorem tw_561 : Cond.constantLong RX5 222 757 ∈ lw_good := tw_in (i := 561) (by decide +kernel) (by decide +kernel)
theorem tw_562 : Cond.methodLink RX5 224 yX5_place ∈ lw_good := tw_in (i := 562) (by decide +kernel) (by decide +kernel)
theorem tw_563 : Cond.methodLink RX5 227 yX5_mix ∈ lw_good := tw_in (i := 563) (by decide +kernel) (by decide +kernel)
theorem tw_564 : Cond.static yX5_mix ∈ lw_good := tw_in (i := 564) (by decide +kernel) (by decide +kernel)
theorem tw_565 : Cond.code yX5_mix cX5_mix 4 (some .long) ∈ lw_good := tw_in (i := 565) (by decide +kernel) (by decide +kernel)
theorem tw_566 : Cond.constantLong RX5 255 31 ∈ lw_good := tw_in (i := 566) (by decide +kernel) (by decide +kernel)
theorem tw_567 : Cond.methodLink RX5 231 yX5_about ∈ lw_good := tw_in (i := 567) (by decide +kernel) (by decide +kernel)
theorem tw_568 : Cond.methodLink RX5 234 yX5_outcome ∈ lw_good := tw_in (i := 568) (by decide +kernel) (by decide +kernel)
theorem tw_569 : Cond.methodLink RX5 237 yX5_waxing ∈ lw_good := tw_in (i := 569) (by decide +kernel) (by decide +kernel)
theorem tw_570 : Cond.methodLink RX5 240 yX5_listener ∈ lw_good := tw_in (i := 570) (by decide +kernel) (by decide +kernel)
theorem tw_571 : Cond.methodLink RX5 243 yX5_sold ∈ lw_good := tw_in (i := 571) (by decide +kernel) (by decide +kernel)
theorem tw_572 : Cond.methodLink RX5 246 yX5_fits ∈ lw_good := tw_in (i := 572) (by decide +kernel) (by decide +kernel)
theorem tw_573 : Cond.methodLink RX5 249 yX2_codeAt ∈ lw_good := tw_in (i := 573) (by decide +kernel) (by decide +kernel)
theorem tw_574 : Cond.methodLink RX5 252 yX5_count ∈ lw_good := tw_in (i := 574) (by decide +kernel) (by decide +kernel)
theorem tw_575 : Cond.classLink RL 10 RX6 ∈ lw_good := tw_in (i := 575) (by decide +kernel) (by decide +kernel)
theorem tw_576 : Cond.instantiable RX6 50 ∈ lw_good := tw_in (i := 576) (by decide +kernel) (by decide +kernel)
theorem tw_577 : Cond.methodLink RL 12 yX6_init ∈ lw_good := tw_in (i := 577) (by decide +kernel) (by decide +kernel)
theorem tw_578 : Cond.instanceMethod yX6_init ∈ lw_good := tw_in (i := 578) (by decide +kernel) (by decide +kernel)
theorem tw_579 : Cond.code yX6_init cX6_init 1 none ∈ lw_good := tw_in (i := 579) (by decide +kernel) (by decide +kernel)
theorem tw_580 : Cond.methodLink RX6 1 objectInit ∈ lw_good := tw_in (i := 580) (by decide +kernel) (by decide +kernel)
theorem tw_581 : Cond.fieldLink RX6 100 "WaxInEarsModel" "isPassage" "Z" ∈ lw_good := tw_in (i := 581) (by decide +kernel) (by decide +kernel)
theorem tw_582 : Cond.fieldLink RX6 103 "WaxInEarsModel" "passages" "I" ∈ lw_good := tw_in (i := 582) (by decide +kernel) (by decide +kernel)
theorem tw_583 : Cond.fieldLink RX6 91 "WaxInEarsModel" "need" "I" ∈ lw_good := tw_in (i := 583) (by decide +kernel) (by decide +kernel)
theorem tw_584 : Cond.fieldLink RX6 94 "WaxInEarsModel" "noon" "I" ∈ lw_good := tw_in (i := 584) (by decide +kernel) (by decide +kernel)
theorem tw_585 : Cond.fieldLink RX6 97 "WaxInEarsModel" "places" "I" ∈ lw_good := tw_in (i := 585) (by decide +kernel) (by decide +kernel)
theorem tw_586 : Cond.fieldLink RX6 7 "WaxInEarsModel" "songOf" "[I" ∈ lw_good := tw_in (i := 586) (by decide +kernel) (by decide +kernel)
theorem tw_587 : Cond.fieldLink RX6 13 "WaxInEarsModel" "rockOf" "[I" ∈ lw_good := tw_in (i := 587) (by decide +kernel) (by decide +kernel)
theorem tw_588 : Cond.fieldLink RX6 106 "WaxInEarsModel" "men" "I" ∈ lw_good := tw_in (i := 588) (by decide +kernel) (by decide +kernel)
theorem tw_589 : Cond.fieldLink RX6 16 "WaxInEarsModel" "kindOf" "[I" ∈ lw_good := tw_in (i := 589) (by decide +kernel) (by decide +kernel)
theorem tw_590 : Cond.fieldLink RX6 19 "WaxInEarsModel" "oarOf" "[I" ∈ lw_good := tw_in (i := 590) (by decide +kernel) (by decide +kernel)
theorem tw_591 : Cond.fieldLink RX6 22 "WaxInEarsModel" "willOf" "[I" ∈ lw_good := tw_in (i := 591) (by decide +kernel) (by decide +kernel)
theorem tw_592 : Cond.fieldLink RX6 25 "WaxInEarsModel" "knotsOf" "[I" ∈ lw_good := tw_in (i := 592) (by decide +kernel) (by decide +kernel)
theorem tw_593 : Cond.fieldLink RX6 112 "WaxInEarsModel" "waxSet" "I" ∈ lw_good := tw_in (i := 593) (by decide +kernel) (by decide +kernel)
theorem tw_594 : Cond.fieldLink RX6 118 "WaxInEarsModel" "lostSet" "I" ∈ lw_good := tw_in (i := 594) (by decide +kernel) (by decide +kernel)
theorem tw_595 : Cond.fieldLink RX6 121 "WaxInEarsModel" "place" "I" ∈ lw_good := tw_in (i := 595) (by decide +kernel) (by decide +kernel)
theorem tw_596 : Cond.fieldLink RX6 124 "WaxInEarsModel" "stroke" "I" ∈ lw_good := tw_in (i := 596) (by decide +kernel) (by decide +kernel)
theorem tw_597 : Cond.fieldLink RX6 127 "WaxInEarsModel" "how" "I" ∈ lw_good := tw_in (i := 597) (by decide +kernel) (by decide +kernel)
theorem tw_598 : Cond.fieldLink RX6 147 "WaxInEarsModel" "swamSet" "I" ∈ lw_good := tw_in (i := 598) (by decide +kernel) (by decide +kernel)
theorem tw_599 : Cond.fieldLink RX6 109 "WaxInEarsModel" "logged" "I" ∈ lw_good := tw_in (i := 599) (by decide +kernel) (by decide +kernel)
theorem tw_600 : Cond.fieldLink RX6 28 "WaxInEarsModel" "logOf" "[I" ∈ lw_good := tw_in (i := 600) (by decide +kernel) (by decide +kernel)
theorem tw_601 : Cond.fieldLink RX6 60 "WaxInEarsModel" "pageLength" "I" ∈ lw_good := tw_in (i := 601) (by decide +kernel) (by decide +kernel)
theorem tw_602 : Cond.fieldLink RX6 31 "WaxInEarsModel" "page" "[B" ∈ lw_good := tw_in (i := 602) (by decide +kernel) (by decide +kernel)
theorem tw_603 : Cond.fieldLink RX6 81 "WaxInEarsModel" "faultAt" "I" ∈ lw_good := tw_in (i := 603) (by decide +kernel) (by decide +kernel)
theorem tw_604 : Cond.fieldLink RX6 84 "WaxInEarsModel" "isWhole" "Z" ∈ lw_good := tw_in (i := 604) (by decide +kernel) (by decide +kernel)
theorem tw_605 : Cond.fieldLink RX6 64 "WaxInEarsModel" "newNeed" "I" ∈ lw_good := tw_in (i := 605) (by decide +kernel) (by decide +kernel)
theorem tw_606 : Cond.fieldLink RX6 67 "WaxInEarsModel" "newNoon" "I" ∈ lw_good := tw_in (i := 606) (by decide +kernel) (by decide +kernel)
theorem tw_607 : Cond.fieldLink RX6 70 "WaxInEarsModel" "newPlaces" "I" ∈ lw_good := tw_in (i := 607) (by decide +kernel) (by decide +kernel)
theorem tw_608 : Cond.fieldLink RX6 35 "WaxInEarsModel" "newSong" "[I" ∈ lw_good := tw_in (i := 608) (by decide +kernel) (by decide +kernel)
theorem tw_609 : Cond.fieldLink RX6 38 "WaxInEarsModel" "newRock" "[I" ∈ lw_good := tw_in (i := 609) (by decide +kernel) (by decide +kernel)
theorem tw_610 : Cond.fieldLink RX6 173 "WaxInEarsModel" "savedWax" "I" ∈ lw_good := tw_in (i := 610) (by decide +kernel) (by decide +kernel)
theorem tw_611 : Cond.fieldLink RX6 176 "WaxInEarsModel" "savedLost" "I" ∈ lw_good := tw_in (i := 611) (by decide +kernel) (by decide +kernel)
theorem tw_612 : Cond.fieldLink RX6 179 "WaxInEarsModel" "savedPlace" "I" ∈ lw_good := tw_in (i := 612) (by decide +kernel) (by decide +kernel)
theorem tw_613 : Cond.fieldLink RX6 182 "WaxInEarsModel" "savedStroke" "I" ∈ lw_good := tw_in (i := 613) (by decide +kernel) (by decide +kernel)
theorem tw_614 : Cond.fieldLink RX6 185 "WaxInEarsModel" "savedHow" "I" ∈ lw_good := tw_in (i := 614) (by decide +kernel) (by decide +kernel)
theorem tw_615 : Cond.fieldLink RX6 41 "WaxInEarsModel" "savedKnots" "[I" ∈ lw_good := tw_in (i := 615) (by decide +kernel) (by decide +kernel)
theorem tw_616 : Cond.fieldLink RX6 44 "WaxInEarsModel" "savedSong" "[I" ∈ lw_good := tw_in (i := 616) (by decide +kernel) (by decide +kernel)
theorem tw_617 : Cond.fieldLink RX6 47 "WaxInEarsModel" "hadOf" "[I" ∈ lw_good := tw_in (i := 617) (by decide +kernel) (by decide +kernel)
theorem tw_618 : Cond.fieldLink RX6 229 "WaxInEarsModel" "seedNow" "J" ∈ lw_good := tw_in (i := 618) (by decide +kernel) (by decide +kernel)
theorem tw_619 : Cond.fieldLink RX6 246 "WaxInEarsModel" "isKept" "Z" ∈ lw_good := tw_in (i := 619) (by decide +kernel) (by decide +kernel)
theorem tw_620 : Cond.fieldLink RX6 249 "WaxInEarsModel" "keptPassage" "I" ∈ lw_good := tw_in (i := 620) (by decide +kernel) (by decide +kernel)
theorem tw_621 : Cond.fieldLink RX6 252 "WaxInEarsModel" "keptMen" "I" ∈ lw_good := tw_in (i := 621) (by decide +kernel) (by decide +kernel)
theorem tw_622 : Cond.fieldLink RX6 255 "WaxInEarsModel" "keptWax" "I" ∈ lw_good := tw_in (i := 622) (by decide +kernel) (by decide +kernel)
theorem tw_623 : Cond.fieldLink RX6 258 "WaxInEarsModel" "keptLost" "I" ∈ lw_good := tw_in (i := 623) (by decide +kernel) (by decide +kernel)
theorem tw_624 : Cond.fieldLink RX6 261 "WaxInEarsModel" "keptPlace" "I" ∈ lw_good := tw_in (i := 624) (by decide +kernel) (by decide +kernel)
theorem tw_625 : Cond.fieldLink RX6 264 "WaxInEarsModel" "keptStroke" "I" ∈ lw_good := tw_in (i := 625) (by decide +kernel) (by decide +kernel)
theorem tw_626 : Cond.fieldLink RX6 267 "WaxInEarsModel" "keptHow" "I" ∈ lw_good := tw_in (i := 626) (by decide +kernel) (by decide +kernel)
theorem tw_627 : Cond.fieldLink RX6 270 "WaxInEarsModel" "keptLogged" "I" ∈ lw_good := tw_in (i := 627) (by decide +kernel) (by decide +kernel)
theorem tw_628 : Cond.fieldLink RX6 50 "WaxInEarsModel" "keptKnots" "[I" ∈ lw_good := tw_in (i := 628) (by decide +kernel) (by decide +kernel)
theorem tw_629 : Cond.fieldLink RX6 53 "WaxInEarsModel" "keptLogOf" "[I" ∈ lw_good := tw_in (i := 629) (by decide +kernel) (by decide +kernel)
theorem tw_630 : Cond.fieldLink RX6 278 "WaxInEarsModel" "h" "J" ∈ lw_good := tw_in (i := 630) (by decide +kernel) (by decide +kernel)
theorem tw_732 : Cond.arrayClass .byte ∈ lw_good := tw_in (i := 732) (by decide +kernel) (by decide +kernel)
theorem tw_733 : Cond.methodLink RL 17 yX6_letter ∈ lw_good := tw_in (i := 733) (by decide +kernel) (by decide +kernel)
theorem tw_734 : Cond.instanceMethod yX6_letter ∈ lw_good := tw_in (i := 734) (by decide +kernel) (by decide +kernel)
theorem tw_735 : Cond.selects RX6 yX6_letter yX6_letter ∈ lw_good := tw_in (i := 735) (by decide +kernel) (by decide +kernel)
theorem tw_736 : Cond.code yX6_letter cX6_letter 2 (some .int) ∈ lw_good := tw_in (i := 736) (by decide +kernel) (by decide +kernel)
theorem tw_737 : Cond.methodLink RX6 56 yX6_within ∈ lw_good := tw_in (i := 737) (by decide +kernel) (by decide +kernel)
theorem tw_738 : Cond.static yX6_within ∈ lw_good := tw_in (i := 738) (by decide +kernel) (by decide +kernel)
theorem tw_739 : Cond.code yX6_within cX6_within 3 (some .boolean) ∈ lw_good := tw_in (i := 739) (by decide +kernel) (by decide +kernel)
theorem tw_740 : Cond.methodLink RL 22 yX6_blank ∈ lw_good := tw_in (i := 740) (by decide +kernel) (by decide +kernel)
theorem tw_741 : Cond.instanceMethod yX6_blank ∈ lw_good := tw_in (i := 741) (by decide +kernel) (by decide +kernel)
theorem tw_742 : Cond.selects RX6 yX6_blank yX6_blank ∈ lw_good := tw_in (i := 742) (by decide +kernel) (by decide +kernel)
theorem tw_743 : Cond.code yX6_blank cX6_blank 2 (some .int) ∈ lw_good := tw_in (i := 743) (by decide +kernel) (by decide +kernel)
theorem tw_744 : Cond.methodLink RL 26 yX6_fault ∈ lw_good := tw_in (i := 744) (by decide +kernel) (by decide +kernel)
theorem tw_745 : Cond.instanceMethod yX6_fault ∈ lw_good := tw_in (i := 745) (by decide +kernel) (by decide +kernel)
theorem tw_746 : Cond.selects RX6 yX6_fault yX6_fault ∈ lw_good := tw_in (i := 746) (by decide +kernel) (by decide +kernel)
theorem tw_747 : Cond.code yX6_fault cX6_fault 1 (some .int) ∈ lw_good := tw_in (i := 747) (by decide +kernel) (by decide +kernel)
theorem tw_748 : Cond.methodLink RX6 88 yX6_readPassage ∈ lw_good := tw_in (i := 748) (by decide +kernel) (by decide +kernel)
theorem tw_750 : Cond.instanceMethod yX6_readPassage ∈ lw_good := tw_in (i := 750) (by decide +kernel) (by decide +kernel)
theorem tw_751 : Cond.code yX6_readPassage cX6_readPassage 5 none ∈ lw_good := tw_in (i := 751) (by decide +kernel) (by decide +kernel)
theorem tw_752 : Cond.methodLink RX6 77 yX6_nextState ∈ lw_good := tw_in (i := 752) (by decide +kernel) (by decide +kernel)
theorem tw_754 : Cond.instanceMethod yX6_nextState ∈ lw_good := tw_in (i := 754) (by decide +kernel) (by decide +kernel)
theorem tw_755 : Cond.code yX6_nextState cX6_nextState 4 (some .int) ∈ lw_good := tw_in (i := 755) (by decide +kernel) (by decide +kernel)
theorem tw_756 : Cond.methodLink RX6 73 yX6_placeState ∈ lw_good := tw_in (i := 756) (by decide +kernel) (by decide +kernel)
theorem tw_758 : Cond.instanceMethod yX6_placeState ∈ lw_good := tw_in (i := 758) (by decide +kernel) (by decide +kernel)
theorem tw_759 : Cond.code yX6_placeState cX6_placeState 3 (some .int) ∈ lw_good := tw_in (i := 759) (by decide +kernel) (by decide +kernel)
theorem tw_760 : Cond.methodLink RL 30 yX6_passage ∈ lw_good := tw_in (i := 760) (by decide +kernel) (by decide +kernel)
theorem tw_761 : Cond.instanceMethod yX6_passage ∈ lw_good := tw_in (i := 761) (by decide +kernel) (by decide +kernel)
theorem tw_762 : Cond.selects RX6 yX6_passage yX6_passage ∈ lw_good := tw_in (i := 762) (by decide +kernel) (by decide +kernel)
theorem tw_763 : Cond.code yX6_passage cX6_passage 2 (some .int) ∈ lw_good := tw_in (i := 763) (by decide +kernel) (by decide +kernel)
theorem tw_764 : Cond.methodLink RX6 115 yX6_begin ∈ lw_good := tw_in (i := 764) (by decide +kernel) (by decide +kernel)
theorem tw_766 : Cond.instanceMethod yX6_begin ∈ lw_good := tw_in (i := 766) (by decide +kernel) (by decide +kernel)
theorem tw_767 : Cond.code yX6_begin cX6_begin 1 none ∈ lw_good := tw_in (i := 767) (by decide +kernel) (by decide +kernel)
theorem tw_768 : Cond.methodLink RL 35 yX6_place ∈ lw_good := tw_in (i := 768) (by decide +kernel) (by decide +kernel)
theorem tw_769 : Cond.instanceMethod yX6_place ∈ lw_good := tw_in (i := 769) (by decide +kernel) (by decide +kernel)
theorem tw_770 : Cond.selects RX6 yX6_place yX6_place ∈ lw_good := tw_in (i := 770) (by decide +kernel) (by decide +kernel)
theorem tw_771 : Cond.code yX6_place cX6_place 3 (some .int) ∈ lw_good := tw_in (i := 771) (by decide +kernel) (by decide +kernel)
theorem tw_772 : Cond.methodLink RL 40 yX6_man ∈ lw_good := tw_in (i := 772) (by decide +kernel) (by decide +kernel)
theorem tw_773 : Cond.instanceMethod yX6_man ∈ lw_good := tw_in (i := 773) (by decide +kernel) (by decide +kernel)
theorem tw_774 : Cond.selects RX6 yX6_man yX6_man ∈ lw_good := tw_in (i := 774) (by decide +kernel) (by decide +kernel)
theorem tw_775 : Cond.code yX6_man cX6_man 4 (some .int) ∈ lw_good := tw_in (i := 775) (by decide +kernel) (by decide +kernel)
theorem tw_776 : Cond.methodLink RL 44 yX6_about ∈ lw_good := tw_in (i := 776) (by decide +kernel) (by decide +kernel)
theorem tw_777 : Cond.instanceMethod yX6_about ∈ lw_good := tw_in (i := 777) (by decide +kernel) (by decide +kernel)
theorem tw_778 : Cond.selects RX6 yX6_about yX6_about ∈ lw_good := tw_in (i := 778) (by decide +kernel) (by decide +kernel)
theorem tw_779 : Cond.code yX6_about cX6_about 3 (some .int) ∈ lw_good := tw_in (i := 779) (by decide +kernel) (by decide +kernel)
theorem tw_780 : Cond.methodLink RX6 141 yX6_isMan ∈ lw_good := tw_in (i := 780) (by decide +kernel) (by decide +kernel)
theorem tw_782 : Cond.instanceMethod yX6_isMan ∈ lw_good := tw_in (i := 782) (by decide +kernel) (by decide +kernel)
theorem tw_783 : Cond.code yX6_isMan cX6_isMan 2 (some .boolean) ∈ lw_good := tw_in (i := 783) (by decide +kernel) (by decide +kernel)
theorem tw_784 : Cond.methodLink RX6 144 yX6_manNow ∈ lw_good := tw_in (i := 784) (by decide +kernel) (by decide +kernel)
theorem tw_786 : Cond.instanceMethod yX6_manNow ∈ lw_good := tw_in (i := 786) (by decide +kernel) (by decide +kernel)
theorem tw_787 : Cond.code yX6_manNow cX6_manNow 3 (some .int) ∈ lw_good := tw_in (i := 787) (by decide +kernel) (by decide +kernel)
theorem tw_788 : Cond.methodLink RX6 134 yX6_hears ∈ lw_good := tw_in (i := 788) (by decide +kernel) (by decide +kernel)
theorem tw_790 : Cond.instanceMethod yX6_hears ∈ lw_good := tw_in (i := 790) (by decide +kernel) (by decide +kernel)
theorem tw_791 : Cond.code yX6_hears cX6_hears 2 (some .boolean) ∈ lw_good := tw_in (i := 791) (by decide +kernel) (by decide +kernel)
theorem tw_792 : Cond.methodLink RX6 130 yX6_has ∈ lw_good := tw_in (i := 792) (by decide +kernel) (by decide +kernel)
theorem tw_793 : Cond.static yX6_has ∈ lw_good := tw_in (i := 793) (by decide +kernel) (by decide +kernel)
theorem tw_794 : Cond.code yX6_has cX6_has 2 (some .boolean) ∈ lw_good := tw_in (i := 794) (by decide +kernel) (by decide +kernel)
theorem tw_795 : Cond.methodLink RX6 138 yX6_holds ∈ lw_good := tw_in (i := 795) (by decide +kernel) (by decide +kernel)
theorem tw_797 : Cond.instanceMethod yX6_holds ∈ lw_good := tw_in (i := 797) (by decide +kernel) (by decide +kernel)
theorem tw_798 : Cond.code yX6_holds cX6_holds 2 (some .int) ∈ lw_good := tw_in (i := 798) (by decide +kernel) (by decide +kernel)
theorem tw_799 : Cond.methodLink RL 48 yX6_as ∈ lw_good := tw_in (i := 799) (by decide +kernel) (by decide +kernel)
theorem tw_800 : Cond.instanceMethod yX6_as ∈ lw_good := tw_in (i := 800) (by decide +kernel) (by decide +kernel)
theorem tw_801 : Cond.selects RX6 yX6_as yX6_as ∈ lw_good := tw_in (i := 801) (by decide +kernel) (by decide +kernel)
theorem tw_802 : Cond.code yX6_as cX6_as 4 (some .int) ∈ lw_good := tw_in (i := 802) (by decide +kernel) (by decide +kernel)
theorem tw_803 : Cond.methodLink RL 53 yX6_wax ∈ lw_good := tw_in (i := 803) (by decide +kernel) (by decide +kernel)
theorem tw_804 : Cond.instanceMethod yX6_wax ∈ lw_good := tw_in (i := 804) (by decide +kernel) (by decide +kernel)
theorem tw_805 : Cond.selects RX6 yX6_wax yX6_wax ∈ lw_good := tw_in (i := 805) (by decide +kernel) (by decide +kernel)
theorem tw_806 : Cond.code yX6_wax cX6_wax 4 (some .int) ∈ lw_good := tw_in (i := 806) (by decide +kernel) (by decide +kernel)
theorem tw_807 : Cond.methodLink RL 57 yX6_bind ∈ lw_good := tw_in (i := 807) (by decide +kernel) (by decide +kernel)
theorem tw_808 : Cond.instanceMethod yX6_bind ∈ lw_good := tw_in (i := 808) (by decide +kernel) (by decide +kernel)
theorem tw_809 : Cond.selects RX6 yX6_bind yX6_bind ∈ lw_good := tw_in (i := 809) (by decide +kernel) (by decide +kernel)
theorem tw_810 : Cond.code yX6_bind cX6_bind 4 (some .int) ∈ lw_good := tw_in (i := 810) (by decide +kernel) (by decide +kernel)
theorem tw_811 : Cond.methodLink RL 61 yX6_stroke ∈ lw_good := tw_in (i := 811) (by decide +kernel) (by decide +kernel)
theorem tw_812 : Cond.instanceMethod yX6_stroke ∈ lw_good := tw_in (i := 812) (by decide +kernel) (by decide +kernel)
theorem tw_813 : Cond.selects RX6 yX6_stroke yX6_stroke ∈ lw_good := tw_in (i := 813) (by decide +kernel) (by decide +kernel)
theorem tw_814 : Cond.code yX6_stroke cX6_stroke 1 (some .int) ∈ lw_good := tw_in (i := 814) (by decide +kernel) (by decide +kernel)
theorem tw_815 : Cond.methodLink RX6 167 yX6_isOn ∈ lw_good := tw_in (i := 815) (by decide +kernel) (by decide +kernel)
theorem tw_817 : Cond.instanceMethod yX6_isOn ∈ lw_good := tw_in (i := 817) (by decide +kernel) (by decide +kernel)
theorem tw_818 : Cond.code yX6_isOn cX6_isOn 1 (some .boolean) ∈ lw_good := tw_in (i := 818) (by decide +kernel) (by decide +kernel)
theorem tw_819 : Cond.methodLink RX6 170 yX6_goStroke ∈ lw_good := tw_in (i := 819) (by decide +kernel) (by decide +kernel)
theorem tw_821 : Cond.instanceMethod yX6_goStroke ∈ lw_good := tw_in (i := 821) (by decide +kernel) (by decide +kernel)
theorem tw_822 : Cond.code yX6_goStroke cX6_goStroke 2 none ∈ lw_good := tw_in (i := 822) (by decide +kernel) (by decide +kernel)
theorem tw_823 : Cond.methodLink RX6 150 yX6_swims ∈ lw_good := tw_in (i := 823) (by decide +kernel) (by decide +kernel)
theorem tw_825 : Cond.instanceMethod yX6_swims ∈ lw_good := tw_in (i := 825) (by decide +kernel) (by decide +kernel)
theorem tw_826 : Cond.code yX6_swims cX6_swims 4 (some .boolean) ∈ lw_good := tw_in (i := 826) (by decide +kernel) (by decide +kernel)
theorem tw_827 : Cond.methodLink RX6 153 yX6_everybody ∈ lw_good := tw_in (i := 827) (by decide +kernel) (by decide +kernel)
theorem tw_829 : Cond.instanceMethod yX6_everybody ∈ lw_good := tw_in (i := 829) (by decide +kernel) (by decide +kernel)
theorem tw_830 : Cond.code yX6_everybody cX6_everybody 1 (some .int) ∈ lw_good := tw_in (i := 830) (by decide +kernel) (by decide +kernel)
theorem tw_831 : Cond.methodLink RX6 157 yX6_anyHears ∈ lw_good := tw_in (i := 831) (by decide +kernel) (by decide +kernel)
theorem tw_833 : Cond.instanceMethod yX6_anyHears ∈ lw_good := tw_in (i := 833) (by decide +kernel) (by decide +kernel)
theorem tw_834 : Cond.code yX6_anyHears cX6_anyHears 3 (some .boolean) ∈ lw_good := tw_in (i := 834) (by decide +kernel) (by decide +kernel)
theorem tw_835 : Cond.methodLink RX6 161 yX6_anySees ∈ lw_good := tw_in (i := 835) (by decide +kernel) (by decide +kernel)
theorem tw_837 : Cond.instanceMethod yX6_anySees ∈ lw_good := tw_in (i := 837) (by decide +kernel) (by decide +kernel)
theorem tw_838 : Cond.code yX6_anySees cX6_anySees 4 (some .boolean) ∈ lw_good := tw_in (i := 838) (by decide +kernel) (by decide +kernel)
theorem tw_839 : Cond.methodLink RX6 164 yX6_oars ∈ lw_good := tw_in (i := 839) (by decide +kernel) (by decide +kernel)
theorem tw_841 : Cond.instanceMethod yX6_oars ∈ lw_good := tw_in (i := 841) (by decide +kernel) (by decide +kernel)
theorem tw_842 : Cond.code yX6_oars cX6_oars 3 (some .int) ∈ lw_good := tw_in (i := 842) (by decide +kernel) (by decide +kernel)
theorem tw_843 : Cond.methodLink RL 65 yX6_outcome ∈ lw_good := tw_in (i := 843) (by decide +kernel) (by decide +kernel)
theorem tw_844 : Cond.instanceMethod yX6_outcome ∈ lw_good := tw_in (i := 844) (by decide +kernel) (by decide +kernel)
theorem tw_845 : Cond.selects RX6 yX6_outcome yX6_outcome ∈ lw_good := tw_in (i := 845) (by decide +kernel) (by decide +kernel)
theorem tw_846 : Cond.code yX6_outcome cX6_outcome 2 (some .int) ∈ lw_good := tw_in (i := 846) (by decide +kernel) (by decide +kernel)
theorem tw_847 : Cond.methodLink RX6 200 yX6_outcomeNow ∈ lw_good := tw_in (i := 847) (by decide +kernel) (by decide +kernel)
theorem tw_849 : Cond.instanceMethod yX6_outcomeNow ∈ lw_good := tw_in (i := 849) (by decide +kernel) (by decide +kernel)
theorem tw_850 : Cond.code yX6_outcomeNow cX6_outcomeNow 3 (some .int) ∈ lw_good := tw_in (i := 850) (by decide +kernel) (by decide +kernel)
theorem tw_851 : Cond.methodLink RX6 191 yX6_save ∈ lw_good := tw_in (i := 851) (by decide +kernel) (by decide +kernel)
theorem tw_853 : Cond.instanceMethod yX6_save ∈ lw_good := tw_in (i := 853) (by decide +kernel) (by decide +kernel)
theorem tw_854 : Cond.code yX6_save cX6_save 2 none ∈ lw_good := tw_in (i := 854) (by decide +kernel) (by decide +kernel)
theorem tw_855 : Cond.methodLink RX6 194 yX6_goOn ∈ lw_good := tw_in (i := 855) (by decide +kernel) (by decide +kernel)
theorem tw_857 : Cond.instanceMethod yX6_goOn ∈ lw_good := tw_in (i := 857) (by decide +kernel) (by decide +kernel)
theorem tw_858 : Cond.code yX6_goOn cX6_goOn 2 none ∈ lw_good := tw_in (i := 858) (by decide +kernel) (by decide +kernel)
theorem tw_859 : Cond.methodLink RX6 188 yX6_size ∈ lw_good := tw_in (i := 859) (by decide +kernel) (by decide +kernel)
theorem tw_860 : Cond.static yX6_size ∈ lw_good := tw_in (i := 860) (by decide +kernel) (by decide +kernel)
theorem tw_861 : Cond.code yX6_size cX6_size 3 (some .int) ∈ lw_good := tw_in (i := 861) (by decide +kernel) (by decide +kernel)
theorem tw_862 : Cond.methodLink RX6 197 yX6_back ∈ lw_good := tw_in (i := 862) (by decide +kernel) (by decide +kernel)
theorem tw_864 : Cond.instanceMethod yX6_back ∈ lw_good := tw_in (i := 864) (by decide +kernel) (by decide +kernel)
theorem tw_865 : Cond.code yX6_back cX6_back 2 none ∈ lw_good := tw_in (i := 865) (by decide +kernel) (by decide +kernel)
theorem tw_866 : Cond.methodLink RL 69 yX6_waxing ∈ lw_good := tw_in (i := 866) (by decide +kernel) (by decide +kernel)
theorem tw_867 : Cond.instanceMethod yX6_waxing ∈ lw_good := tw_in (i := 867) (by decide +kernel) (by decide +kernel)
theorem tw_868 : Cond.selects RX6 yX6_waxing yX6_waxing ∈ lw_good := tw_in (i := 868) (by decide +kernel) (by decide +kernel)
theorem tw_869 : Cond.code yX6_waxing cX6_waxing 3 (some .int) ∈ lw_good := tw_in (i := 869) (by decide +kernel) (by decide +kernel)
theorem tw_870 : Cond.methodLink RX6 206 yX6_waxingNow ∈ lw_good := tw_in (i := 870) (by decide +kernel) (by decide +kernel)
theorem tw_872 : Cond.instanceMethod yX6_waxingNow ∈ lw_good := tw_in (i := 872) (by decide +kernel) (by decide +kernel)
theorem tw_873 : Cond.code yX6_waxingNow cX6_waxingNow 7 (some .int) ∈ lw_good := tw_in (i := 873) (by decide +kernel) (by decide +kernel)
theorem tw_874 : Cond.methodLink RX6 203 yX6_badness ∈ lw_good := tw_in (i := 874) (by decide +kernel) (by decide +kernel)
theorem tw_876 : Cond.instanceMethod yX6_badness ∈ lw_good := tw_in (i := 876) (by decide +kernel) (by decide +kernel)
theorem tw_877 : Cond.code yX6_badness cX6_badness 1 (some .int) ∈ lw_good := tw_in (i := 877) (by decide +kernel) (by decide +kernel)
theorem tw_878 : Cond.methodLink RL 73 yX6_hold ∈ lw_good := tw_in (i := 878) (by decide +kernel) (by decide +kernel)
theorem tw_879 : Cond.instanceMethod yX6_hold ∈ lw_good := tw_in (i := 879) (by decide +kernel) (by decide +kernel)
theorem tw_880 : Cond.selects RX6 yX6_hold yX6_hold ∈ lw_good := tw_in (i := 880) (by decide +kernel) (by decide +kernel)
theorem tw_881 : Cond.code yX6_hold cX6_hold 2 (some .int) ∈ lw_good := tw_in (i := 881) (by decide +kernel) (by decide +kernel)
theorem tw_882 : Cond.methodLink RX6 209 yX6_holdNow ∈ lw_good := tw_in (i := 882) (by decide +kernel) (by decide +kernel)
theorem tw_884 : Cond.instanceMethod yX6_holdNow ∈ lw_good := tw_in (i := 884) (by decide +kernel) (by decide +kernel)
theorem tw_885 : Cond.code yX6_holdNow cX6_holdNow 4 (some .int) ∈ lw_good := tw_in (i := 885) (by decide +kernel) (by decide +kernel)
theorem tw_886 : Cond.methodLink RL 77 yX6_listener ∈ lw_good := tw_in (i := 886) (by decide +kernel) (by decide +kernel)
theorem tw_887 : Cond.instanceMethod yX6_listener ∈ lw_good := tw_in (i := 887) (by decide +kernel) (by decide +kernel)
theorem tw_888 : Cond.selects RX6 yX6_listener yX6_listener ∈ lw_good := tw_in (i := 888) (by decide +kernel) (by decide +kernel)
theorem tw_889 : Cond.code yX6_listener cX6_listener 1 (some .int) ∈ lw_good := tw_in (i := 889) (by decide +kernel) (by decide +kernel)
theorem tw_890 : Cond.methodLink RX6 212 yX6_listenerNow ∈ lw_good := tw_in (i := 890) (by decide +kernel) (by decide +kernel)
theorem tw_892 : Cond.instanceMethod yX6_listenerNow ∈ lw_good := tw_in (i := 892) (by decide +kernel) (by decide +kernel)
theorem tw_893 : Cond.code yX6_listenerNow cX6_listenerNow 5 (some .int) ∈ lw_good := tw_in (i := 893) (by decide +kernel) (by decide +kernel)
theorem tw_894 : Cond.methodLink RL 81 yX6_sold ∈ lw_good := tw_in (i := 894) (by decide +kernel) (by decide +kernel)
theorem tw_895 : Cond.instanceMethod yX6_sold ∈ lw_good := tw_in (i := 895) (by decide +kernel) (by decide +kernel)
theorem tw_896 : Cond.selects RX6 yX6_sold yX6_sold ∈ lw_good := tw_in (i := 896) (by decide +kernel) (by decide +kernel)
theorem tw_897 : Cond.code yX6_sold cX6_sold 1 (some .int) ∈ lw_good := tw_in (i := 897) (by decide +kernel) (by decide +kernel)
theorem tw_898 : Cond.methodLink RX6 215 yX6_soldNow ∈ lw_good := tw_in (i := 898) (by decide +kernel) (by decide +kernel)
theorem tw_900 : Cond.instanceMethod yX6_soldNow ∈ lw_good := tw_in (i := 900) (by decide +kernel) (by decide +kernel)
theorem tw_901 : Cond.code yX6_soldNow cX6_soldNow 3 (some .int) ∈ lw_good := tw_in (i := 901) (by decide +kernel) (by decide +kernel)
theorem tw_902 : Cond.methodLink RL 85 yX6_log ∈ lw_good := tw_in (i := 902) (by decide +kernel) (by decide +kernel)
theorem tw_903 : Cond.instanceMethod yX6_log ∈ lw_good := tw_in (i := 903) (by decide +kernel) (by decide +kernel)
theorem tw_904 : Cond.selects RX6 yX6_log yX6_log ∈ lw_good := tw_in (i := 904) (by decide +kernel) (by decide +kernel)
theorem tw_905 : Cond.code yX6_log cX6_log 2 (some .int) ∈ lw_good := tw_in (i := 905) (by decide +kernel) (by decide +kernel)
theorem tw_906 : Cond.methodLink RL 89 yX6_forget ∈ lw_good := tw_in (i := 906) (by decide +kernel) (by decide +kernel)
theorem tw_907 : Cond.instanceMethod yX6_forget ∈ lw_good := tw_in (i := 907) (by decide +kernel) (by decide +kernel)
theorem tw_908 : Cond.selects RX6 yX6_forget yX6_forget ∈ lw_good := tw_in (i := 908) (by decide +kernel) (by decide +kernel)
theorem tw_909 : Cond.code yX6_forget cX6_forget 2 (some .int) ∈ lw_good := tw_in (i := 909) (by decide +kernel) (by decide +kernel)
theorem tw_910 : Cond.methodLink RL 93 yX6_fits ∈ lw_good := tw_in (i := 910) (by decide +kernel) (by decide +kernel)
theorem tw_911 : Cond.instanceMethod yX6_fits ∈ lw_good := tw_in (i := 911) (by decide +kernel) (by decide +kernel)
theorem tw_912 : Cond.selects RX6 yX6_fits yX6_fits ∈ lw_good := tw_in (i := 912) (by decide +kernel) (by decide +kernel)
theorem tw_913 : Cond.code yX6_fits cX6_fits 1 (some .int) ∈ lw_good := tw_in (i := 913) (by decide +kernel) (by decide +kernel)
theorem tw_914 : Cond.methodLink RX6 221 yX6_layFits ∈ lw_good := tw_in (i := 914) (by decide +kernel) (by decide +kernel)
theorem tw_916 : Cond.instanceMethod yX6_layFits ∈ lw_good := tw_in (i := 916) (by decide +kernel) (by decide +kernel)
theorem tw_917 : Cond.code yX6_layFits cX6_layFits 4 (some .int) ∈ lw_good := tw_in (i := 917) (by decide +kernel) (by decide +kernel)
theorem tw_918 : Cond.methodLink RX6 218 yX6_isLoggedSo ∈ lw_good := tw_in (i := 918) (by decide +kernel) (by decide +kernel)
theorem tw_920 : Cond.instanceMethod yX6_isLoggedSo ∈ lw_good := tw_in (i := 920) (by decide +kernel) (by decide +kernel)
theorem tw_921 : Cond.code yX6_isLoggedSo cX6_isLoggedSo 4 (some .boolean) ∈ lw_good := tw_in (i := 921) (by decide +kernel) (by decide +kernel)
theorem tw_922 : Cond.methodLink RL 97 yX6_sure ∈ lw_good := tw_in (i := 922) (by decide +kernel) (by decide +kernel)
theorem tw_923 : Cond.instanceMethod yX6_sure ∈ lw_good := tw_in (i := 923) (by decide +kernel) (by decide +kernel)
theorem tw_924 : Cond.selects RX6 yX6_sure yX6_sure ∈ lw_good := tw_in (i := 924) (by decide +kernel) (by decide +kernel)
theorem tw_925 : Cond.code yX6_sure cX6_sure 2 (some .int) ∈ lw_good := tw_in (i := 925) (by decide +kernel) (by decide +kernel)
theorem tw_926 : Cond.methodLink RX6 224 yX6_sureNow ∈ lw_good := tw_in (i := 926) (by decide +kernel) (by decide +kernel)
theorem tw_928 : Cond.instanceMethod yX6_sureNow ∈ lw_good := tw_in (i := 928) (by decide +kernel) (by decide +kernel)
theorem tw_929 : Cond.code yX6_sureNow cX6_sureNow 3 (some .int) ∈ lw_good := tw_in (i := 929) (by decide +kernel) (by decide +kernel)
theorem tw_930 : Cond.methodLink RL 101 yX6_voyages ∈ lw_good := tw_in (i := 930) (by decide +kernel) (by decide +kernel)
theorem tw_931 : Cond.instanceMethod yX6_voyages ∈ lw_good := tw_in (i := 931) (by decide +kernel) (by decide +kernel)
theorem tw_932 : Cond.selects RX6 yX6_voyages yX6_voyages ∈ lw_good := tw_in (i := 932) (by decide +kernel) (by decide +kernel)
theorem tw_933 : Cond.code yX6_voyages cX6_voyages 4 (some .int) ∈ lw_good := tw_in (i := 933) (by decide +kernel) (by decide +kernel)
theorem tw_934 : Cond.methodLink RX6 242 yX6_voyagesNow ∈ lw_good := tw_in (i := 934) (by decide +kernel) (by decide +kernel)
theorem tw_936 : Cond.instanceMethod yX6_voyagesNow ∈ lw_good := tw_in (i := 936) (by decide +kernel) (by decide +kernel)
theorem tw_937 : Cond.code yX6_voyagesNow cX6_voyagesNow 8 (some .int) ∈ lw_good := tw_in (i := 937) (by decide +kernel) (by decide +kernel)
theorem tw_938 : Cond.methodLink RX6 239 yX6_draw ∈ lw_good := tw_in (i := 938) (by decide +kernel) (by decide +kernel)
theorem tw_940 : Cond.instanceMethod yX6_draw ∈ lw_good := tw_in (i := 940) (by decide +kernel) (by decide +kernel)
theorem tw_941 : Cond.code yX6_draw cX6_draw 2 (some .int) ∈ lw_good := tw_in (i := 941) (by decide +kernel) (by decide +kernel)
theorem tw_942 : Cond.constantLong RX6 227 1103515245 ∈ lw_good := tw_in (i := 942) (by decide +kernel) (by decide +kernel)
theorem tw_943 : Cond.constantLong RX6 233 12345 ∈ lw_good := tw_in (i := 943) (by decide +kernel) (by decide +kernel)
theorem tw_944 : Cond.constantLong RX6 235 2147483647 ∈ lw_good := tw_in (i := 944) (by decide +kernel) (by decide +kernel)
theorem tw_945 : Cond.constantLong RX6 237 65536 ∈ lw_good := tw_in (i := 945) (by decide +kernel) (by decide +kernel)
theorem tw_946 : Cond.methodLink RL 105 yX6_image ∈ lw_good := tw_in (i := 946) (by decide +kernel) (by decide +kernel)
theorem tw_947 : Cond.instanceMethod yX6_image ∈ lw_good := tw_in (i := 947) (by decide +kernel) (by decide +kernel)
theorem tw_948 : Cond.selects RX6 yX6_image yX6_image ∈ lw_good := tw_in (i := 948) (by decide +kernel) (by decide +kernel)
theorem tw_949 : Cond.code yX6_image cX6_image 2 (some .int) ∈ lw_good := tw_in (i := 949) (by decide +kernel) (by decide +kernel)
theorem tw_950 : Cond.methodLink RL 109 yX6_restore ∈ lw_good := tw_in (i := 950) (by decide +kernel) (by decide +kernel)
theorem tw_951 : Cond.instanceMethod yX6_restore ∈ lw_good := tw_in (i := 951) (by decide +kernel) (by decide +kernel)
theorem tw_952 : Cond.selects RX6 yX6_restore yX6_restore ∈ lw_good := tw_in (i := 952) (by decide +kernel) (by decide +kernel)
theorem tw_953 : Cond.code yX6_restore cX6_restore 2 (some .int) ∈ lw_good := tw_in (i := 953) (by decide +kernel) (by decide +kernel)
theorem tw_954 : Cond.methodLink RL 113 yX6_count ∈ lw_good := tw_in (i := 954) (by decide +kernel) (by decide +kernel)
theorem tw_955 : Cond.instanceMethod yX6_count ∈ lw_good := tw_in (i := 955) (by decide +kernel) (by decide +kernel)
theorem tw_956 : Cond.selects RX6 yX6_count yX6_count ∈ lw_good := tw_in (i := 956) (by decide +kernel) (by decide +kernel)
theorem tw_957 : Cond.code yX6_count cX6_count 2 (some .int) ∈ lw_good := tw_in (i := 957) (by decide +kernel) (by decide +kernel)
theorem tw_958 : Cond.methodLink RX6 273 yX6_howMany ∈ lw_good := tw_in (i := 958) (by decide +kernel) (by decide +kernel)
theorem tw_960 : Cond.instanceMethod yX6_howMany ∈ lw_good := tw_in (i := 960) (by decide +kernel) (by decide +kernel)
theorem tw_961 : Cond.code yX6_howMany cX6_howMany 2 (some .int) ∈ lw_good := tw_in (i := 961) (by decide +kernel) (by decide +kernel)
theorem tw_962 : Cond.methodLink RL 118 yX6_digest ∈ lw_good := tw_in (i := 962) (by decide +kernel) (by decide +kernel)
theorem tw_963 : Cond.instanceMethod yX6_digest ∈ lw_good := tw_in (i := 963) (by decide +kernel) (by decide +kernel)
theorem tw_964 : Cond.selects RX6 yX6_digest yX6_digest ∈ lw_good := tw_in (i := 964) (by decide +kernel) (by decide +kernel)
theorem tw_965 : Cond.code yX6_digest cX6_digest 3 (some .long) ∈ lw_good := tw_in (i := 965) (by decide +kernel) (by decide +kernel)
theorem tw_966 : Cond.constantLong RX6 285 757 ∈ lw_good := tw_in (i := 966) (by decide +kernel) (by decide +kernel)
theorem tw_967 : Cond.methodLink RX6 281 yX6_mix ∈ lw_good := tw_in (i := 967) (by decide +kernel) (by decide +kernel)
theorem tw_969 : Cond.instanceMethod yX6_mix ∈ lw_good := tw_in (i := 969) (by decide +kernel) (by decide +kernel)
theorem tw_970 : Cond.code yX6_mix cX6_mix 3 none ∈ lw_good := tw_in (i := 970) (by decide +kernel) (by decide +kernel)
theorem tw_971 : Cond.constantLong RX6 276 31 ∈ lw_good := tw_in (i := 971) (by decide +kernel) (by decide +kernel)
theorem tw_972 : Cond.methodLink RX6 287 yX6_mixOutcome ∈ lw_good := tw_in (i := 972) (by decide +kernel) (by decide +kernel)
theorem tw_974 : Cond.instanceMethod yX6_mixOutcome ∈ lw_good := tw_in (i := 974) (by decide +kernel) (by decide +kernel)
theorem tw_975 : Cond.code yX6_mixOutcome cX6_mixOutcome 2 none ∈ lw_good := tw_in (i := 975) (by decide +kernel) (by decide +kernel)
